/-! five images by name -/
def qa_g5 (p q a b e v : Nat) : Nat := if v = 0 then p else if v = 1 then q else if v = 2 then a else if v = 3 then b else e
theorem qa_g5_0 {p q a b e : Nat} : qa_g5 p q a b e 0 = p := rfl
theorem qa_g5_1 {p q a b e : Nat} : qa_g5 p q a b e 1 = q := rfl
theorem qa_g5_2 {p q a b e : Nat} : qa_g5 p q a b e 2 = a := rfl
theorem qa_g5_3 {p q a b e : Nat} : qa_g5 p q a b e 3 = b := rfl
theorem qa_g5_4 {p q a b e : Nat} : qa_g5 p q a b e 4 = e := rfl
theorem qa_5 {P : Nat → Prop} (h0 : P 0) (h1 : P 1) (h2 : P 2) (h3 : P 3) (h4 : P 4) : ∀ v, v < 5 → P v := fun v hv =>
  match v, hv with
  | 0, _ => h0
  | 1, _ => h1
  | 2, _ => h2
  | 3, _ => h3
  | 4, _ => h4
theorem qa_g5_e (g : Nat → Nat) : ∀ v, v < 5 → qa_g5 (g 0) (g 1) (g 2) (g 3) (g 4) v = g v := qa_5 rfl rfl rfl rfl rfl
theorem qa_g5_lt {p q a b e T : Nat} (hp : p < T) (hq : q < T) (ha : a < T) (hb : b < T) (he : e < T) : ∀ v, v < 5 → qa_g5 p q a b e v < T := qa_5 hp hq ha hb he
/-- a section carried by g into the set F -/
def qa_Ca (m : Nat) (K L R : Nat → Nat) (F : Nat → Nat → Nat → Prop) (g : Nat → Nat) : Prop := ∀ j, j < m → F (K j) (g (L j)) (g (R j))
theorem qa_Ca_cg {m : Nat} {K L R : Nat → Nat} {F : Nat → Nat → Nat → Prop} {g g' : Nat → Nat} {T : Nat} (hL : ∀ j, j < m → L j < T ∧ R j < T) (h : ∀ v, v < T → g v = g' v) (H : qa_Ca m K L R F g) : qa_Ca m K L R F g' := by
  intro j hj
  rw [← h _ (hL j hj).1, ← h _ (hL j hj).2]
  exact H j hj
def qa_E3 (Q : Nat → Nat → Nat → Prop) (T a b e : Nat) : Prop := ∃ e', e ≤ e' ∧ e' < T ∧ Q a b e'
def qa_E2 (Q : Nat → Nat → Nat → Prop) (T a b : Nat) : Prop := ∃ b', b ≤ b' ∧ b' < T ∧ qa_E3 Q T a b' 0
def qa_E1 (Q : Nat → Nat → Nat → Prop) (T a : Nat) : Prop := ∃ a', a ≤ a' ∧ a' < T ∧ qa_E2 Q T a' 0
theorem qa_ex_s {P : Nat → Prop} {T a : Nat} (h : a < T) : (∃ x, a ≤ x ∧ x < T ∧ P x) ↔ (P a ∨ ∃ x, a + 1 ≤ x ∧ x < T ∧ P x) := by
  constructor
  · rintro ⟨x, h1, h2, h3⟩
    by_cases e : x = a
    · subst e; exact Or.inl h3
    · exact Or.inr ⟨x, by omega, h2, h3⟩
  · rintro (h3 | ⟨x, h1, h2, h3⟩)
    · exact ⟨a, Nat.le_refl _, h, h3⟩
    · exact ⟨x, by omega, h2, h3⟩
theorem qa_ex_no {P : Nat → Prop} {T a : Nat} (h : T ≤ a) : ¬ ∃ x, a ≤ x ∧ x < T ∧ P x := by
  rintro ⟨x, h1, h2, _⟩
  omega
theorem qa_M3 {n : Nat} {K L R : Nat → Nat} {F : Nat → Nat → Nat → Prop} {T p q : Nat} (hL : ∀ j, j < n → L j < 5 ∧ R j < 5) (hp : p < T) (hq : q < T) :
    qa_Mt n K L R F T p q ↔ qa_E1 (fun a b e => qa_Ca n K L R F (qa_g5 p q a b e)) T 0 := by
  constructor
  · rintro ⟨g, h0, h1, h2, h3⟩
    refine ⟨g 2, Nat.zero_le _, h2 2 (by decide), g 3, Nat.zero_le _, h2 3 (by decide), g 4, Nat.zero_le _, h2 4 (by decide), ?_⟩
    refine qa_Ca_cg hL (fun v hv => ?_) h3
    rw [← h0, ← h1]
    exact (qa_g5_e g v hv).symm
  · rintro ⟨a, _, ha, b, _, hb, e, _, he, h⟩
    exact ⟨qa_g5 p q a b e, rfl, rfl, qa_g5_lt hp hq ha hb he, h⟩
/-! what a view gives over the query -/
def qa_Vg (c : Nat → Nat) (K L R : Nat → Nat → Nat) (v p q : Nat) : Prop :=
  ∃ a, a < 5 ∧ ∃ b, b < 5 ∧ qa_Ca (c (3 + v)) (K (3 + v)) (L (3 + v)) (R (3 + v)) (qa_In (c 0) (K 0) (L 0) (R 0)) (qa_g5 p q a b 0)
theorem qa_Vg_n {c : Nat → Nat} {K L R : Nat → Nat → Nat} {v p q : Nat} : qa_Vg c K L R v p q ↔ ∃ n, 0 ≤ n ∧ n < 25 ∧ qa_Ca (c (3 + v)) (K (3 + v)) (L (3 + v)) (R (3 + v)) (qa_In (c 0) (K 0) (L 0) (R 0)) (qa_g5 p q (n / 5) (n % 5) 0) := by
  constructor
  · rintro ⟨a, ha, b, hb, h⟩
    refine ⟨5 * a + b, Nat.zero_le _, by omega, ?_⟩
    rw [show (5 * a + b) / 5 = a by omega, show (5 * a + b) % 5 = b by omega]
    exact h
  · rintro ⟨n, _, hn, h⟩
    exact ⟨n / 5, by omega, n % 5, by omega, h⟩
/-! triples, as the arguments come -/
def qa_T (rl vw vl : Nat) (s k x y : Int32) : Prop := ∃ s' k' x' y' : Nat, s = nI s' ∧ k = nI k' ∧ x = nI x' ∧ y = nI y' ∧ s' < 3 + vw ∧ k' < qa_kd rl vw s' ∧ x' < qa_tm vl s' ∧ y' < qa_tm vl s'
theorem qa_in_or (x : Int32) {n : Nat} (hn : n < 2 ^ 31) : (∃ j, j < n ∧ x = nI j) ∨ (¬ ∃ j, j < n ∧ x = nI j) ∧ (x < 0 ∨ (¬ x < 0 ∧ nI n ≤ x)) := by
  by_cases h0 : x < 0
  · refine Or.inr ⟨?_, Or.inl h0⟩
    rintro ⟨j, hj, rfl⟩
    exact nI_pos (by omega) h0
  · obtain ⟨j, hj, rfl⟩ := nI_of h0
    by_cases h : j < n
    · exact Or.inl ⟨j, h, rfl⟩
    · refine Or.inr ⟨?_, Or.inr ⟨h0, nI_le (by omega) hj⟩⟩
      rintro ⟨i, hi, e⟩
      rw [nI_eq hj (by omega)] at e
      omega
