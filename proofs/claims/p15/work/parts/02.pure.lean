/-! the first slot that holds a triple -/
def qa_fd (K L R : Nat → Nat) (k x y : Nat) : Nat → Nat → Option Nat
  | 0, _ => none
  | d + 1, j => if K j = k ∧ L j = x ∧ R j = y then some j else qa_fd K L R k x y d (j + 1)
theorem qa_fd_none {K L R : Nat → Nat} {k x y : Nat} : ∀ d j, qa_fd K L R k x y d j = none → ∀ i, j ≤ i → i < j + d → ¬ (K i = k ∧ L i = x ∧ R i = y) := by
  intro d
  induction d with
  | zero => intro j _ i h1 h2; omega
  | succ d ih =>
    intro j h i h1 h2
    by_cases hc : K j = k ∧ L j = x ∧ R j = y
    · rw [qa_fd, if_pos hc] at h
      exact absurd h (by simp)
    · rw [qa_fd, if_neg hc] at h
      by_cases e : i = j
      · rw [e]; exact hc
      · exact ih (j + 1) h i (by omega) (by omega)
theorem qa_fd_some {K L R : Nat → Nat} {k x y : Nat} : ∀ d j i, qa_fd K L R k x y d j = some i → j ≤ i ∧ i < j + d ∧ K i = k ∧ L i = x ∧ R i = y := by
  intro d
  induction d with
  | zero => intro j i h; rw [qa_fd] at h; exact absurd h (by simp)
  | succ d ih =>
    intro j i h
    by_cases hc : K j = k ∧ L j = x ∧ R j = y
    · rw [qa_fd, if_pos hc] at h
      have e : j = i := Option.some.inj h
      subst e
      exact ⟨Nat.le_refl _, by omega, hc⟩
    · rw [qa_fd, if_neg hc] at h
      obtain ⟨a, b, q⟩ := ih (j + 1) i h
      exact ⟨by omega, by omega, q⟩
/-- the set of the triples of a section -/
def qa_In (m : Nat) (K L R : Nat → Nat) (k x y : Nat) : Prop := ∃ j, j < m ∧ K j = k ∧ L j = x ∧ R j = y
theorem qa_fd_in {K L R : Nat → Nat} {m k x y : Nat} (h : qa_In m K L R k x y) : ∃ j, qa_fd K L R k x y m 0 = some j := by
  cases e : qa_fd K L R k x y m 0 with
  | some j => exact ⟨j, rfl⟩
  | none =>
    obtain ⟨i, hi, hk⟩ := h
    exact absurd hk (qa_fd_none m 0 e i (by omega) (by omega))
theorem qa_in_fd {K L R : Nat → Nat} {m k x y j : Nat} (h : qa_fd K L R k x y m 0 = some j) : qa_In m K L R k x y := by
  obtain ⟨-, b, q⟩ := qa_fd_some m 0 j h
  exact ⟨j, by omega, q⟩
theorem qa_fd_nin {K L R : Nat → Nat} {m k x y : Nat} (h : qa_fd K L R k x y m 0 = none) : ¬ qa_In m K L R k x y := by
  intro q
  obtain ⟨j, e⟩ := qa_fd_in q
  rw [h] at e
  exact absurd e (by simp)
theorem qa_fd_cg {K L R K' L' R' : Nat → Nat} {k x y : Nat} : ∀ d j, (∀ i, j ≤ i → i < j + d → K i = K' i ∧ L i = L' i ∧ R i = R' i) → qa_fd K L R k x y d j = qa_fd K' L' R' k x y d j := by
  intro d
  induction d with
  | zero => intro j _; rfl
  | succ d ih =>
    intro j h
    obtain ⟨a, b, c⟩ := h j (by omega) (by omega)
    rw [qa_fd, qa_fd, a, b, c, ih (j + 1) (fun i h1 h2 => h i (by omega) (by omega))]
/-! vouching: an owner's facts, the owners' facts, ranks -/
def qa_tf (p q b x : Nat) : Nat := if x = 0 then p else if x = 1 then q else b + (x - 2)
theorem qa_tf0 {p q b : Nat} : qa_tf p q b 0 = p := rfl
theorem qa_tf1 {p q b : Nat} : qa_tf p q b 1 = q := rfl
theorem qa_tf2 {p q b x : Nat} (h : 2 ≤ x) : qa_tf p q b x = b + (x - 2) := by
  rw [qa_tf, if_neg (by omega), if_neg (by omega)]
theorem qa_tf_lt {p q b x T : Nat} (hp : p < T) (hq : q < T) (hb : b + 2 ≤ T) (hx : x < 4) : qa_tf p q b x < T := by
  unfold qa_tf
  split
  · exact hp
  · split
    · exact hq
    · omega
def qa_G (m : Nat) (K L R : Nat → Nat) (p q b : Nat) (k x y : Nat) : Prop := ∃ j, j < m ∧ K j = k ∧ qa_tf p q b (L j) = x ∧ qa_tf p q b (R j) = y
def qa_FX (c : Nat → Nat) (K L R : Nat → Nat → Nat) (on : Nat → Bool) (V P Q B : Nat → Nat) (m : Nat) (k x y : Nat) : Prop :=
  ∃ i, i < m ∧ on i = true ∧ qa_G (c (3 + V i)) (K (3 + V i)) (L (3 + V i)) (R (3 + V i)) (P i) (Q i) (B i) k x y
theorem qa_FX_0 {c : Nat → Nat} {K L R : Nat → Nat → Nat} {on : Nat → Bool} {V P Q B : Nat → Nat} {k x y : Nat} : ¬ qa_FX c K L R on V P Q B 0 k x y := fun ⟨i, h, _⟩ => absurd h (Nat.not_lt_zero i)
theorem qa_FX_t {c : Nat → Nat} {K L R : Nat → Nat → Nat} {on : Nat → Bool} {V P Q B : Nat → Nat} {m k x y : Nat} (h : on m = true) :
    qa_FX c K L R on V P Q B (m + 1) k x y ↔ (qa_FX c K L R on V P Q B m k x y ∨ qa_G (c (3 + V m)) (K (3 + V m)) (L (3 + V m)) (R (3 + V m)) (P m) (Q m) (B m) k x y) := by
  constructor
  · rintro ⟨i, hi, ho, hg⟩
    by_cases e : i = m
    · subst e; exact Or.inr hg
    · exact Or.inl ⟨i, by omega, ho, hg⟩
  · rintro (⟨i, hi, ho, hg⟩ | hg)
    · exact ⟨i, by omega, ho, hg⟩
    · exact ⟨m, by omega, h, hg⟩
theorem qa_FX_f {c : Nat → Nat} {K L R : Nat → Nat → Nat} {on : Nat → Bool} {V P Q B : Nat → Nat} {m k x y : Nat} (h : ¬ on m = true) :
    qa_FX c K L R on V P Q B (m + 1) k x y ↔ qa_FX c K L R on V P Q B m k x y := by
  constructor
  · rintro ⟨i, hi, ho, hg⟩
    by_cases e : i = m
    · subst e; exact absurd ho h
    · exact ⟨i, by omega, ho, hg⟩
  · rintro ⟨i, hi, ho, hg⟩
    exact ⟨i, by omega, ho, hg⟩
def qa_rk (on : Nat → Bool) : Nat → Nat
  | 0 => 0
  | i + 1 => qa_rk on i + (if on i = true then 1 else 0)
theorem qa_rk_t {on : Nat → Bool} {i : Nat} (h : on i = true) : qa_rk on (i + 1) = qa_rk on i + 1 := by rw [qa_rk, if_pos h]
theorem qa_rk_f {on : Nat → Bool} {i : Nat} (h : ¬ on i = true) : qa_rk on (i + 1) = qa_rk on i := by
  rw [qa_rk, if_neg h]
  rfl
theorem qa_rk_s (on : Nat → Bool) (i : Nat) : qa_rk on i ≤ qa_rk on (i + 1) := by rw [qa_rk]; omega
theorem qa_rk_mono (on : Nat → Bool) : ∀ d i, qa_rk on i ≤ qa_rk on (i + d) := by
  intro d
  induction d with
  | zero => intro i; exact Nat.le_refl _
  | succ d ih => intro i; exact Nat.le_trans (ih i) (qa_rk_s on (i + d))
theorem qa_rk_le (on : Nat → Bool) : ∀ i, qa_rk on i ≤ i := by
  intro i
  induction i with
  | zero => exact Nat.le_refl _
  | succ i ih => rw [qa_rk]; split <;> omega
theorem qa_rk_lt {on : Nat → Bool} {i j : Nat} (h : i < j) (ho : on i = true) : qa_rk on i + 1 ≤ qa_rk on j := by
  have := qa_rk_mono on (j - (i + 1)) (i + 1)
  rw [show i + 1 + (j - (i + 1)) = j by omega, qa_rk_t ho] at this
  exact this
theorem qa_rk_inj {on : Nat → Bool} {i j : Nat} (hi : on i = true) (hj : on j = true) (h : qa_rk on i = qa_rk on j) : i = j := by
  rcases Nat.lt_trichotomy i j with a | a | a
  · have := qa_rk_lt a hi; omega
  · exact a
  · have := qa_rk_lt a hj; omega
/-- a map that carries an owner's terms carries the owners' facts -/
theorem qa_FX_map {c : Nat → Nat} {K L R : Nat → Nat → Nat} {on : Nat → Bool} {V P Q B B' : Nat → Nat} {m : Nat} (e : Nat → Nat)
    (hL : ∀ i, i < m → ∀ j, j < c (3 + V i) → L (3 + V i) j < 4 ∧ R (3 + V i) j < 4)
    (he : ∀ i x, i < m → on i = true → x < 4 → e (qa_tf (P i) (Q i) (B i) x) = qa_tf (P i) (Q i) (B' i) x) {k x y : Nat}
    (h : qa_FX c K L R on V P Q B m k x y) : qa_FX c K L R on V P Q B' m k (e x) (e y) := by
  obtain ⟨i, hi, ho, j, hj, hk, rfl, rfl⟩ := h
  obtain ⟨a, b⟩ := hL i hi j hj
  exact ⟨i, hi, ho, j, hj, hk, (he i _ hi ho a).symm, (he i _ hi ho b).symm⟩
def qa_Mt (n : Nat) (K L R : Nat → Nat) (F : Nat → Nat → Nat → Prop) (T p q : Nat) : Prop :=
  ∃ g : Nat → Nat, g 0 = p ∧ g 1 = q ∧ (∀ v, v < 5 → g v < T) ∧ ∀ j, j < n → F (K j) (g (L j)) (g (R j))
theorem qa_Mt_map {n : Nat} {K L R : Nat → Nat} {F F' : Nat → Nat → Nat → Prop} {T T' p q : Nat} (e : Nat → Nat) (hT : ∀ t, t < T → e t < T') (hp : e p = p) (hq : e q = q)
    (hF : ∀ k x y, F k x y → F' k (e x) (e y)) (h : qa_Mt n K L R F T p q) : qa_Mt n K L R F' T' p q := by
  obtain ⟨g, h0, h1, h2, h3⟩ := h
  exact ⟨fun v => e (g v), by show e (g 0) = p; rw [h0, hp], by show e (g 1) = q; rw [h1, hq], fun v hv => hT _ (h2 v hv), fun j hj => hF _ _ _ (h3 j hj)⟩
noncomputable def qa_dc (on : Nat → Bool) (base m t : Nat) : Nat :=
  @dite Nat (∃ i, i < m ∧ on i = true ∧ qa_rk on i = (t - base) / 2) (Classical.propDecidable _) (fun h => if t < base then t else 5 + 2 * h.choose + (t - base) % 2) (fun _ => if t < base then t else 0)
theorem qa_dc_lo {on : Nat → Bool} {base m t : Nat} (h : t < base) : qa_dc on base m t = t := by
  unfold qa_dc
  split
  · first | rfl | rw [if_pos h]
  · first | rfl | rw [if_pos h]
theorem qa_dc_hi {on : Nat → Bool} {base m i s : Nat} (hi : i < m) (ho : on i = true) (hs : s < 2) : qa_dc on base m (base + 2 * qa_rk on i + s) = 5 + 2 * i + s := by
  have hd : (base + 2 * qa_rk on i + s - base) / 2 = qa_rk on i := by omega
  have hm : (base + 2 * qa_rk on i + s - base) % 2 = s := by omega
  have hx : ∃ j, j < m ∧ on j = true ∧ qa_rk on j = (base + 2 * qa_rk on i + s - base) / 2 := ⟨i, hi, ho, hd.symm⟩
  unfold qa_dc
  rw [dif_pos hx, if_neg (by omega), hm]
  have hc := hx.choose_spec
  rw [qa_rk_inj hc.2.1 ho (hc.2.2.trans hd)]
theorem qa_dc_lt {on : Nat → Bool} {base m t : Nat} (hb : base ≤ 5) (hm : m ≤ 8) : qa_dc on base m t < 21 := by
  unfold qa_dc
  split
  · rename_i h
    have := h.choose_spec.1
    split
    · omega
    · omega
  · split <;> omega
def qa_ec (on : Nat → Bool) (base m t : Nat) : Nat :=
  if t < base then t else if 5 ≤ t ∧ (t - 5) / 2 < m ∧ on ((t - 5) / 2) = true then base + 2 * qa_rk on ((t - 5) / 2) + (t - 5) % 2 else 0
theorem qa_ec_lo {on : Nat → Bool} {base m t : Nat} (h : t < base) : qa_ec on base m t = t := by rw [qa_ec, if_pos h]
theorem qa_ec_hi {on : Nat → Bool} {base m i s : Nat} (hb : base ≤ 5) (hi : i < m) (ho : on i = true) (hs : s < 2) : qa_ec on base m (5 + 2 * i + s) = base + 2 * qa_rk on i + s := by
  have hd : (5 + 2 * i + s - 5) / 2 = i := by omega
  have hm : (5 + 2 * i + s - 5) % 2 = s := by omega
  rw [qa_ec, if_neg (by omega), hd, hm, if_pos ⟨by omega, hi, ho⟩]
theorem qa_ec_lt {on : Nat → Bool} {base m t : Nat} (hb : 0 < base) : qa_ec on base m t < base + 2 * qa_rk on m := by
  unfold qa_ec
  split
  · omega
  · split
    · rename_i h
      have := qa_rk_lt h.2.1 h.2.2
      omega
    · omega
theorem qa_tf_map {e : Nat → Nat} {p q b b' base x : Nat} (hp : p < base) (hq : q < base) (hlo : ∀ t, t < base → e t = t) (hhi : ∀ s, s < 2 → e (b + s) = b' + s) (hx : x < 4) :
    e (qa_tf p q b x) = qa_tf p q b' x := by
  by_cases h0 : x = 0
  · subst h0; rw [qa_tf0, qa_tf0]; exact hlo p hp
  · by_cases h1 : x = 1
    · subst h1; rw [qa_tf1, qa_tf1]; exact hlo q hq
    · rw [qa_tf2 (by omega), qa_tf2 (by omega)]; exact hhi _ (by omega)
/-- the two numberings of the unknown terms give the same matches -/
theorem qa_xy {c : Nat → Nat} {K L R : Nat → Nat → Nat} {on : Nat → Bool} {V P Q : Nat → Nat} {m base p q n : Nat} {Kq Lq Rq : Nat → Nat}
    (hm : m ≤ 8) (hb : base ≤ 5) (hL : ∀ i, i < m → ∀ j, j < c (3 + V i) → L (3 + V i) j < 4 ∧ R (3 + V i) j < 4)
    (hP : ∀ i, i < m → P i < base ∧ Q i < base) (hp : p < base) (hq : q < base) :
    qa_Mt n Kq Lq Rq (qa_FX c K L R on V P Q (fun i => 5 + 2 * i) m) 21 p q ↔ qa_Mt n Kq Lq Rq (qa_FX c K L R on V P Q (fun i => base + 2 * qa_rk on i) m) (base + 2 * qa_rk on m) p q := by
  constructor
  · refine qa_Mt_map (qa_ec on base m) (fun t _ => qa_ec_lt (by omega)) (qa_ec_lo hp) (qa_ec_lo hq) (fun k x y h => ?_)
    exact qa_FX_map _ hL (fun i x hi ho hx => qa_tf_map (hP i hi).1 (hP i hi).2 (fun t ht => qa_ec_lo ht) (fun s hs => qa_ec_hi hb hi ho hs) hx) h
  · refine qa_Mt_map (qa_dc on base m) (fun t _ => qa_dc_lt hb hm) (qa_dc_lo hp) (qa_dc_lo hq) (fun k x y h => ?_)
    exact qa_FX_map _ hL (fun i x hi ho hx => qa_tf_map (hP i hi).1 (hP i hi).2 (fun t ht => qa_dc_lo ht) (fun s hs => qa_dc_hi hi ho hs) hx) h
