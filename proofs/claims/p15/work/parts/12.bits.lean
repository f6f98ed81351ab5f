/-! sets as bits -/
theorem qp_bt {m v : Nat} (hv : v < 32) : bt (nI m) v = m.testBit v := by
  unfold bt
  show (BitVec.ofNat 32 m).getLsbD v = _
  rw [BitVec.getLsbD_ofNat]
  simp [hv]
theorem qp_sh : ∀ n, n < 8 → (1 : Int32) <<< (nI n &&& 31) = nI (2 ^ n) := by decide +kernel
theorem qp_orb : ∀ w, w < 8 → ∀ v, v < 3 → nI w ||| ((1 : Int32) <<< (nI v &&& 31)) = nI (w ||| 2 ^ v) := by decide +kernel
theorem qp_sub : ∀ w, w < 8 → ∀ m, m < 8 → (nI w &&& (nI m ^^^ (-1)) = 0 ↔ w &&& m = w) := by decide +kernel
theorem qp_tst {S i : Nat} (hi : i < 32) : ((nI S >>> (nI i &&& 31)) &&& 1 = 1) ↔ S.testBit i = true := by rw [qb_t1 _ hi, qp_bt hi]
theorem qp_andw {w m : Nat} (h : w &&& m = w) {v : Nat} (hv : w.testBit v = true) : m.testBit v = true := by
  rw [← h, Nat.testBit_and, Bool.and_eq_true] at hv
  exact hv.2
theorem qp_wand {w m : Nat} (h : ∀ v, w.testBit v = true → m.testBit v = true) : w &&& m = w := by
  apply Nat.eq_of_testBit_eq
  intro v
  rw [Nat.testBit_and]
  cases e : w.testBit v
  · rfl
  · rw [h v e]; rfl
def qp_Wi (good : Int32) (m : Nat) : Prop := ∃ w, w < 8 ∧ bt good w = true ∧ w &&& m = w
theorem qp_wi2 {post : Int32 → Prop} {good : Int32} {m : Nat} (hm : m < 8) :
    ∀ d w n, w + d = 8 → d < n → ((∃ x, w ≤ x ∧ x < 8 ∧ (bt good x = true ∧ x &&& m = x)) → post 1) → ((¬ ∃ x, w ≤ x ∧ x < 8 ∧ (bt good x = true ∧ x &&& m = x)) → post 0) → wL_within_2 post good (nI m) n (nI w) := by
  intro d
  induction d with
  | zero =>
    intro w n hw hn p1 p0
    obtain ⟨n, rfl⟩ : ∃ m, n = m + 1 := ⟨n - 1, by omega⟩
    exact br_t (nI_le (a := 8) (by omega) (by omega)) (p0 (qa_ex_no (by omega)))
  | succ d ih =>
    intro w n hw hn p1 p0
    obtain ⟨n, rfl⟩ : ∃ m, n = m + 1 := ⟨n - 1, by omega⟩
    have nxt : ¬ (bt good w = true ∧ w &&& m = w) → wL_within_2 post good (nI m) n (nI (w + 1)) := fun z =>
      ih (w + 1) n (by omega) (by omega) (fun q => p1 ((qa_ex_s (by omega)).mpr (Or.inr q))) (fun q => p0 (fun y => ((qa_ex_s (by omega)).mp y).elim z q))
    refine br_f (nI_ge (b := 8) (by omega) (by decide)) (ek_if (qb_t1 good (by omega)) (fun h => ek_if (qp_sub w (by omega) m hm) (fun h' => p1 ⟨w, Nat.le_refl _, by omega, h, h'⟩) (fun h' => nm_r (nI_1 w) (nxt (fun z => h' z.2)))) (fun h => nm_r (nI_1 w) (nxt (fun z => h z.1))))
theorem qp_within {post : Int32 → Prop} {good : Int32} {m : Nat} (hm : m < 8) (p1 : qp_Wi good m → post 1) (p0 : ¬ qp_Wi good m → post 0) : wpL_within post () good (nI m) := by
  refine ⟨9, qp_wi2 hm 8 0 9 (by omega) (by omega) (fun z => p1 ?_) (fun z => p0 (fun q => z ?_))⟩
  · obtain ⟨x, _, h⟩ := z
    exact ⟨x, h⟩
  · obtain ⟨x, h⟩ := q
    exact ⟨x, Nat.zero_le _, h⟩
def qp_pc (S : Nat) : Nat → Nat
  | 0 => 0
  | n + 1 => qp_pc S n + (if S.testBit n = true then 1 else 0)
theorem qp_pc_le (S : Nat) : ∀ n, qp_pc S n ≤ n := by
  intro n
  induction n with
  | zero => exact Nat.le_refl _
  | succ n ih => rw [qp_pc]; split <;> omega
theorem qp_pc_mono (S : Nat) : ∀ d n, qp_pc S n ≤ qp_pc S (n + d) := by
  intro d
  induction d with
  | zero => intro n; exact Nat.le_refl _
  | succ d ih => intro n; have := ih n; show _ ≤ qp_pc S (n + d) + _; omega
theorem qp_pc_t {S n : Nat} (h : S.testBit n = true) : qp_pc S (n + 1) = qp_pc S n + 1 := by rw [qp_pc, if_pos h]
theorem qp_pc_f {S n : Nat} (h : ¬ S.testBit n = true) : qp_pc S (n + 1) = qp_pc S n := by
  rw [qp_pc, if_neg h]
  rfl
theorem qp_bi4 {post : Int32 → Prop} {S : Nat} (hp : post (nI (qp_pc S 8))) : ∀ d i n, i + d = 8 → d < n → wL_bits_4 post (nI S) n (nI (qp_pc S i)) (nI i) := by
  intro d
  induction d with
  | zero =>
    intro i n hi hn
    obtain ⟨n, rfl⟩ : ∃ m, n = m + 1 := ⟨n - 1, by omega⟩
    have e : i = 8 := by omega
    subst e
    exact br_t (nI_le (a := 8) (by omega) (by omega)) hp
  | succ d ih =>
    intro i n hi hn
    obtain ⟨n, rfl⟩ : ∃ m, n = m + 1 := ⟨n - 1, by omega⟩
    refine br_f (nI_ge (b := 8) (by omega) (by decide)) (nm_r (e' := nI (qp_pc S (i + 1))) ?_ (nm_r (nI_1 i) (ih (i + 1) n (by omega) (by omega))))
    by_cases h : S.testBit i = true
    · rw [(qp_tst (by omega)).mpr h, qp_pc_t h, nI_1]
    · have z : (nI S >>> (nI i &&& 31)) &&& 1 = 0 := (qb_t0 _ (by omega)).mpr (by rw [qp_bt (by omega)]; exact h)
      rw [z, qp_pc_f h, Int32.add_zero]
theorem qp_bits {post : Int32 → Prop} {S : Nat} (hp : post (nI (qp_pc S 8))) : wpL_bits post () (nI S) := ⟨9, qp_bi4 hp 8 0 9 (by omega) (by omega)⟩
/-! the set of the owners of a query's atoms -/
def qp_bm (ow : Nat → Nat) : Nat → Nat
  | 0 => 0
  | t + 1 => qp_bm ow t ||| 2 ^ ow t
theorem qp_bm_t (ow : Nat → Nat) (v : Nat) : ∀ n, (qp_bm ow n).testBit v = true ↔ ∃ t, t < n ∧ ow t = v := by
  intro n
  induction n with
  | zero =>
    rw [qp_bm, Nat.zero_testBit]
    exact ⟨fun z => absurd z (by decide), fun ⟨t, h, _⟩ => absurd h (Nat.not_lt_zero t)⟩
  | succ n ih =>
    rw [qp_bm, Nat.testBit_or, Bool.or_eq_true, ih, Nat.testBit_two_pow, decide_eq_true_iff]
    constructor
    · rintro (⟨t, h, e⟩ | e)
      · exact ⟨t, by omega, e⟩
      · exact ⟨n, by omega, e⟩
    · rintro ⟨t, h, e⟩
      by_cases z : t = n
      · subst z; exact Or.inr e
      · exact Or.inl ⟨t, by omega, e⟩
theorem qp_bm_lt {ow : Nat → Nat} {nr : Nat} : ∀ n, (∀ t, t < n → ow t < nr) → qp_bm ow n < 2 ^ nr := by
  intro n
  induction n with
  | zero => intro _; exact Nat.two_pow_pos nr
  | succ n ih => intro h; exact Nat.or_lt_two_pow (ih (fun t ht => h t (by omega))) (Nat.pow_lt_pow_right (by decide) (h n (by omega)))
theorem qp_pc_or (S v : Nat) : ∀ n, qp_pc (S ||| 2 ^ v) n ≤ qp_pc S n + (if v < n then 1 else 0) := by
  intro n
  induction n with
  | zero => exact Nat.zero_le _
  | succ n ih =>
    have e : (S ||| 2 ^ v).testBit n = true ↔ (S.testBit n = true ∨ v = n) := by rw [Nat.testBit_or, Bool.or_eq_true, Nat.testBit_two_pow, decide_eq_true_iff]
    by_cases h : S.testBit n = true
    · rw [qp_pc_t h, qp_pc_t (e.mpr (Or.inl h))]
      by_cases z : v < n
      · rw [if_pos z] at ih; rw [if_pos (by omega)]; omega
      · rw [if_neg z] at ih; omega
    · by_cases z : v = n
      · rw [qp_pc_f h, qp_pc_t (e.mpr (Or.inr z)), if_pos (by omega)]
        rw [if_neg (by omega)] at ih
        omega
      · rw [qp_pc_f h, qp_pc_f (fun q => (e.mp q).elim h z)]
        by_cases z2 : v < n
        · rw [if_pos z2] at ih; rw [if_pos (by omega)]; omega
        · rw [if_neg z2] at ih; rw [if_neg (by omega)]; omega
theorem qp_pc_0 : ∀ n, qp_pc 0 n = 0 := by
  intro n
  induction n with
  | zero => rfl
  | succ n ih => rw [qp_pc_f (by rw [Nat.zero_testBit]; decide), ih]
theorem qp_pc_bm (ow : Nat → Nat) (k : Nat) : ∀ n, qp_pc (qp_bm ow n) k ≤ n := by
  intro n
  induction n with
  | zero => rw [qp_bm, qp_pc_0]; exact Nat.le_refl _
  | succ n ih =>
    have := qp_pc_or (qp_bm ow n) (ow n) k
    rw [qp_bm]
    split at this <;> omega
/-! the views of a set of rows -/
def qp_vm (V : Nat → Nat) (S : Nat) : Nat → Nat
  | 0 => 0
  | i + 1 => if S.testBit i = true then qp_vm V S i ||| 2 ^ V i else qp_vm V S i
theorem qp_vm_t {V : Nat → Nat} {S i : Nat} (h : S.testBit i = true) : qp_vm V S (i + 1) = qp_vm V S i ||| 2 ^ V i := by rw [qp_vm, if_pos h]
theorem qp_vm_f {V : Nat → Nat} {S i : Nat} (h : ¬ S.testBit i = true) : qp_vm V S (i + 1) = qp_vm V S i := by rw [qp_vm, if_neg h]
theorem qp_vm_b (V : Nat → Nat) (S v : Nat) : ∀ n, (qp_vm V S n).testBit v = true ↔ ∃ i, i < n ∧ S.testBit i = true ∧ V i = v := by
  intro n
  induction n with
  | zero =>
    rw [qp_vm, Nat.zero_testBit]
    exact ⟨fun z => absurd z (by decide), fun ⟨t, h, _⟩ => absurd h (Nat.not_lt_zero t)⟩
  | succ n ih =>
    by_cases hb : S.testBit n = true
    · rw [qp_vm_t hb, Nat.testBit_or, Bool.or_eq_true, ih, Nat.testBit_two_pow, decide_eq_true_iff]
      constructor
      · rintro (⟨t, h, e⟩ | e)
        · exact ⟨t, by omega, e⟩
        · exact ⟨n, by omega, hb, e⟩
      · rintro ⟨t, h, e1, e⟩
        by_cases z : t = n
        · subst z; exact Or.inr e
        · exact Or.inl ⟨t, by omega, e1, e⟩
    · rw [qp_vm_f hb, ih]
      constructor
      · rintro ⟨t, h, e⟩
        exact ⟨t, by omega, e⟩
      · rintro ⟨t, h, e1, e⟩
        by_cases z : t = n
        · subst z; exact absurd e1 hb
        · exact ⟨t, by omega, e1, e⟩
theorem qp_vm_lt {V : Nat → Nat} {S : Nat} {w : Nat} : ∀ n, (∀ i, i < n → V i < w) → qp_vm V S n < 2 ^ w := by
  intro n
  induction n with
  | zero => intro _; exact Nat.two_pow_pos w
  | succ n ih =>
    intro h
    rw [qp_vm]
    split
    · exact Nat.or_lt_two_pow (ih (fun t ht => h t (by omega))) (Nat.pow_lt_pow_right (by decide) (h n (by omega)))
    · exact ih (fun t ht => h t (by omega))
