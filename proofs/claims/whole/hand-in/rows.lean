section
theorem pk_us {f : Nat → Int32} {k : Nat} {x : Int32} : upd f k x k = x := if_pos rfl
theorem pk_un {f : Nat → Int32} {k j : Nat} {x : Int32} (h : j ≠ k) : upd f k x j = f j := if_neg h
theorem pk_sub {a b : Nat} (h : b ≤ a) : nI a - nI b = nI (a - b) := by
  obtain ⟨c, rfl⟩ : ∃ c, a = c + b := ⟨a - b, by omega⟩
  rw [← nI_add, Int32.add_sub_cancel, Nat.add_sub_cancel]
theorem pk_m1 (n : Nat) : nI (n + 1) + (-1) = nI n := by
  rw [← nI_1, Int32.add_assoc, show (1 : Int32) + (-1) = 0 from rfl, Int32.add_zero]
theorem pk_mul (a b : Nat) : nI a * nI b = nI (a * b) := (Int32.ofNat_mul a b).symm
theorem pk_div {a d : Nat} (ha : a < 2 ^ 31) (h0 : 0 < d) (hd : d < 2 ^ 31) : nI a / nI d = nI (a / d) := by
  apply Int32.toInt_inj.mp
  rw [lg_idiv_nonneg (by rw [nI_toInt ha]; omega) (by rw [nI_toInt hd]; omega), nI_toInt ha, nI_toInt hd, nI_toInt (Nat.lt_of_le_of_lt (Nat.div_le_self a d) ha)]
  first | rfl | exact (Int.natCast_ediv _ _).symm
theorem pk_rem {a d : Nat} (ha : a < 2 ^ 31) (h0 : 0 < d) (hd : d < 2 ^ 31) : nI a - nI a / nI d * nI d = nI (a % d) := by
  rw [pk_div ha h0 hd, pk_mul, pk_sub (Nat.div_mul_le_self a d)]
  exact congrArg nI (by have := Nat.div_add_mod' a d; omega)
theorem pk_ix (x : Int32) {n : Nat} (hn : n < 2 ^ 31) : x < 0 ∨ nI n ≤ x ∨ ∃ j : Nat, j < n ∧ x = nI j := by
  by_cases h : x < 0
  · exact Or.inl h
  · obtain ⟨j, hj, rfl⟩ := nI_of h
    by_cases h2 : j < n
    · exact Or.inr (Or.inr ⟨j, h2, rfl⟩)
    · exact Or.inr (Or.inl (nI_le (by omega) hj))
theorem pk_le {x y : Int32} {A B : Prop} (a b : Nat) (f : a ≤ b → A) (g : b < a → B) (hx : x = nI a := by rfl) (hy : y = nI b := by rfl) (ha : a < 2 ^ 31 := by omega) (hb : b < 2 ^ 31 := by omega) : (x ≤ y → A) ∧ (¬ x ≤ y → B) := by
  subst hx hy
  rw [nI_leI ha hb]
  exact ⟨f, fun z => g (by omega)⟩
theorem pk_lt {x y : Int32} {A B : Prop} (a b : Nat) (f : a < b → A) (g : b ≤ a → B) (hx : x = nI a := by rfl) (hy : y = nI b := by rfl) (ha : a < 2 ^ 31 := by omega) (hb : b < 2 ^ 31 := by omega) : (x < y → A) ∧ (¬ x < y → B) := by
  subst hx hy
  rw [nI_ltI ha hb]
  exact ⟨f, fun z => g (by omega)⟩
theorem pk_eq {x y : Int32} {A B : Prop} (a b : Nat) (f : a = b → A) (g : a ≠ b → B) (hx : x = nI a := by rfl) (hy : y = nI b := by rfl) (ha : a < 2 ^ 31 := by omega) (hb : b < 2 ^ 31 := by omega) : (x = y → A) ∧ (¬ x = y → B) := by
  subst hx hy
  rw [nI_eq ha hb]
  exact ⟨f, g⟩
theorem pk_in {x : Int32} (n N : Nat) (h : n < N) (hx : x = nI n := by rfl) (hN : N < 2 ^ 31 := by omega) : vp_in x N := by
  subst hx
  exact vp_in_nI h hN
theorem pk_cl {x : Int32} (n : Nat) (hx : x = nI n := by rfl) (h : n < 2 ^ 31 := by omega) : x.toNatClampNeg = n := by
  subst hx
  exact nI_clamp h
theorem pk_tn {n : Nat} (h : n < 2 ^ 32) : (nI n).toBitVec.toNat = n := Nat.mod_eq_of_lt h
theorem pk_and (x : Int32) {m : Int32} (k : Nat) (hm : m.toBitVec.toNat = 2 ^ k - 1) : x &&& m = nI (x.toBitVec.toNat % 2 ^ k) := by
  apply Int32.toBitVec_inj.mp
  apply BitVec.eq_of_toNat_eq
  rw [Int32.toBitVec_and, BitVec.toNat_and, hm, Nat.and_two_pow_sub_one_eq_mod]
  show _ = (BitVec.ofNat 32 _).toNat
  rw [BitVec.toNat_ofNat]
  exact (Nat.mod_eq_of_lt (Nat.lt_of_le_of_lt (Nat.mod_le _ _) x.toBitVec.isLt)).symm
theorem pk_loop {σ : Type} (W : Nat → Nat → σ → Prop) (I : Nat → σ → Prop) (e i0 : Nat) (s : σ) (hi : i0 ≤ e) (h0 : I i0 s) (hx : ∀ n s, I e s → W (n + 1) e s)
    (hs : ∀ n i s, i < e → I i s → (∀ s', I (i + 1) s' → W n (i + 1) s') → W (n + 1) i s) : ∃ n, W n i0 s :=
  ⟨e + 1, loop_i W I e hx hs (e + 1) i0 s hi (by omega) h0⟩
theorem ek_if {c d A B : Prop} (e : c ↔ d) (f : d → A) (g : ¬ d → B) : (c → A) ∧ (¬ c → B) :=
  ⟨fun z => f (e.mp z), fun z => g (fun y => z (e.mpr y))⟩
theorem ek_v {α : Sort _} {P : α → Prop} {a b : α} (e : a = b) (h : P b) : P a := e ▸ h
def bt (x : Int32) (i : Nat) : Bool := x.toBitVec.getLsbD i
theorem b_ext {x y : Int32} (h : ∀ i, i < 32 → bt x i = bt y i) : x = y := Int32.toBitVec_inj.mp (BitVec.eq_of_getLsbD_eq (fun i hi => h i hi))
theorem b_or (x y : Int32) (i : Nat) : bt (x ||| y) i = (bt x i || bt y i) := by unfold bt; rw [Int32.toBitVec_or, BitVec.getLsbD_or]
theorem b_and (x y : Int32) (i : Nat) : bt (x &&& y) i = (bt x i && bt y i) := by unfold bt; rw [Int32.toBitVec_and, BitVec.getLsbD_and]
theorem b_big {x : Int32} {i : Nat} (h : 32 ≤ i) : bt x i = false := BitVec.getLsbD_of_ge _ _ h
theorem b_m1 : ∀ i, i < 32 → bt (-1) i = true := by decide +kernel
theorem b_0 (i : Nat) : bt 0 i = false := BitVec.getLsbD_zero
theorem s_l : ∀ n, n < 32 → ((nI n &&& 31).toBitVec.smod 32).toNat = n := by decide +kernel
theorem b_shl (n : Nat) (hn : n < 32) (x : Int32) {i : Nat} (hi : i < 32) : bt (x <<< (nI n &&& 31)) i = (decide (n ≤ i) && bt x (i - n)) := by
  unfold bt
  rw [Int32.toBitVec_shiftLeft]
  show (x.toBitVec <<< ((nI n &&& 31).toBitVec.smod 32).toNat).getLsbD i = _
  rw [s_l n hn, BitVec.getLsbD_shiftLeft]
  rcases Nat.lt_or_ge i n with h | h
  · simp [h, Nat.not_le.mpr h]
  · simp [hi, h, Nat.not_lt.mpr h]
theorem b_sshr (n : Nat) (hn : n < 32) (x : Int32) {i : Nat} (hi : i < 32) : bt (x >>> (nI n &&& 31)) i = if n + i < 32 then bt x (n + i) else bt x 31 := by
  unfold bt
  rw [Int32.toBitVec_shiftRight]
  show (x.toBitVec.sshiftRight ((nI n &&& 31).toBitVec.smod 32).toNat).getLsbD i = _
  rw [s_l n hn, BitVec.getLsbD_sshiftRight, BitVec.msb_eq_getLsbD_last]
  simp [hi]
end
section
/-! the first slot that holds a triple -/
def qa_fd (K L R : Nat → Nat) (k x y : Nat) : Nat → Nat → Option Nat
  | 0, _ => none
  | d + 1, j => if K j = k ∧ L j = x ∧ R j = y then some j else qa_fd K L R k x y d (j + 1)
theorem qa_fd_none {K L R : Nat → Nat} {k x y : Nat} : ∀ d j, qa_fd K L R k x y d j = none → ∀ i, j ≤ i → i < j + d → ¬ (K i = k ∧ L i = x ∧ R i = y) := by
  intro d
  induction d with
  | zero => intro j _ i h1 h2; omega
  | succ d ih =>
    intro j h i h1 h2
    by_cases hc : K j = k ∧ L j = x ∧ R j = y
    · rw [qa_fd, if_pos hc] at h
      exact absurd h (by simp)
    · rw [qa_fd, if_neg hc] at h
      by_cases e : i = j
      · rw [e]; exact hc
      · exact ih (j + 1) h i (by omega) (by omega)
theorem qa_fd_some {K L R : Nat → Nat} {k x y : Nat} : ∀ d j i, qa_fd K L R k x y d j = some i → j ≤ i ∧ i < j + d ∧ K i = k ∧ L i = x ∧ R i = y := by
  intro d
  induction d with
  | zero => intro j i h; rw [qa_fd] at h; exact absurd h (by simp)
  | succ d ih =>
    intro j i h
    by_cases hc : K j = k ∧ L j = x ∧ R j = y
    · rw [qa_fd, if_pos hc] at h
      have e : j = i := Option.some.inj h
      subst e
      exact ⟨Nat.le_refl _, by omega, hc⟩
    · rw [qa_fd, if_neg hc] at h
      obtain ⟨a, b, q⟩ := ih (j + 1) i h
      exact ⟨by omega, by omega, q⟩
/-- the set of the triples of a section -/
def qa_In (m : Nat) (K L R : Nat → Nat) (k x y : Nat) : Prop := ∃ j, j < m ∧ K j = k ∧ L j = x ∧ R j = y
theorem qa_fd_in {K L R : Nat → Nat} {m k x y : Nat} (h : qa_In m K L R k x y) : ∃ j, qa_fd K L R k x y m 0 = some j := by
  cases e : qa_fd K L R k x y m 0 with
  | some j => exact ⟨j, rfl⟩
  | none =>
    obtain ⟨i, hi, hk⟩ := h
    exact absurd hk (qa_fd_none m 0 e i (by omega) (by omega))
theorem qa_in_fd {K L R : Nat → Nat} {m k x y j : Nat} (h : qa_fd K L R k x y m 0 = some j) : qa_In m K L R k x y := by
  obtain ⟨-, b, q⟩ := qa_fd_some m 0 j h
  exact ⟨j, by omega, q⟩
theorem qa_fd_nin {K L R : Nat → Nat} {m k x y : Nat} (h : qa_fd K L R k x y m 0 = none) : ¬ qa_In m K L R k x y := by
  intro q
  obtain ⟨j, e⟩ := qa_fd_in q
  rw [h] at e
  exact absurd e (by simp)
theorem qa_fd_cg {K L R K' L' R' : Nat → Nat} {k x y : Nat} : ∀ d j, (∀ i, j ≤ i → i < j + d → K i = K' i ∧ L i = L' i ∧ R i = R' i) → qa_fd K L R k x y d j = qa_fd K' L' R' k x y d j := by
  intro d
  induction d with
  | zero => intro j _; rfl
  | succ d ih =>
    intro j h
    obtain ⟨a, b, c⟩ := h j (by omega) (by omega)
    rw [qa_fd, qa_fd, a, b, c, ih (j + 1) (fun i h1 h2 => h i (by omega) (by omega))]
/-! vouching: an owner's facts, the owners' facts, ranks -/
def qa_tf (p q b x : Nat) : Nat := if x = 0 then p else if x = 1 then q else b + (x - 2)
theorem qa_tf0 {p q b : Nat} : qa_tf p q b 0 = p := rfl
theorem qa_tf1 {p q b : Nat} : qa_tf p q b 1 = q := rfl
theorem qa_tf2 {p q b x : Nat} (h : 2 ≤ x) : qa_tf p q b x = b + (x - 2) := by
  rw [qa_tf, if_neg (by omega), if_neg (by omega)]
theorem qa_tf_lt {p q b x T : Nat} (hp : p < T) (hq : q < T) (hb : b + 2 ≤ T) (hx : x < 4) : qa_tf p q b x < T := by
  unfold qa_tf
  split
  · exact hp
  · split
    · exact hq
    · omega
def qa_G (m : Nat) (K L R : Nat → Nat) (p q b : Nat) (k x y : Nat) : Prop := ∃ j, j < m ∧ K j = k ∧ qa_tf p q b (L j) = x ∧ qa_tf p q b (R j) = y
def qa_FX (c : Nat → Nat) (K L R : Nat → Nat → Nat) (on : Nat → Bool) (V P Q B : Nat → Nat) (m : Nat) (k x y : Nat) : Prop :=
  ∃ i, i < m ∧ on i = true ∧ qa_G (c (3 + V i)) (K (3 + V i)) (L (3 + V i)) (R (3 + V i)) (P i) (Q i) (B i) k x y
theorem qa_FX_0 {c : Nat → Nat} {K L R : Nat → Nat → Nat} {on : Nat → Bool} {V P Q B : Nat → Nat} {k x y : Nat} : ¬ qa_FX c K L R on V P Q B 0 k x y := fun ⟨i, h, _⟩ => absurd h (Nat.not_lt_zero i)
theorem qa_FX_t {c : Nat → Nat} {K L R : Nat → Nat → Nat} {on : Nat → Bool} {V P Q B : Nat → Nat} {m k x y : Nat} (h : on m = true) :
    qa_FX c K L R on V P Q B (m + 1) k x y ↔ (qa_FX c K L R on V P Q B m k x y ∨ qa_G (c (3 + V m)) (K (3 + V m)) (L (3 + V m)) (R (3 + V m)) (P m) (Q m) (B m) k x y) := by
  constructor
  · rintro ⟨i, hi, ho, hg⟩
    by_cases e : i = m
    · subst e; exact Or.inr hg
    · exact Or.inl ⟨i, by omega, ho, hg⟩
  · rintro (⟨i, hi, ho, hg⟩ | hg)
    · exact ⟨i, by omega, ho, hg⟩
    · exact ⟨m, by omega, h, hg⟩
theorem qa_FX_f {c : Nat → Nat} {K L R : Nat → Nat → Nat} {on : Nat → Bool} {V P Q B : Nat → Nat} {m k x y : Nat} (h : ¬ on m = true) :
    qa_FX c K L R on V P Q B (m + 1) k x y ↔ qa_FX c K L R on V P Q B m k x y := by
  constructor
  · rintro ⟨i, hi, ho, hg⟩
    by_cases e : i = m
    · subst e; exact absurd ho h
    · exact ⟨i, by omega, ho, hg⟩
  · rintro ⟨i, hi, ho, hg⟩
    exact ⟨i, by omega, ho, hg⟩
def qa_rk (on : Nat → Bool) : Nat → Nat
  | 0 => 0
  | i + 1 => qa_rk on i + (if on i = true then 1 else 0)
theorem qa_rk_t {on : Nat → Bool} {i : Nat} (h : on i = true) : qa_rk on (i + 1) = qa_rk on i + 1 := by rw [qa_rk, if_pos h]
theorem qa_rk_f {on : Nat → Bool} {i : Nat} (h : ¬ on i = true) : qa_rk on (i + 1) = qa_rk on i := by
  rw [qa_rk, if_neg h]
  rfl
theorem qa_rk_s (on : Nat → Bool) (i : Nat) : qa_rk on i ≤ qa_rk on (i + 1) := by rw [qa_rk]; omega
theorem qa_rk_mono (on : Nat → Bool) : ∀ d i, qa_rk on i ≤ qa_rk on (i + d) := by
  intro d
  induction d with
  | zero => intro i; exact Nat.le_refl _
  | succ d ih => intro i; exact Nat.le_trans (ih i) (qa_rk_s on (i + d))
theorem qa_rk_le (on : Nat → Bool) : ∀ i, qa_rk on i ≤ i := by
  intro i
  induction i with
  | zero => exact Nat.le_refl _
  | succ i ih => rw [qa_rk]; split <;> omega
theorem qa_rk_lt {on : Nat → Bool} {i j : Nat} (h : i < j) (ho : on i = true) : qa_rk on i + 1 ≤ qa_rk on j := by
  have := qa_rk_mono on (j - (i + 1)) (i + 1)
  rw [show i + 1 + (j - (i + 1)) = j by omega, qa_rk_t ho] at this
  exact this
theorem qa_rk_inj {on : Nat → Bool} {i j : Nat} (hi : on i = true) (hj : on j = true) (h : qa_rk on i = qa_rk on j) : i = j := by
  rcases Nat.lt_trichotomy i j with a | a | a
  · have := qa_rk_lt a hi; omega
  · exact a
  · have := qa_rk_lt a hj; omega
/-- a map that carries an owner's terms carries the owners' facts -/
theorem qa_FX_map {c : Nat → Nat} {K L R : Nat → Nat → Nat} {on : Nat → Bool} {V P Q B B' : Nat → Nat} {m : Nat} (e : Nat → Nat)
    (hL : ∀ i, i < m → ∀ j, j < c (3 + V i) → L (3 + V i) j < 4 ∧ R (3 + V i) j < 4)
    (he : ∀ i x, i < m → on i = true → x < 4 → e (qa_tf (P i) (Q i) (B i) x) = qa_tf (P i) (Q i) (B' i) x) {k x y : Nat}
    (h : qa_FX c K L R on V P Q B m k x y) : qa_FX c K L R on V P Q B' m k (e x) (e y) := by
  obtain ⟨i, hi, ho, j, hj, hk, rfl, rfl⟩ := h
  obtain ⟨a, b⟩ := hL i hi j hj
  exact ⟨i, hi, ho, j, hj, hk, (he i _ hi ho a).symm, (he i _ hi ho b).symm⟩
def qa_Mt (n : Nat) (K L R : Nat → Nat) (F : Nat → Nat → Nat → Prop) (T p q : Nat) : Prop :=
  ∃ g : Nat → Nat, g 0 = p ∧ g 1 = q ∧ (∀ v, v < 5 → g v < T) ∧ ∀ j, j < n → F (K j) (g (L j)) (g (R j))
theorem qa_Mt_map {n : Nat} {K L R : Nat → Nat} {F F' : Nat → Nat → Nat → Prop} {T T' p q : Nat} (e : Nat → Nat) (hT : ∀ t, t < T → e t < T') (hp : e p = p) (hq : e q = q)
    (hF : ∀ k x y, F k x y → F' k (e x) (e y)) (h : qa_Mt n K L R F T p q) : qa_Mt n K L R F' T' p q := by
  obtain ⟨g, h0, h1, h2, h3⟩ := h
  exact ⟨fun v => e (g v), by show e (g 0) = p; rw [h0, hp], by show e (g 1) = q; rw [h1, hq], fun v hv => hT _ (h2 v hv), fun j hj => hF _ _ _ (h3 j hj)⟩
noncomputable def qa_dc (on : Nat → Bool) (base m t : Nat) : Nat :=
  @dite Nat (∃ i, i < m ∧ on i = true ∧ qa_rk on i = (t - base) / 2) (Classical.propDecidable _) (fun h => if t < base then t else 5 + 2 * h.choose + (t - base) % 2) (fun _ => if t < base then t else 0)
theorem qa_dc_lo {on : Nat → Bool} {base m t : Nat} (h : t < base) : qa_dc on base m t = t := by
  unfold qa_dc
  split
  · first | rfl | rw [if_pos h]
  · first | rfl | rw [if_pos h]
theorem qa_dc_hi {on : Nat → Bool} {base m i s : Nat} (hi : i < m) (ho : on i = true) (hs : s < 2) : qa_dc on base m (base + 2 * qa_rk on i + s) = 5 + 2 * i + s := by
  have hd : (base + 2 * qa_rk on i + s - base) / 2 = qa_rk on i := by omega
  have hm : (base + 2 * qa_rk on i + s - base) % 2 = s := by omega
  have hx : ∃ j, j < m ∧ on j = true ∧ qa_rk on j = (base + 2 * qa_rk on i + s - base) / 2 := ⟨i, hi, ho, hd.symm⟩
  unfold qa_dc
  rw [dif_pos hx, if_neg (by omega), hm]
  have hc := hx.choose_spec
  rw [qa_rk_inj hc.2.1 ho (hc.2.2.trans hd)]
theorem qa_dc_lt {on : Nat → Bool} {base m t : Nat} (hb : base ≤ 5) (hm : m ≤ 8) : qa_dc on base m t < 21 := by
  unfold qa_dc
  split
  · rename_i h
    have := h.choose_spec.1
    split
    · omega
    · omega
  · split <;> omega
def qa_ec (on : Nat → Bool) (base m t : Nat) : Nat :=
  if t < base then t else if 5 ≤ t ∧ (t - 5) / 2 < m ∧ on ((t - 5) / 2) = true then base + 2 * qa_rk on ((t - 5) / 2) + (t - 5) % 2 else 0
theorem qa_ec_lo {on : Nat → Bool} {base m t : Nat} (h : t < base) : qa_ec on base m t = t := by rw [qa_ec, if_pos h]
theorem qa_ec_hi {on : Nat → Bool} {base m i s : Nat} (hb : base ≤ 5) (hi : i < m) (ho : on i = true) (hs : s < 2) : qa_ec on base m (5 + 2 * i + s) = base + 2 * qa_rk on i + s := by
  have hd : (5 + 2 * i + s - 5) / 2 = i := by omega
  have hm : (5 + 2 * i + s - 5) % 2 = s := by omega
  rw [qa_ec, if_neg (by omega), hd, hm, if_pos ⟨by omega, hi, ho⟩]
theorem qa_ec_lt {on : Nat → Bool} {base m t : Nat} (hb : 0 < base) : qa_ec on base m t < base + 2 * qa_rk on m := by
  unfold qa_ec
  split
  · omega
  · split
    · rename_i h
      have := qa_rk_lt h.2.1 h.2.2
      omega
    · omega
theorem qa_tf_map {e : Nat → Nat} {p q b b' base x : Nat} (hp : p < base) (hq : q < base) (hlo : ∀ t, t < base → e t = t) (hhi : ∀ s, s < 2 → e (b + s) = b' + s) (hx : x < 4) :
    e (qa_tf p q b x) = qa_tf p q b' x := by
  by_cases h0 : x = 0
  · subst h0; rw [qa_tf0, qa_tf0]; exact hlo p hp
  · by_cases h1 : x = 1
    · subst h1; rw [qa_tf1, qa_tf1]; exact hlo q hq
    · rw [qa_tf2 (by omega), qa_tf2 (by omega)]; exact hhi _ (by omega)
/-- the two numberings of the unknown terms give the same matches -/
theorem qa_xy {c : Nat → Nat} {K L R : Nat → Nat → Nat} {on : Nat → Bool} {V P Q : Nat → Nat} {m base p q n : Nat} {Kq Lq Rq : Nat → Nat}
    (hm : m ≤ 8) (hb : base ≤ 5) (hL : ∀ i, i < m → ∀ j, j < c (3 + V i) → L (3 + V i) j < 4 ∧ R (3 + V i) j < 4)
    (hP : ∀ i, i < m → P i < base ∧ Q i < base) (hp : p < base) (hq : q < base) :
    qa_Mt n Kq Lq Rq (qa_FX c K L R on V P Q (fun i => 5 + 2 * i) m) 21 p q ↔ qa_Mt n Kq Lq Rq (qa_FX c K L R on V P Q (fun i => base + 2 * qa_rk on i) m) (base + 2 * qa_rk on m) p q := by
  constructor
  · refine qa_Mt_map (qa_ec on base m) (fun t _ => qa_ec_lt (by omega)) (qa_ec_lo hp) (qa_ec_lo hq) (fun k x y h => ?_)
    exact qa_FX_map _ hL (fun i x hi ho hx => qa_tf_map (hP i hi).1 (hP i hi).2 (fun t ht => qa_ec_lo ht) (fun s hs => qa_ec_hi hb hi ho hs) hx) h
  · refine qa_Mt_map (qa_dc on base m) (fun t _ => qa_dc_lt hb hm) (qa_dc_lo hp) (qa_dc_lo hq) (fun k x y h => ?_)
    exact qa_FX_map _ hL (fun i x hi ho hx => qa_tf_map (hP i hi).1 (hP i hi).2 (fun t ht => qa_dc_lo ht) (fun s hs => qa_dc_hi hi ho hs) hx) h
end
section
/-! the search: images given in the order of the variables -/
def qa_Ok (m : Nat) (K L R : Nat → Nat) (F : Nat → Nat → Nat → Prop) (lo hi : Nat → Nat) (n : Nat) (g : Nat → Nat) : Prop :=
  (∀ v, v < n → lo v ≤ g v ∧ g v ≤ hi v) ∧ ∀ j, j < m → L j < n → R j < n → F (K j) (g (L j)) (g (R j))
def qa_due (l r n : Nat) : Prop := (r < l ∧ l = n) ∨ (l ≤ r ∧ r = n)
def qa_set (g : Nat → Nat) (n t v : Nat) : Nat := if v = n then t else g v
theorem qa_set_s {g : Nat → Nat} {n t : Nat} : qa_set g n t n = t := if_pos rfl
theorem qa_set_n {g : Nat → Nat} {n t v : Nat} (h : v ≠ n) : qa_set g n t v = g v := if_neg h
theorem qa_Ok_cg {m : Nat} {K L R : Nat → Nat} {F : Nat → Nat → Nat → Prop} {lo hi : Nat → Nat} {n : Nat} {g g' : Nat → Nat} (h : ∀ v, v < n → g' v = g v)
    (H : qa_Ok m K L R F lo hi n g) : qa_Ok m K L R F lo hi n g' := by
  refine ⟨fun v hv => ?_, fun j hj hl hr => ?_⟩
  · rw [h v hv]; exact H.1 v hv
  · rw [h _ hl, h _ hr]; exact H.2 j hj hl hr
theorem qa_Ok_0 {m : Nat} {K L R : Nat → Nat} {F : Nat → Nat → Nat → Prop} {lo hi : Nat → Nat} {g : Nat → Nat} : qa_Ok m K L R F lo hi 0 g :=
  ⟨fun v h => absurd h (Nat.not_lt_zero v), fun j _ h => absurd h (Nat.not_lt_zero _)⟩
theorem qa_Ok_s {m : Nat} {K L R : Nat → Nat} {F : Nat → Nat → Nat → Prop} {lo hi : Nat → Nat} {n : Nat} {g : Nat → Nat} (H : qa_Ok m K L R F lo hi n g)
    (hr : lo n ≤ g n ∧ g n ≤ hi n) (hd : ∀ j, j < m → qa_due (L j) (R j) n → F (K j) (g (L j)) (g (R j))) : qa_Ok m K L R F lo hi (n + 1) g := by
  refine ⟨fun v hv => ?_, fun j hj hl hr => ?_⟩
  · by_cases e : v = n
    · rw [e]; exact hr
    · exact H.1 v (by omega)
  · by_cases e : qa_due (L j) (R j) n
    · exact hd j hj e
    · unfold qa_due at e
      exact H.2 j hj (by omega) (by omega)
theorem qa_Ok_p {m : Nat} {K L R : Nat → Nat} {F : Nat → Nat → Nat → Prop} {lo hi : Nat → Nat} {n n' : Nat} {g : Nat → Nat} (h : n ≤ n') (H : qa_Ok m K L R F lo hi n' g) : qa_Ok m K L R F lo hi n g :=
  ⟨fun v hv => H.1 v (by omega), fun j hj hl hr => H.2 j hj (by omega) (by omega)⟩
theorem qa_Ok_due {m : Nat} {K L R : Nat → Nat} {F : Nat → Nat → Nat → Prop} {lo hi : Nat → Nat} {n : Nat} {g : Nat → Nat} (H : qa_Ok m K L R F lo hi (n + 1) g) :
    ∀ j, j < m → qa_due (L j) (R j) n → F (K j) (g (L j)) (g (R j)) := fun j hj e => by
  unfold qa_due at e
  exact H.2 j hj (by omega) (by omega)
/-- an image that goes on from g below n, with a term at n that is t or beyond -/
def qa_Ex (m : Nat) (K L R : Nat → Nat) (F : Nat → Nat → Nat → Prop) (lo hi : Nat → Nat) (n : Nat) (g : Nat → Nat) (t : Nat) : Prop :=
  ∃ g' : Nat → Nat, (∀ v, v < n → g' v = g v) ∧ t ≤ g' n ∧ qa_Ok m K L R F lo hi 5 g'
theorem qa_Ex_s {m : Nat} {K L R : Nat → Nat} {F : Nat → Nat → Nat → Prop} {lo hi : Nat → Nat} {n : Nat} {g : Nat → Nat} {t : Nat} (h : qa_Ex m K L R F lo hi n g (t + 1)) : qa_Ex m K L R F lo hi n g t := by
  obtain ⟨g', a, b, c⟩ := h
  exact ⟨g', a, by omega, c⟩
theorem qa_Ex_in {m : Nat} {K L R : Nat → Nat} {F : Nat → Nat → Nat → Prop} {lo hi : Nat → Nat} {n : Nat} {g : Nat → Nat} {t : Nat} (h : qa_Ex m K L R F lo hi (n + 1) (qa_set g n t) 0) : qa_Ex m K L R F lo hi n g t := by
  obtain ⟨g', a, b, c⟩ := h
  refine ⟨g', fun v hv => ?_, ?_, c⟩
  · rw [a v (by omega), qa_set_n (by omega)]
  · rw [a n (by omega), qa_set_s]; exact Nat.le_refl _
theorem qa_Ex_c {m : Nat} {K L R : Nat → Nat} {F : Nat → Nat → Nat → Prop} {lo hi : Nat → Nat} {n : Nat} {g : Nat → Nat} {t : Nat} (h : qa_Ex m K L R F lo hi n g t) (h1 : ¬ qa_Ex m K L R F lo hi n g (t + 1)) :
    qa_Ex m K L R F lo hi (n + 1) (qa_set g n t) 0 := by
  obtain ⟨g', a, b, c⟩ := h
  have e : g' n = t := by
    rcases Nat.lt_or_ge t (g' n) with z | z
    · exact absurd ⟨g', a, z, c⟩ h1
    · omega
  refine ⟨g', fun v hv => ?_, Nat.zero_le _, c⟩
  by_cases q : v = n
  · rw [q, qa_set_s]; exact e
  · rw [qa_set_n q]; exact a v (by omega)
theorem qa_Ex_Ok {m : Nat} {K L R : Nat → Nat} {F : Nat → Nat → Nat → Prop} {lo hi : Nat → Nat} {n : Nat} {g : Nat → Nat} (hn : n ≤ 5) (h : qa_Ex m K L R F lo hi n g 0) : qa_Ok m K L R F lo hi n g := by
  obtain ⟨g', a, b, c⟩ := h
  exact qa_Ok_cg (fun v hv => (a v hv).symm) (qa_Ok_p hn c)
theorem qa_Ex_5 {m : Nat} {K L R : Nat → Nat} {F : Nat → Nat → Nat → Prop} {lo hi : Nat → Nat} {g : Nat → Nat} (h : qa_Ok m K L R F lo hi 5 g) : qa_Ex m K L R F lo hi 5 g 0 := ⟨g, fun _ _ => rfl, Nat.zero_le _, h⟩
theorem qa_Ex_no {m : Nat} {K L R : Nat → Nat} {F : Nat → Nat → Nat → Prop} {lo hi : Nat → Nat} {n : Nat} {g : Nat → Nat} {t : Nat} (hn : n < 5) (ht : hi n < t) : ¬ qa_Ex m K L R F lo hi n g t := by
  rintro ⟨g', a, b, c⟩
  have := (c.1 n hn).2
  omega
/-- if g with t at n can't stand, an image from t on begins beyond t -/
theorem qa_Ex_no1 {m : Nat} {K L R : Nat → Nat} {F : Nat → Nat → Nat → Prop} {lo hi : Nat → Nat} {n : Nat} {g : Nat → Nat} {t : Nat} (hn : n < 5) (h : ¬ qa_Ok m K L R F lo hi (n + 1) (qa_set g n t))
    (h1 : qa_Ex m K L R F lo hi n g t) : qa_Ex m K L R F lo hi n g (t + 1) := by
  apply Classical.byContradiction
  intro z
  exact h (qa_Ex_Ok (by omega) (qa_Ex_c h1 z))
def qa_Im (m : Nat) (K L R : Nat → Nat) (F : Nat → Nat → Nat → Prop) (lo hi : Nat → Nat) : Prop := ∃ g : Nat → Nat, (∀ v, v < 5 → lo v ≤ g v ∧ g v ≤ hi v) ∧ ∀ j, j < m → F (K j) (g (L j)) (g (R j))
theorem qa_Im_Ex {m : Nat} {K L R : Nat → Nat} {F : Nat → Nat → Nat → Prop} {lo hi : Nat → Nat} (hL : ∀ j, j < m → L j < 5 ∧ R j < 5) (g : Nat → Nat) : qa_Im m K L R F lo hi ↔ qa_Ex m K L R F lo hi 0 g 0 := by
  constructor
  · rintro ⟨f, a, b⟩
    exact ⟨f, fun v hv => absurd hv (Nat.not_lt_zero v), Nat.zero_le _, a, fun j hj _ _ => b j hj⟩
  · rintro ⟨f, _, _, a, b⟩
    exact ⟨f, a, fun j hj => b j hj (hL j hj).1 (hL j hj).2⟩
/-! from intervals to heads -/
def qa_lo (p q h0 h1 v : Nat) : Nat := if v = h1 then q else if v = h0 then p else 0
def qa_hi (p q h0 h1 T v : Nat) : Nat := if v = h1 then q else if v = h0 then p else T
theorem qa_Im_head {m : Nat} {K L R : Nat → Nat} {F : Nat → Nat → Nat → Prop} {p q h0 h1 T : Nat} (hh : h0 < 5) (hh1 : h1 < 5) (hp : p ≤ T) (hq : q ≤ T) (hpq : h0 = h1 → p = q) :
    qa_Im m K L R F (qa_lo p q h0 h1) (qa_hi p q h0 h1 T) ↔ ∃ g : Nat → Nat, g h0 = p ∧ g h1 = q ∧ (∀ v, v < 5 → g v < T + 1) ∧ ∀ j, j < m → F (K j) (g (L j)) (g (R j)) := by
  constructor
  · rintro ⟨g, a, b⟩
    have e1 : g h1 = q := by
      have := a h1 hh1
      rw [qa_lo, qa_hi, if_pos rfl, if_pos rfl] at this
      omega
    have e0 : g h0 = p := by
      by_cases e : h0 = h1
      · rw [e, e1, hpq e]
      · have := a h0 hh
        rw [qa_lo, qa_hi, if_neg e, if_neg e, if_pos rfl, if_pos rfl] at this
        omega
    refine ⟨g, e0, e1, fun v hv => ?_, b⟩
    have := (a v hv).2
    unfold qa_hi at this
    split at this
    · omega
    · split at this <;> omega
  · rintro ⟨g, e0, e1, a, b⟩
    refine ⟨g, fun v hv => ?_, b⟩
    have := a v hv
    unfold qa_lo qa_hi
    by_cases z1 : v = h1
    · rw [if_pos z1, if_pos z1, z1, e1]; omega
    · rw [if_neg z1, if_neg z1]
      by_cases z0 : v = h0
      · rw [if_pos z0, if_pos z0, z0, e0]; omega
      · rw [if_neg z0, if_neg z0]; omega
/-! codes: five digits to the base five -/
def qa_dg (code v : Nat) : Nat := code / 5 ^ v % 5
theorem qa_dg_lt (code v : Nat) : qa_dg code v < 5 := Nat.mod_lt _ (by decide)
def qa_cd (g : Nat → Nat) : Nat := g 0 + 5 * (g 1 + 5 * (g 2 + 5 * (g 3 + 5 * g 4)))
theorem qa_cd_lt {g : Nat → Nat} (h : ∀ v, v < 5 → g v < 5) : qa_cd g < 3125 := by
  have a := h 0 (by decide); have b := h 1 (by decide); have c := h 2 (by decide); have d := h 3 (by decide); have e := h 4 (by decide)
  unfold qa_cd
  omega
theorem qa_dg_0 (n : Nat) : qa_dg n 0 = n % 5 := by unfold qa_dg; rw [Nat.pow_zero, Nat.div_one]
theorem qa_dg_s (n v : Nat) : qa_dg n (v + 1) = qa_dg (n / 5) v := by unfold qa_dg; rw [Nat.pow_succ, Nat.mul_comm, Nat.div_div_eq_div_mul]
theorem qa_dg_c {a b : Nat} (h : a < 5) : qa_dg (a + 5 * b) 0 = a ∧ (a + 5 * b) / 5 = b := by
  rw [qa_dg_0]
  omega
theorem qa_dg_cd {g : Nat → Nat} (h : ∀ v, v < 5 → g v < 5) : ∀ v, v < 5 → qa_dg (qa_cd g) v = g v := by
  have a := h 0 (by decide); have b := h 1 (by decide); have c := h 2 (by decide); have d := h 3 (by decide); have e := h 4 (by decide)
  intro v hv
  unfold qa_cd
  match v, hv with
  | 0, _ => exact (qa_dg_c a).1
  | 1, _ => rw [qa_dg_s, (qa_dg_c a).2]; exact (qa_dg_c b).1
  | 2, _ => rw [qa_dg_s, (qa_dg_c a).2, qa_dg_s, (qa_dg_c b).2]; exact (qa_dg_c c).1
  | 3, _ => rw [qa_dg_s, (qa_dg_c a).2, qa_dg_s, (qa_dg_c b).2, qa_dg_s, (qa_dg_c c).2]; exact (qa_dg_c d).1
  | 4, _ =>
    rw [qa_dg_s, (qa_dg_c a).2, qa_dg_s, (qa_dg_c b).2, qa_dg_s, (qa_dg_c c).2, qa_dg_s, (qa_dg_c d).2, qa_dg_0]
    omega
/-! the candidate over the rows: terms below vl, or any of five -/
def qa_Cd (h0 h1 a b : Nat) (m : Nat) (K L R : Nat → Nat) (F : Nat → Nat → Nat → Prop) (T : Nat) : Prop := ∃ g : Nat → Nat, g h0 = a ∧ g h1 = b ∧ (∀ v, v < 5 → g v < T) ∧ ∀ j, j < m → F (K j) (g (L j)) (g (R j))
theorem qa_Cd_5 {h0 h1 a b m : Nat} {K L R : Nat → Nat} {F : Nat → Nat → Nat → Prop} {T : Nat} (hT : T ≤ 5) (h0T : 0 < T) (ha : a < T) (hb : b < T) (hF : ∀ k x y, F k x y → x < T ∧ y < T) :
    qa_Cd h0 h1 a b m K L R F T ↔ qa_Cd h0 h1 a b m K L R F 5 := by
  constructor
  · rintro ⟨g, x, y, z, w⟩
    exact ⟨g, x, y, fun v hv => Nat.lt_of_lt_of_le (z v hv) hT, w⟩
  · rintro ⟨g, x, y, z, w⟩
    refine ⟨fun v => if g v < T then g v else 0, ?_, ?_, fun v _ => ?_, fun j hj => ?_⟩
    · show (if g h0 < T then g h0 else 0) = a
      rw [x, if_pos ha]
    · show (if g h1 < T then g h1 else 0) = b
      rw [y, if_pos hb]
    · show (if g v < T then g v else 0) < T
      split <;> omega
    · have q := hF _ _ _ (w j hj)
      show F (K j) (if g (L j) < T then g (L j) else 0) (if g (R j) < T then g (R j) else 0)
      rw [if_pos q.1, if_pos q.2]
      exact w j hj
theorem qa_Cd_code {h0 h1 a b m : Nat} {K L R : Nat → Nat} {F : Nat → Nat → Nat → Prop} (hh : h0 < 5) (hh1 : h1 < 5) (hL : ∀ j, j < m → L j < 5 ∧ R j < 5) :
    qa_Cd h0 h1 a b m K L R F 5 ↔ ∃ n, n < 3125 ∧ qa_dg n h0 = a ∧ qa_dg n h1 = b ∧ ∀ j, j < m → F (K j) (qa_dg n (L j)) (qa_dg n (R j)) := by
  constructor
  · rintro ⟨g, x, y, z, w⟩
    refine ⟨qa_cd g, qa_cd_lt z, ?_, ?_, fun j hj => ?_⟩
    · rw [qa_dg_cd z _ hh, x]
    · rw [qa_dg_cd z _ hh1, y]
    · rw [qa_dg_cd z _ (hL j hj).1, qa_dg_cd z _ (hL j hj).2]
      exact w j hj
  · rintro ⟨n, _, x, y, w⟩
    exact ⟨qa_dg n, x, y, fun v _ => qa_dg_lt n v, w⟩
/-! the number of the slots that an image reaches -/
def qa_sn (tg : Nat → Option Nat) : Nat → (Nat → Bool) × Nat
  | 0 => (fun _ => false, 0)
  | j + 1 => match tg j with
    | none => qa_sn tg j
    | some t => if (qa_sn tg j).1 t = true then qa_sn tg j else (fun v => if v = t then true else (qa_sn tg j).1 v, (qa_sn tg j).2 + 1)
theorem qa_sn_n {tg : Nat → Option Nat} {j : Nat} (h : tg j = none) : qa_sn tg (j + 1) = qa_sn tg j := by simp only [qa_sn, h]
theorem qa_sn_t {tg : Nat → Option Nat} {j t : Nat} (h : tg j = some t) (hs : (qa_sn tg j).1 t = true) : qa_sn tg (j + 1) = qa_sn tg j := by
  rw [qa_sn, h]
  exact if_pos hs
theorem qa_sn_f {tg : Nat → Option Nat} {j t : Nat} (h : tg j = some t) (hs : ¬ (qa_sn tg j).1 t = true) : qa_sn tg (j + 1) = (fun v => if v = t then true else (qa_sn tg j).1 v, (qa_sn tg j).2 + 1) := by
  rw [qa_sn, h]
  exact if_neg hs
theorem qa_sn_le (tg : Nat → Option Nat) : ∀ j, (qa_sn tg j).2 ≤ j := by
  intro j
  induction j with
  | zero => exact Nat.le_refl _
  | succ j ih =>
    cases e : tg j with
    | none => rw [qa_sn_n e]; omega
    | some t =>
      by_cases hs : (qa_sn tg j).1 t = true
      · rw [qa_sn_t e hs]; omega
      · rw [qa_sn_f e hs]; show (qa_sn tg j).2 + 1 ≤ j + 1; omega
theorem qa_sn_cg {tg tg' : Nat → Option Nat} : ∀ m, (∀ j, j < m → tg j = tg' j) → qa_sn tg m = qa_sn tg' m := by
  intro m
  induction m with
  | zero => intro _; rfl
  | succ m ih =>
    intro h
    rw [qa_sn, qa_sn, h m (by omega), ih (fun j hj => h j (by omega))]
def qa_tg (m : Nat) (K L R : Nat → Nat) (g : Nat → Nat) (j : Nat) : Option Nat := qa_fd K L R (K j) (g (L j)) (g (R j)) m 0
def qa_gg (a b e v : Nat) : Nat := if v = 0 then 0 else if v = 1 then 1 else if v = 2 then a else if v = 3 then b else e
def qa_gd (m : Nat) (K L R : Nat → Nat) (g : Nat → Nat) : Prop := ∀ j, j < m → qa_In m K L R (K j) (g (L j)) (g (R j))
def qa_Iv (m : Nat) (K L R : Nat → Nat) (D : Nat → Nat → Nat → Prop) (r : Nat) : Prop :=
  r ≤ m ∧ (∀ a b e, D a b e → qa_gd m K L R (qa_gg a b e) → r ≤ (qa_sn (qa_tg m K L R (qa_gg a b e)) m).2) ∧
  (r = m ∨ ∃ a b e, a < 5 ∧ b < 5 ∧ e < 5 ∧ qa_gd m K L R (qa_gg a b e) ∧ (qa_sn (qa_tg m K L R (qa_gg a b e)) m).2 = r)
theorem qa_Iv_0 {m : Nat} {K L R : Nat → Nat} {D : Nat → Nat → Nat → Prop} (h : ∀ a b e, ¬ D a b e) : qa_Iv m K L R D m := ⟨Nat.le_refl _, fun a b e d => absurd d (h a b e), Or.inl rfl⟩
theorem qa_Iv_w {m : Nat} {K L R : Nat → Nat} {D D' : Nat → Nat → Nat → Prop} {r : Nat} (h : ∀ a b e, D' a b e → D a b e) (H : qa_Iv m K L R D r) : qa_Iv m K L R D' r := ⟨H.1, fun a b e d => H.2.1 a b e (h a b e d), H.2.2⟩
theorem qa_Iv_lo {m : Nat} {K L R : Nat → Nat} {D D' : Nat → Nat → Nat → Prop} {r a b e : Nat} (ha : a < 5) (hb : b < 5) (he : e < 5) (h : ∀ x y z, D' x y z → D x y z ∨ (x = a ∧ y = b ∧ z = e)) (hg : qa_gd m K L R (qa_gg a b e))
    (hl : (qa_sn (qa_tg m K L R (qa_gg a b e)) m).2 < r) (H : qa_Iv m K L R D r) : qa_Iv m K L R D' (qa_sn (qa_tg m K L R (qa_gg a b e)) m).2 := by
  refine ⟨qa_sn_le _ _, fun x y z d g => ?_, Or.inr ⟨a, b, e, ha, hb, he, hg, rfl⟩⟩
  rcases h x y z d with d | ⟨rfl, rfl, rfl⟩
  · have := H.2.1 x y z d g; omega
  · exact Nat.le_refl _
theorem qa_Iv_ge {m : Nat} {K L R : Nat → Nat} {D D' : Nat → Nat → Nat → Prop} {r a b e : Nat} (h : ∀ x y z, D' x y z → D x y z ∨ (x = a ∧ y = b ∧ z = e))
    (hl : qa_gd m K L R (qa_gg a b e) → r ≤ (qa_sn (qa_tg m K L R (qa_gg a b e)) m).2) (H : qa_Iv m K L R D r) : qa_Iv m K L R D' r := by
  refine ⟨H.1, fun x y z d g => ?_, H.2.2⟩
  rcases h x y z d with d | ⟨rfl, rfl, rfl⟩
  · exact H.2.1 x y z d g
  · exact hl g
theorem qa_Iv_le {m : Nat} {K L R : Nat → Nat} {D D' : Nat → Nat → Nat → Prop} {r r' : Nat} (h : ∀ a b e, a < 5 → b < 5 → e < 5 → D a b e) (H : qa_Iv m K L R D r) (H' : qa_Iv m K L R D' r') : r ≤ r' := by
  rcases H'.2.2 with e | ⟨a, b, e, ha, hb, he, hg, hs⟩
  · rw [e]; exact H.1
  · rw [← hs]; exact H.2.1 a b e (h a b e ha hb he) hg
theorem qa_gg_dg {n : Nat} (h0 : qa_dg n 0 = 0) (h1 : qa_dg n 1 = 1) : ∀ v, v < 5 → qa_dg n v = qa_gg (qa_dg n 2) (qa_dg n 3) (qa_dg n 4) v := by
  intro v hv
  match v, hv with
  | 0, _ => exact h0
  | 1, _ => exact h1
  | 2, _ => rfl
  | 3, _ => rfl
  | 4, _ => rfl
theorem qa_tg_cg {m : Nat} {K L R : Nat → Nat} {g g' : Nat → Nat} (hL : ∀ j, j < m → L j < 5 ∧ R j < 5) (h : ∀ v, v < 5 → g v = g' v) : ∀ j, j < m → qa_tg m K L R g j = qa_tg m K L R g' j := by
  intro j hj
  unfold qa_tg
  rw [h _ (hL j hj).1, h _ (hL j hj).2]
theorem qa_gd_cg {m : Nat} {K L R : Nat → Nat} {g g' : Nat → Nat} (hL : ∀ j, j < m → L j < 5 ∧ R j < 5) (h : ∀ v, v < 5 → g v = g' v) (H : qa_gd m K L R g) : qa_gd m K L R g' := by
  intro j hj
  rw [← h _ (hL j hj).1, ← h _ (hL j hj).2]
  exact H j hj
end
section
/-! bits -/
theorem qb_a1 (y : Int32) : (y &&& 1 = 1) ↔ bt y 0 = true := by
  have e : bt y 0 = decide (y.toBitVec.toNat % 2 = 1) := Nat.testBit_zero _
  rw [pk_and y 1 (by decide), e, decide_eq_true_iff]
  show nI (y.toBitVec.toNat % 2) = nI 1 ↔ _
  rw [nI_eq (by omega) (by omega)]
theorem qb_a0 (y : Int32) : (y &&& 1 = 0) ↔ ¬ bt y 0 = true := by
  have e : bt y 0 = decide (y.toBitVec.toNat % 2 = 1) := Nat.testBit_zero _
  rw [pk_and y 1 (by decide), e, decide_eq_true_iff]
  show nI (y.toBitVec.toNat % 2) = nI 0 ↔ _
  rw [nI_eq (by omega) (by omega)]
  omega
theorem qb_t1 (x : Int32) {r : Nat} (h : r < 32) : ((x >>> (nI r &&& 31)) &&& 1 = 1) ↔ bt x r = true := by
  rw [qb_a1, b_sshr r h x (by decide), if_pos (by omega)]
  rfl
theorem qb_t0 (x : Int32) {r : Nat} (h : r < 32) : ((x >>> (nI r &&& 31)) &&& 1 = 0) ↔ ¬ bt x r = true := by
  rw [qb_a0, b_sshr r h x (by decide), if_pos (by omega)]
  rfl
theorem qb_1 : ∀ j, j < 32 → bt 1 j = decide (j = 0) := by decide +kernel
theorem qb_bit {r i : Nat} (h : r < 32) (hi : i < 32) : bt ((1 : Int32) <<< (nI r &&& 31)) i = decide (i = r) := by
  rw [b_shl r h 1 hi]
  by_cases e : r ≤ i
  · rw [qb_1 _ (by omega), decide_eq_true e, Bool.true_and]
    by_cases z : i = r
    · rw [decide_eq_true z, decide_eq_true (by omega)]
    · rw [decide_eq_false z, decide_eq_false (by omega)]
  · rw [decide_eq_false e, Bool.false_and, decide_eq_false (by omega)]
theorem qb_or (x : Int32) {r i : Nat} (h : r < 32) (hi : i < 32) : bt (x ||| ((1 : Int32) <<< (nI r &&& 31))) i = true ↔ (bt x i = true ∨ i = r) := by
  rw [b_or, qb_bit h hi, Bool.or_eq_true, decide_eq_true_iff]
theorem qb_and0 (x : Int32) {r : Nat} (h : r < 32) : (x &&& ((1 : Int32) <<< (nI r &&& 31)) = 0) ↔ ¬ bt x r = true := by
  constructor
  · intro z q
    have e : bt (x &&& ((1 : Int32) <<< (nI r &&& 31))) r = true := by rw [b_and, qb_bit h h, q, decide_eq_true rfl]; rfl
    rw [z, b_0] at e
    exact absurd e (by decide)
  · intro q
    apply b_ext
    intro i hi
    rw [b_and, qb_bit h hi, b_0]
    by_cases z : i = r
    · rw [z, Bool.eq_false_iff.mpr q]; rfl
    · rw [decide_eq_false z, Bool.and_false]
/-! links as sets -/
def qa_LK (lk : Nat → Int32) (F : Nat → Nat → Nat → Prop) : Prop := ∀ k l r, k < 3 → l < 21 → r < 21 → (bt (lk (k * 21 + l)) r = true ↔ F k l r)
theorem qa_LK_0 {lk : Nat → Int32} {F : Nat → Nat → Nat → Prop} (h : ∀ j, j < 63 → lk j = 0) (hF : ∀ k x y, ¬ F k x y) : qa_LK lk F := by
  intro k l r hk hl hr
  rw [h _ (by omega), b_0]
  exact ⟨fun z => absurd z (by decide), fun z => absurd z (hF k l r)⟩
theorem qa_LK_up {lk : Nat → Int32} {F F' : Nat → Nat → Nat → Prop} {k l r : Nat} (hk : k < 3) (hl : l < 21) (hr : r < 21) (H : qa_LK lk F) (hF : ∀ a b c, F' a b c ↔ (F a b c ∨ (a = k ∧ b = l ∧ c = r))) :
    qa_LK (upd lk (k * 21 + l) (lk (k * 21 + l) ||| ((1 : Int32) <<< (nI r &&& 31)))) F' := by
  intro k' l' r' hk' hl' hr'
  rw [hF]
  by_cases e : k' * 21 + l' = k * 21 + l
  · have ek : k' = k := by omega
    have el : l' = l := by omega
    subst ek el
    rw [pk_us, qb_or _ (by omega) (by omega), H k' l' r' hk' hl' hr']
    constructor
    · rintro (z | z)
      · exact Or.inl z
      · exact Or.inr ⟨rfl, rfl, z⟩
    · rintro (z | z)
      · exact Or.inl z
      · exact Or.inr z.2.2
  · rw [pk_un e, H k' l' r' hk' hl' hr']
    constructor
    · exact Or.inl
    · rintro (z | z)
      · exact z
      · exact absurd (by rw [z.1, z.2.1]) e
theorem qa_LK_cg {lk : Nat → Int32} {F F' : Nat → Nat → Nat → Prop} (H : qa_LK lk F) (h : ∀ k l r, F' k l r ↔ F k l r) : qa_LK lk F' := fun k l r a b c => (H k l r a b c).trans (h k l r).symm
/-! sections -/
def qa_A (w : Nat) (c : Nat → Nat) (K L R : Nat → Nat → Nat) (ac ak al ar : Nat → Int32) : Prop :=
  ∀ s, s < 6 → ac s = nI (c s) ∧ ∀ j, j < c s → ak (s * w + j) = nI (K s j) ∧ al (s * w + j) = nI (L s j) ∧ ar (s * w + j) = nI (R s j)
def qa_kd (rl vw s : Nat) : Nat := if s = 1 ∨ s = 2 then vw else rl
def qa_tm (vl s : Nat) : Nat := if s = 2 then vl else if 3 ≤ s then 4 else 5
def qa_lm (rm s : Nat) : Nat := if s = 2 then rm else if 3 ≤ s then 3 else 4
def qa_W (rl vw vl rm h0 h1 : Nat) (c : Nat → Nat) (K L R : Nat → Nat → Nat) : Prop :=
  (1 ≤ rl ∧ rl ≤ 3) ∧ (1 ≤ vw ∧ vw ≤ 3) ∧ (1 ≤ vl ∧ vl ≤ 4) ∧ (1 ≤ rm ∧ rm ≤ 8) ∧ h0 < 5 ∧ h1 < 5 ∧
  ∀ s, s < 6 → c s ≤ qa_lm rm s ∧ ∀ j, j < c s → K s j < qa_kd rl vw s ∧ L s j < qa_tm vl s ∧ R s j < qa_tm vl s
def qa_up2 (K : Nat → Nat → Nat) (s i v s' j' : Nat) : Nat := if s' = s ∧ j' = i then v else K s' j'
theorem qa_up2_s {K : Nat → Nat → Nat} {s i v : Nat} : qa_up2 K s i v s i = v := if_pos ⟨rfl, rfl⟩
theorem qa_up2_n {K : Nat → Nat → Nat} {s i v s' j' : Nat} (h : ¬ (s' = s ∧ j' = i)) : qa_up2 K s i v s' j' = K s' j' := if_neg h
theorem qa_lm_le {rm s : Nat} (h : rm ≤ 8) : qa_lm rm s ≤ 8 := by
  unfold qa_lm
  split
  · exact h
  · split <;> omega
theorem qa_W_c {rl vw vl rm h0 h1 : Nat} {c : Nat → Nat} {K L R : Nat → Nat → Nat} (H : qa_W rl vw vl rm h0 h1 c K L R) {s : Nat} (hs : s < 6) : c s ≤ 8 := Nat.le_trans (H.2.2.2.2.2.2 s hs).1 (qa_lm_le H.2.2.2.1.2)
theorem qa_ix {w s s' j j' : Nat} (hw : w = 8 ∨ w = 24) (hj : j < 8) (hj' : j' < 8) (h : s * w + j = s' * w + j') : s = s' ∧ j = j' := by
  rcases hw with rfl | rfl
  · omega
  · omega
theorem qa_A_set {w : Nat} {c : Nat → Nat} {K L R : Nat → Nat → Nat} {ac ak al ar : Nat → Int32} {s i n k x y : Nat} (hw : w = 8 ∨ w = 24) (hc : ∀ s, s < 6 → c s ≤ 8) (hi : i < 8) (hn : n ≤ 8) (hin : n ≤ c s ∨ (n = c s + 1 ∧ i = c s))
    (H : qa_A w c K L R ac ak al ar) :
    qa_A w (qa_set c s n) (qa_up2 K s i k) (qa_up2 L s i x) (qa_up2 R s i y) (upd ac s (nI n)) (upd ak (s * w + i) (nI k)) (upd al (s * w + i) (nI x)) (upd ar (s * w + i) (nI y)) := by
  intro s' hs'
  have h8 := hc s' hs'
  by_cases e : s' = s
  · subst e
    rw [qa_set_s, pk_us]
    refine ⟨rfl, fun j hj => ?_⟩
    by_cases z : j = i
    · subst z
      rw [pk_us, pk_us, pk_us, qa_up2_s, qa_up2_s, qa_up2_s]
      exact ⟨rfl, rfl, rfl⟩
    · have q : s' * w + j ≠ s' * w + i := by omega
      rw [pk_un q, pk_un q, pk_un q, qa_up2_n (fun h => z h.2), qa_up2_n (fun h => z h.2), qa_up2_n (fun h => z h.2)]
      exact (H s' hs').2 j (by omega)
  · rw [qa_set_n e, pk_un e]
    refine ⟨(H s' hs').1, fun j hj => ?_⟩
    have q : s' * w + j ≠ s * w + i := fun h => e (qa_ix hw (by omega) hi h).1
    rw [pk_un q, pk_un q, pk_un q, qa_up2_n (fun h => e h.1), qa_up2_n (fun h => e h.1), qa_up2_n (fun h => e h.1)]
    exact (H s' hs').2 j hj
theorem qa_W_set {rl vw vl rm h0 h1 : Nat} {c : Nat → Nat} {K L R : Nat → Nat → Nat} {s i n k x y : Nat} (hn : n ≤ qa_lm rm s) (hin : n ≤ c s ∨ (n = c s + 1 ∧ i = c s)) (hk : k < qa_kd rl vw s) (hx : x < qa_tm vl s) (hy : y < qa_tm vl s)
    (H : qa_W rl vw vl rm h0 h1 c K L R) : qa_W rl vw vl rm h0 h1 (qa_set c s n) (qa_up2 K s i k) (qa_up2 L s i x) (qa_up2 R s i y) := by
  obtain ⟨a1, a2, a3, a4, a5, a6, a7⟩ := H
  refine ⟨a1, a2, a3, a4, a5, a6, fun s' hs' => ?_⟩
  by_cases e : s' = s
  · subst e
    rw [qa_set_s]
    refine ⟨hn, fun j hj => ?_⟩
    by_cases z : j = i
    · subst z
      rw [qa_up2_s, qa_up2_s, qa_up2_s]
      exact ⟨hk, hx, hy⟩
    · rw [qa_up2_n (fun h => z h.2), qa_up2_n (fun h => z h.2), qa_up2_n (fun h => z h.2)]
      exact (a7 s' hs').2 j (by omega)
  · rw [qa_set_n e]
    refine ⟨(a7 s' hs').1, fun j hj => ?_⟩
    rw [qa_up2_n (fun h => e h.1), qa_up2_n (fun h => e h.1), qa_up2_n (fun h => e h.1)]
    exact (a7 s' hs').2 j hj
theorem qa_A_cut {w : Nat} {c : Nat → Nat} {K L R : Nat → Nat → Nat} {ac ak al ar : Nat → Int32} {s n : Nat} (hn : n ≤ c s) (H : qa_A w c K L R ac ak al ar) : qa_A w (qa_set c s n) K L R (upd ac s (nI n)) ak al ar := by
  intro s' hs'
  by_cases e : s' = s
  · subst e
    rw [qa_set_s, pk_us]
    exact ⟨rfl, fun j hj => (H s' hs').2 j (by omega)⟩
  · rw [qa_set_n e, pk_un e]
    exact H s' hs'
theorem qa_W_cut {rl vw vl rm h0 h1 : Nat} {c : Nat → Nat} {K L R : Nat → Nat → Nat} {s n : Nat} (hn : n ≤ c s) (H : qa_W rl vw vl rm h0 h1 c K L R) : qa_W rl vw vl rm h0 h1 (qa_set c s n) K L R := by
  obtain ⟨a1, a2, a3, a4, a5, a6, a7⟩ := H
  refine ⟨a1, a2, a3, a4, a5, a6, fun s' hs' => ?_⟩
  by_cases e : s' = s
  · subst e
    rw [qa_set_s]
    exact ⟨Nat.le_trans hn (a7 s' hs').1, fun j hj => (a7 s' hs').2 j (by omega)⟩
  · rw [qa_set_n e]
    exact a7 s' hs'
theorem qa_W_head {rl vw vl rm h0 h1 x y : Nat} {c : Nat → Nat} {K L R : Nat → Nat → Nat} (hx : x < 5) (hy : y < 5) (H : qa_W rl vw vl rm h0 h1 c K L R) : qa_W rl vw vl rm x y c K L R := by
  obtain ⟨a1, a2, a3, a4, a5, a6, a7⟩ := H
  exact ⟨a1, a2, a3, a4, hx, hy, a7⟩
/-! the reference's own section of facts -/
def qa_YF (ac ak ax ay : Nat → Int32) (n : Nat) (F : Nat → Nat → Nat → Prop) : Prop :=
  ac 6 = nI n ∧ ∃ K L R : Nat → Nat, (∀ j, j < n → ak (144 + j) = nI (K j) ∧ ax (144 + j) = nI (L j) ∧ ay (144 + j) = nI (R j) ∧ K j < 1000 ∧ L j < 1000 ∧ R j < 1000) ∧ ∀ k x y, F k x y ↔ qa_In n K L R k x y
theorem qa_YF_0 {ac ak ax ay : Nat → Int32} {F : Nat → Nat → Nat → Prop} (h : ac 6 = 0) (hF : ∀ k x y, ¬ F k x y) : qa_YF ac ak ax ay 0 F :=
  ⟨h, fun _ => 0, fun _ => 0, fun _ => 0, fun j hj => absurd hj (Nat.not_lt_zero j), fun k x y => ⟨fun z => absurd z (hF k x y), fun ⟨j, hj, _⟩ => absurd hj (Nat.not_lt_zero j)⟩⟩
theorem qa_YF_cg {ac ak ax ay : Nat → Int32} {n : Nat} {F F' : Nat → Nat → Nat → Prop} (H : qa_YF ac ak ax ay n F) (h : ∀ k x y, F' k x y ↔ F k x y) : qa_YF ac ak ax ay n F' := by
  obtain ⟨a, K, L, R, b, d⟩ := H
  exact ⟨a, K, L, R, b, fun k x y => (h k x y).trans (d k x y)⟩
theorem qa_YF_add {ac ak ax ay : Nat → Int32} {n k x y : Nat} {F F' : Nat → Nat → Nat → Prop} (hk : k < 1000) (hx : x < 1000) (hy : y < 1000) (H : qa_YF ac ak ax ay n F)
    (hF : ∀ a b c, F' a b c ↔ (F a b c ∨ (a = k ∧ b = x ∧ c = y))) :
    qa_YF (upd ac 6 (nI (n + 1))) (upd ak (144 + n) (nI k)) (upd ax (144 + n) (nI x)) (upd ay (144 + n) (nI y)) (n + 1) F' := by
  obtain ⟨a, K, L, R, b, d⟩ := H
  refine ⟨pk_us, qa_set K n k, qa_set L n x, qa_set R n y, fun j hj => ?_, fun k' x' y' => ?_⟩
  · by_cases e : j = n
    · subst e
      rw [pk_us, pk_us, pk_us, qa_set_s, qa_set_s, qa_set_s]
      exact ⟨rfl, rfl, rfl, hk, hx, hy⟩
    · have q : 144 + j ≠ 144 + n := by omega
      rw [pk_un q, pk_un q, pk_un q, qa_set_n e, qa_set_n e, qa_set_n e]
      exact b j (by omega)
  · rw [hF, d]
    constructor
    · rintro (⟨j, hj, z1, z2, z3⟩ | ⟨z1, z2, z3⟩)
      · have e : j ≠ n := by omega
        exact ⟨j, by omega, by rw [qa_set_n e]; exact z1, by rw [qa_set_n e]; exact z2, by rw [qa_set_n e]; exact z3⟩
      · exact ⟨n, by omega, by rw [qa_set_s]; exact z1.symm, by rw [qa_set_s]; exact z2.symm, by rw [qa_set_s]; exact z3.symm⟩
    · rintro ⟨j, hj, z1, z2, z3⟩
      by_cases e : j = n
      · subst e
        rw [qa_set_s] at z1 z2 z3
        exact Or.inr ⟨z1.symm, z2.symm, z3.symm⟩
      · rw [qa_set_n e] at z1 z2 z3
        exact Or.inl ⟨j, by omega, z1, z2, z3⟩
theorem qa_A_6 {c : Nat → Nat} {K L R : Nat → Nat → Nat} {ac ak al ar : Nat → Int32} {n : Nat} {v k x y : Int32} (hc : ∀ s, s < 6 → c s ≤ 8) (H : qa_A 24 c K L R ac ak al ar) :
    qa_A 24 c K L R (upd ac 6 v) (upd ak (144 + n) k) (upd al (144 + n) x) (upd ar (144 + n) y) := by
  intro s hs
  have h8 := hc s hs
  rw [pk_un (show s ≠ 6 by omega)]
  refine ⟨(H s hs).1, fun j hj => ?_⟩
  have q : s * 24 + j ≠ 144 + n := by omega
  rw [pk_un q, pk_un q, pk_un q]
  exact (H s hs).2 j hj
theorem qa_A_c6 {c : Nat → Nat} {K L R : Nat → Nat → Nat} {ac ak al ar : Nat → Int32} {v : Int32} (H : qa_A 24 c K L R ac ak al ar) : qa_A 24 c K L R (upd ac 6 v) ak al ar := by
  intro s hs
  rw [pk_un (show s ≠ 6 by omega)]
  exact H s hs
end
section
/-! five images by name -/
def qa_g5 (p q a b e v : Nat) : Nat := if v = 0 then p else if v = 1 then q else if v = 2 then a else if v = 3 then b else e
theorem qa_g5_0 {p q a b e : Nat} : qa_g5 p q a b e 0 = p := rfl
theorem qa_g5_1 {p q a b e : Nat} : qa_g5 p q a b e 1 = q := rfl
theorem qa_g5_2 {p q a b e : Nat} : qa_g5 p q a b e 2 = a := rfl
theorem qa_g5_3 {p q a b e : Nat} : qa_g5 p q a b e 3 = b := rfl
theorem qa_g5_4 {p q a b e : Nat} : qa_g5 p q a b e 4 = e := rfl
theorem qa_5 {P : Nat → Prop} (h0 : P 0) (h1 : P 1) (h2 : P 2) (h3 : P 3) (h4 : P 4) : ∀ v, v < 5 → P v := fun v hv =>
  match v, hv with
  | 0, _ => h0
  | 1, _ => h1
  | 2, _ => h2
  | 3, _ => h3
  | 4, _ => h4
theorem qa_g5_e (g : Nat → Nat) : ∀ v, v < 5 → qa_g5 (g 0) (g 1) (g 2) (g 3) (g 4) v = g v := qa_5 rfl rfl rfl rfl rfl
theorem qa_g5_lt {p q a b e T : Nat} (hp : p < T) (hq : q < T) (ha : a < T) (hb : b < T) (he : e < T) : ∀ v, v < 5 → qa_g5 p q a b e v < T := qa_5 hp hq ha hb he
/-- a section carried by g into the set F -/
def qa_Ca (m : Nat) (K L R : Nat → Nat) (F : Nat → Nat → Nat → Prop) (g : Nat → Nat) : Prop := ∀ j, j < m → F (K j) (g (L j)) (g (R j))
theorem qa_Ca_cg {m : Nat} {K L R : Nat → Nat} {F : Nat → Nat → Nat → Prop} {g g' : Nat → Nat} {T : Nat} (hL : ∀ j, j < m → L j < T ∧ R j < T) (h : ∀ v, v < T → g v = g' v) (H : qa_Ca m K L R F g) : qa_Ca m K L R F g' := by
  intro j hj
  rw [← h _ (hL j hj).1, ← h _ (hL j hj).2]
  exact H j hj
def qa_E3 (Q : Nat → Nat → Nat → Prop) (T a b e : Nat) : Prop := ∃ e', e ≤ e' ∧ e' < T ∧ Q a b e'
def qa_E2 (Q : Nat → Nat → Nat → Prop) (T a b : Nat) : Prop := ∃ b', b ≤ b' ∧ b' < T ∧ qa_E3 Q T a b' 0
def qa_E1 (Q : Nat → Nat → Nat → Prop) (T a : Nat) : Prop := ∃ a', a ≤ a' ∧ a' < T ∧ qa_E2 Q T a' 0
theorem qa_ex_s {P : Nat → Prop} {T a : Nat} (h : a < T) : (∃ x, a ≤ x ∧ x < T ∧ P x) ↔ (P a ∨ ∃ x, a + 1 ≤ x ∧ x < T ∧ P x) := by
  constructor
  · rintro ⟨x, h1, h2, h3⟩
    by_cases e : x = a
    · subst e; exact Or.inl h3
    · exact Or.inr ⟨x, by omega, h2, h3⟩
  · rintro (h3 | ⟨x, h1, h2, h3⟩)
    · exact ⟨a, Nat.le_refl _, h, h3⟩
    · exact ⟨x, by omega, h2, h3⟩
theorem qa_ex_no {P : Nat → Prop} {T a : Nat} (h : T ≤ a) : ¬ ∃ x, a ≤ x ∧ x < T ∧ P x := by
  rintro ⟨x, h1, h2, _⟩
  omega
theorem qa_M3 {n : Nat} {K L R : Nat → Nat} {F : Nat → Nat → Nat → Prop} {T p q : Nat} (hL : ∀ j, j < n → L j < 5 ∧ R j < 5) (hp : p < T) (hq : q < T) :
    qa_Mt n K L R F T p q ↔ qa_E1 (fun a b e => qa_Ca n K L R F (qa_g5 p q a b e)) T 0 := by
  constructor
  · rintro ⟨g, h0, h1, h2, h3⟩
    refine ⟨g 2, Nat.zero_le _, h2 2 (by decide), g 3, Nat.zero_le _, h2 3 (by decide), g 4, Nat.zero_le _, h2 4 (by decide), ?_⟩
    refine qa_Ca_cg hL (fun v hv => ?_) h3
    rw [← h0, ← h1]
    exact (qa_g5_e g v hv).symm
  · rintro ⟨a, _, ha, b, _, hb, e, _, he, h⟩
    exact ⟨qa_g5 p q a b e, rfl, rfl, qa_g5_lt hp hq ha hb he, h⟩
/-! what a view gives over the query -/
def qa_Vg (c : Nat → Nat) (K L R : Nat → Nat → Nat) (v p q : Nat) : Prop :=
  ∃ a, a < 5 ∧ ∃ b, b < 5 ∧ qa_Ca (c (3 + v)) (K (3 + v)) (L (3 + v)) (R (3 + v)) (qa_In (c 0) (K 0) (L 0) (R 0)) (qa_g5 p q a b 0)
theorem qa_Vg_n {c : Nat → Nat} {K L R : Nat → Nat → Nat} {v p q : Nat} : qa_Vg c K L R v p q ↔ ∃ n, 0 ≤ n ∧ n < 25 ∧ qa_Ca (c (3 + v)) (K (3 + v)) (L (3 + v)) (R (3 + v)) (qa_In (c 0) (K 0) (L 0) (R 0)) (qa_g5 p q (n / 5) (n % 5) 0) := by
  constructor
  · rintro ⟨a, ha, b, hb, h⟩
    refine ⟨5 * a + b, Nat.zero_le _, by omega, ?_⟩
    rw [show (5 * a + b) / 5 = a by omega, show (5 * a + b) % 5 = b by omega]
    exact h
  · rintro ⟨n, _, hn, h⟩
    exact ⟨n / 5, by omega, n % 5, by omega, h⟩
/-! triples, as the arguments come -/
def qa_T (rl vw vl : Nat) (s k x y : Int32) : Prop := ∃ s' k' x' y' : Nat, s = nI s' ∧ k = nI k' ∧ x = nI x' ∧ y = nI y' ∧ s' < 3 + vw ∧ k' < qa_kd rl vw s' ∧ x' < qa_tm vl s' ∧ y' < qa_tm vl s'
theorem qa_in_or (x : Int32) {n : Nat} (hn : n < 2 ^ 31) : (∃ j, j < n ∧ x = nI j) ∨ (¬ ∃ j, j < n ∧ x = nI j) ∧ (x < 0 ∨ (¬ x < 0 ∧ nI n ≤ x)) := by
  by_cases h0 : x < 0
  · refine Or.inr ⟨?_, Or.inl h0⟩
    rintro ⟨j, hj, rfl⟩
    exact nI_pos (by omega) h0
  · obtain ⟨j, hj, rfl⟩ := nI_of h0
    by_cases h : j < n
    · exact Or.inl ⟨j, h, rfl⟩
    · refine Or.inr ⟨?_, Or.inr ⟨h0, nI_le (by omega) hj⟩⟩
      rintro ⟨i, hi, e⟩
      rw [nI_eq hj (by omega)] at e
      omega
end
section
/-! the component's small methods -/
theorem qn_10 : ¬ (1 : Int32) = 0 := by decide
theorem qn_s (a j : Nat) : nI (a + j) + 1 = nI (a + (j + 1)) := nI_1 _
theorem qn_m1 {n : Nat} (h : n < 2 ^ 31) : ¬ nI n = (-1) := by
  intro e
  have z : ¬ nI n < 0 := nI_pos h
  rw [e] at z
  exact z (by decide)
theorem qn_3 (n : Nat) : (3 : Int32) + nI n = nI (3 + n) := nI_add 3 n
theorem qn_2 (n : Nat) : (2 : Int32) + nI n = nI (2 + n) := nI_add 2 n
theorem qx_below {post : Int32 → Prop} {x : Int32} {n : Nat} (hn : n < 2 ^ 31) (h1 : ∀ j, j < n → x = nI j → post 1) (h0 : (¬ ∃ j, j < n ∧ x = nI j) → post 0) : wpX_isBelow post x (nI n) := by
  rcases qa_in_or x hn with ⟨j, hj, rfl⟩ | ⟨hno, h | ⟨h, h'⟩⟩
  · exact br_f (nI_pos (by omega)) (br_f (nI_ge hj hn) (h1 j hj rfl))
  · exact br_t h (h0 hno)
  · exact br_f h (br_t h' (h0 hno))
section
variable {rl vw vl rm h0 h1 : Nat} {c : Nat → Nat} {K L R : Nat → Nat → Nat} {fr fv fl fm f0 f1 : Int32} {ac ak al ar lk im le gr : Nat → Int32}
theorem qx_section {post : Int32 → Prop} {x : Int32} (hv : vw ≤ 3) (p1 : ∀ j, j < 3 + vw → x = nI j → post 1) (p0 : (¬ ∃ j, j < 3 + vw ∧ x = nI j) → post 0) : wpX_isSection post (fr, nI vw, fl, fm, f0, f1, ac, ak, al, ar, lk, im, le, gr) x := by
  rcases qa_in_or x (n := 3 + vw) (by omega) with ⟨j, hj, rfl⟩ | ⟨hno, h | ⟨h, h'⟩⟩
  · exact br_f (nI_pos (by omega)) (br_f (by rw [qn_3]; exact nI_ge hj (by omega)) (p1 j hj rfl))
  · exact br_t h (p0 hno)
  · exact br_f h (br_t (by rw [qn_3]; exact h') (p0 hno))
theorem qa_tm_0 : qa_tm vl 0 = 5 := rfl
theorem qa_tm_1 : qa_tm vl 1 = 5 := rfl
theorem qa_tm_2 : qa_tm vl 2 = vl := rfl
theorem qa_tm_3 {s : Nat} (h : 3 ≤ s) : qa_tm vl s = 4 := by rw [qa_tm, if_neg (by omega), if_pos h]
theorem qa_lm_0 : qa_lm rm 0 = 4 := rfl
theorem qa_lm_1 : qa_lm rm 1 = 4 := rfl
theorem qa_lm_2 : qa_lm rm 2 = rm := rfl
theorem qa_lm_3 {s : Nat} (h : 3 ≤ s) : qa_lm rm s = 3 := by rw [qa_lm, if_neg (by omega), if_pos h]
theorem qx_termsIn {post : Int32 → Prop} {s : Nat} (hs : s < 6) (hp : post (nI (qa_tm vl s))) : wpX_termsIn post (fr, fv, nI vl, fm, f0, f1, ac, ak, al, ar, lk, im, le, gr) (nI s) := by
  refine br_f (nI_pos (by omega)) (pk_lt 2 s (fun h => ?_) (fun h => pk_eq s 0 (fun e => ?_) (fun e0 => pk_eq s 1 (fun e => ?_) (fun e1 => pk_eq s 2 (fun e => ?_) (fun e => trivial)))))
  · rw [qa_tm_3 (by omega)] at hp; exact hp
  · subst e; exact hp
  · subst e; exact hp
  · subst e; exact hp
theorem qx_limit {post : Int32 → Prop} {s : Nat} (hs : s < 6) (hp : post (nI (qa_lm rm s))) : wpX_limit post (fr, fv, fl, nI rm, f0, f1, ac, ak, al, ar, lk, im, le, gr) (nI s) := by
  refine br_f (nI_pos (by omega)) (pk_lt 2 s (fun h => ?_) (fun h => pk_eq s 0 (fun e => ?_) (fun e0 => pk_eq s 1 (fun e => ?_) (fun e1 => pk_eq s 2 (fun e => ?_) (fun e => trivial)))))
  · rw [qa_lm_3 (by omega)] at hp; exact hp
  · subst e; exact hp
  · subst e; exact hp
  · subst e; exact hp
theorem qa_tm_le {s : Nat} (h : vl ≤ 4) : qa_tm vl s ≤ 5 := by
  unfold qa_tm
  split
  · omega
  · split <;> omega
theorem qx_tr31 {post : Int32 → Prop} {n s : Nat} {k x y : Int32} (hn : n < 2 ^ 31) (hs : s < 6) (hl : vl ≤ 4)
    (p1 : ∀ k' x' y' : Nat, k = nI k' → x = nI x' → y = nI y' → k' < n → x' < qa_tm vl s → y' < qa_tm vl s → post 1)
    (p0 : (¬ ∃ k' x' y' : Nat, k = nI k' ∧ x = nI x' ∧ y = nI y' ∧ k' < n ∧ x' < qa_tm vl s ∧ y' < qa_tm vl s) → post 0) :
    wX_isTriple_31 post (nI s) k x y (nI n) fr fv (nI vl) fm f0 f1 ac ak al ar lk im le gr := by
  have h5 : qa_tm vl s < 2 ^ 31 := by have := qa_tm_le (s := s) hl; omega
  unfold wX_isTriple_31
  refine qx_termsIn hs ?_
  refine qx_below hn (fun k' hk ek => br_f qn_10 ?_) (fun z => br_t rfl (p0 ?_))
  · refine qx_below h5 (fun x' hx ex => br_f qn_10 ?_) (fun z => br_t rfl (p0 ?_))
    · refine qx_below h5 (fun y' hy ey => br_f qn_10 (p1 k' x' y' ek ex ey hk hx hy)) (fun z => br_t rfl (p0 ?_))
      rintro ⟨k', x', y', e1, e2, e3, b1, b2, b3⟩
      exact z ⟨y', b3, e3⟩
    · rintro ⟨k', x', y', e1, e2, e3, b1, b2, b3⟩
      exact z ⟨x', b2, e2⟩
  · rintro ⟨k', x', y', e1, e2, e3, b1, b2, b3⟩
    exact z ⟨k', b1, e1⟩
theorem qx_isTriple {post : Int32 → Prop} {s k x y : Int32} (hr : rl ≤ 3) (hv : vw ≤ 3) (hl : vl ≤ 4)
    (p1 : ∀ s' k' x' y' : Nat, s = nI s' → k = nI k' → x = nI x' → y = nI y' → s' < 3 + vw → k' < qa_kd rl vw s' → x' < qa_tm vl s' → y' < qa_tm vl s' → post 1)
    (p0 : ¬ qa_T rl vw vl s k x y → post 0) : wpX_isTriple post (nI rl, nI vw, nI vl, fm, f0, f1, ac, ak, al, ar, lk, im, le, gr) s k x y := by
  unfold wpX_isTriple
  refine qx_section hv (fun j hj ej => br_f qn_10 ?_) (fun z => br_t rfl (p0 ?_))
  · subst ej
    have q1 : ∀ n, qa_kd rl vw j = n → wX_isTriple_31 post (nI j) k x y (nI n) (nI rl) (nI vw) (nI vl) fm f0 f1 ac ak al ar lk im le gr := by
      intro n en
      refine qx_tr31 ?_ (by omega) hl (fun k' x' y' e1 e2 e3 b1 b2 b3 => p1 j k' x' y' rfl e1 e2 e3 hj (by rw [en]; exact b1) b2 b3) (fun z => p0 ?_)
      · rw [← en]; unfold qa_kd; split <;> omega
      · rintro ⟨s', k', x', y', e0, e1, e2, e3, b0, b1, b2, b3⟩
        rw [nI_eq (by omega) (by omega)] at e0
        subst e0
        exact z ⟨k', x', y', e1, e2, e3, by rw [← en]; exact b1, b2, b3⟩
    refine pk_eq j 1 (fun e => ?_) (fun e1 => pk_eq j 2 (fun e => ?_) (fun e => ?_))
    · exact q1 vw (if_pos (Or.inl e))
    · exact q1 vw (if_pos (Or.inr e))
    · exact q1 rl (if_neg (by omega))
  · rintro ⟨s', k', x', y', e0, e1, e2, e3, b0, b1, b2, b3⟩
    exact z ⟨s', b0, e0⟩
theorem qx_pl21 {post : Int32 → Prop} {s k x y : Nat} (hA : qa_A 8 c K L R ac ak al ar) (hs : s < 6) (hc : c s ≤ 8) (hb : ∀ j, j < c s → K s j < 100 ∧ L s j < 100 ∧ R s j < 100) (hk : k < 100) (hx : x < 100) (hy : y < 100) :
    ∀ d j n, j + d = c s → d < n → (∀ i, qa_fd (K s) (L s) (R s) k x y d j = some i → post (nI (s * 8 + i))) → (qa_fd (K s) (L s) (R s) k x y d j = none → post (-1)) →
      wX_place_21 post (nI k) (nI x) (nI y) (nI (s * 8 + c s)) fr fv fl fm f0 f1 ac ak al ar lk im le gr n (nI (s * 8 + j)) := by
  intro d
  induction d with
  | zero =>
    intro j n hj hn p1 p0
    obtain ⟨n, rfl⟩ : ∃ m, n = m + 1 := ⟨n - 1, by omega⟩
    exact br_t (nI_le (by omega) (by omega)) (p0 rfl)
  | succ d ih =>
    intro j n hj hn p1 p0
    obtain ⟨n, rfl⟩ : ∃ m, n = m + 1 := ⟨n - 1, by omega⟩
    obtain ⟨e1, e2, e3⟩ := (hA s hs).2 j (by omega)
    obtain ⟨b1, b2, b3⟩ := hb j (by omega)
    have hcl : (nI (s * 8 + j)).toNatClampNeg = s * 8 + j := nI_clamp (by omega)
    have hin : vp_in (nI (s * 8 + j)) 48 := vp_in_nI (by omega) (by omega)
    have hnx : ¬ (K s j = k ∧ L s j = x ∧ R s j = y) → wX_place_21 post (nI k) (nI x) (nI y) (nI (s * 8 + c s)) fr fv fl fm f0 f1 ac ak al ar lk im le gr n (nI (s * 8 + (j + 1))) := fun z =>
      ih (j + 1) n (by omega) (by omega) (fun i hi => p1 i (by rw [qa_fd, if_neg z]; exact hi)) (fun hi => p0 (by rw [qa_fd, if_neg z]; exact hi))
    refine br_f (nI_ge (by omega) (by omega)) ⟨hin, pk_eq (K s j) k (fun q1 => ⟨hin, pk_eq (L s j) x (fun q2 => ⟨hin, pk_eq (R s j) y (fun q3 => ?_) (fun q3 => ?_) (by rw [hcl]; exact e3)⟩) (fun q2 => ?_) (by rw [hcl]; exact e2)⟩) (fun q1 => ?_) (by rw [hcl]; exact e1)⟩
    · exact p1 j (by rw [qa_fd, if_pos ⟨q1, q2, q3⟩])
    · exact nm_r (qn_s _ _) (hnx (fun z => q3 z.2.2))
    · exact nm_r (qn_s _ _) (hnx (fun z => q2 z.2.1))
    · exact nm_r (qn_s _ _) (hnx (fun z => q1 z.1))
theorem qx_place {post : Int32 → Prop} {s k x y : Nat} (hA : qa_A 8 c K L R ac ak al ar) (hs : s < 6) (hc : c s ≤ 8) (hb : ∀ j, j < c s → K s j < 100 ∧ L s j < 100 ∧ R s j < 100) (hk : k < 100) (hx : x < 100) (hy : y < 100)
    (p1 : ∀ i, qa_fd (K s) (L s) (R s) k x y (c s) 0 = some i → post (nI (s * 8 + i))) (p0 : qa_fd (K s) (L s) (R s) k x y (c s) 0 = none → post (-1)) :
    wpX_place post (fr, fv, fl, fm, f0, f1, ac, ak, al, ar, lk, im, le, gr) (nI s) (nI k) (nI x) (nI y) := by
  refine nm_r (pk_mul s 8) ⟨vp_in_nI (by omega) (by omega), nm_r (e' := nI (s * 8 + c s)) (by rw [nI_clamp (by omega), (hA s hs).1, nI_add]) ⟨c s + 1, ?_⟩⟩
  exact qx_pl21 hA hs hc hb hk hx hy (c s) 0 (c s + 1) (by omega) (by omega) p1 p0
end
end
section
/-! the reference's small methods -/
section
variable {rl vw vl rm h0 h1 : Nat} {c : Nat → Nat} {K L R : Nat → Nat → Nat} {yr yv yl ym y0 y1 yt : Int32} {bc bk bx bw bf bg : Nat → Int32}
theorem qy_61 {post : Int32 → Prop} {n t : Nat} {k x y : Int32} (hn : n < 2 ^ 31) (ht : t < 2 ^ 31)
    (p1 : ∀ k' x' y' : Nat, k = nI k' → x = nI x' → y = nI y' → k' < n → x' < t → y' < t → post 0)
    (p0 : (¬ ∃ k' x' y' : Nat, k = nI k' ∧ x = nI x' ∧ y = nI y' ∧ k' < n ∧ x' < t ∧ y' < t) → post 1) :
    wY_bad_61 post k x y (nI n) (nI t) yr yv yl ym y0 y1 yt bc bk bx bw bf bg := by
  rcases qa_in_or k hn with ⟨k', hk, rfl⟩ | ⟨hno, h⟩
  · refine br_f (nI_pos (by omega)) (br_f (nI_ge hk hn) ?_)
    rcases qa_in_or x ht with ⟨x', hx, rfl⟩ | ⟨hno, h⟩
    · refine br_f (nI_pos (by omega)) (br_f (nI_ge hx ht) ?_)
      rcases qa_in_or y ht with ⟨y', hy, rfl⟩ | ⟨hno, h⟩
      · exact br_f (nI_pos (by omega)) (br_t (nI_lt hy ht) (p1 k' x' y' rfl rfl rfl hk hx hy))
      · have z := p0 (fun ⟨_, _, y', _, _, e, _, _, b⟩ => hno ⟨y', b, e⟩)
        rcases h with h | ⟨h, h'⟩
        · exact br_t h z
        · exact br_f h (br_f (Int32.not_lt.mpr h') z)
    · have z := p0 (fun ⟨_, x', _, _, e, _, _, b, _⟩ => hno ⟨x', b, e⟩)
      rcases h with h | ⟨h, h'⟩
      · exact br_t h z
      · exact br_f h (br_t h' z)
  · have z := p0 (fun ⟨k', _, _, e, _, _, b, _, _⟩ => hno ⟨k', b, e⟩)
    rcases h with h | ⟨h, h'⟩
    · exact br_t h z
    · exact br_f h (br_t h' z)
theorem qy_37 {post : Int32 → Prop} {n s : Nat} {k x y : Int32} (hn : n < 2 ^ 31) (hs : s < 6) (hl : vl ≤ 4)
    (p1 : ∀ k' x' y' : Nat, k = nI k' → x = nI x' → y = nI y' → k' < n → x' < qa_tm vl s → y' < qa_tm vl s → post 0)
    (p0 : (¬ ∃ k' x' y' : Nat, k = nI k' ∧ x = nI x' ∧ y = nI y' ∧ k' < n ∧ x' < qa_tm vl s ∧ y' < qa_tm vl s) → post 1) :
    wY_bad_37 post (nI s) k x y (nI n) yr yv (nI vl) ym y0 y1 yt bc bk bx bw bf bg := by
  have h5 : qa_tm vl s < 2 ^ 31 := by have := qa_tm_le (s := s) hl; omega
  have H := fun (t : Nat) (e : qa_tm vl s = t) => qy_61 (post := post) (n := n) (t := t) (k := k) (x := x) (y := y) (yr := yr) (yv := yv) (yl := nI vl) (ym := ym) (y0 := y0) (y1 := y1) (yt := yt) (bc := bc) (bk := bk) (bx := bx) (bw := bw) (bf := bf) (bg := bg) hn (by omega)
    (by rw [← e]; exact p1) (by rw [← e]; exact p0)
  refine pk_eq s 2 (fun e => ?_) (fun e => pk_lt s 3 (fun h => ?_) (fun h => ?_))
  · exact H vl (by rw [e]; rfl)
  · exact H 5 (by rw [qa_tm, if_neg e, if_neg (by omega)])
  · exact H 4 (qa_tm_3 h)
theorem qy_bad {post : Int32 → Prop} {s k x y : Int32} (hr : rl ≤ 3) (hv : vw ≤ 3) (hl : vl ≤ 4)
    (p1 : ∀ s' k' x' y' : Nat, s = nI s' → k = nI k' → x = nI x' → y = nI y' → s' < 3 + vw → k' < qa_kd rl vw s' → x' < qa_tm vl s' → y' < qa_tm vl s' → post 0)
    (p0 : ¬ qa_T rl vw vl s k x y → post 1) : wpY_bad post (nI rl, nI vw, nI vl, ym, y0, y1, yt, bc, bk, bx, bw, bf, bg) s k x y := by
  rcases qa_in_or s (n := 3 + vw) (by omega) with ⟨j, hj, rfl⟩ | ⟨hno, h⟩
  · refine br_f (nI_pos (by omega)) (br_t (by rw [qn_2]; exact nI_le (by omega) (by omega)) ?_)
    have q1 : ∀ n, qa_kd rl vw j = n → wY_bad_37 post (nI j) k x y (nI n) (nI rl) (nI vw) (nI vl) ym y0 y1 yt bc bk bx bw bf bg := by
      intro n en
      refine qy_37 ?_ (by omega) hl (fun k' x' y' e1 e2 e3 b1 b2 b3 => p1 j k' x' y' rfl e1 e2 e3 hj (by rw [en]; exact b1) b2 b3) (fun z => p0 ?_)
      · rw [← en]; unfold qa_kd; split <;> omega
      · rintro ⟨s', k', x', y', e0, e1, e2, e3, b0, b1, b2, b3⟩
        rw [nI_eq (by omega) (by omega)] at e0
        subst e0
        exact z ⟨k', x', y', e1, e2, e3, by rw [← en]; exact b1, b2, b3⟩
    refine pk_eq j 1 (fun e => ?_) (fun e1 => pk_eq j 2 (fun e => ?_) (fun e => ?_))
    · exact q1 vw (if_pos (Or.inl e))
    · exact q1 vw (if_pos (Or.inr e))
    · exact q1 rl (if_neg (by omega))
  · have z := p0 (fun ⟨s', _, _, _, e, _, _, _, b, _, _, _⟩ => hno ⟨s', b, e⟩)
    rcases h with h | ⟨h, h'⟩
    · exact br_t h z
    · refine br_f h (br_f ?_ z)
      obtain ⟨j, hj, rfl⟩ := nI_of h
      rw [nI_leI (by omega) hj] at h'
      rw [qn_2]
      exact nI_ge (by omega) hj
theorem qy_fd6 {post : Int32 → Prop} {s m k x y : Nat} {K L R : Nat → Nat} (hs : s < 7) (hm : m ≤ 24) (hc : bc s = nI m) (hA : ∀ j, j < m → bk (s * 24 + j) = nI (K j) ∧ bx (s * 24 + j) = nI (L j) ∧ bw (s * 24 + j) = nI (R j))
    (hb : ∀ j, j < m → K j < 1000 ∧ L j < 1000 ∧ R j < 1000) (hk : k < 1000) (hx : x < 1000) (hy : y < 1000) :
    ∀ d j n, j + d = m → d < n → (∀ i, qa_fd K L R k x y d j = some i → post (nI (s * 24 + i))) → (qa_fd K L R k x y d j = none → post (-1)) →
      wY_find_6 post (nI s) (nI k) (nI x) (nI y) yr yv yl ym y0 y1 yt bc bk bx bw bf bg n (nI (s * 24 + j)) := by
  have hins : vp_in (nI s) 7 := vp_in_nI (by omega) (by omega)
  have hend : nI s * 24 + bc (nI s).toNatClampNeg = nI (s * 24 + m) := by
    rw [nI_clamp (by omega), hc, show nI s * 24 = nI (s * 24) from pk_mul s 24, nI_add]
  intro d
  induction d with
  | zero =>
    intro j n hj hn p1 p0
    obtain ⟨n, rfl⟩ : ∃ m, n = m + 1 := ⟨n - 1, by omega⟩
    exact ⟨hins, br_t (by rw [hend]; exact nI_le (by omega) (by omega)) (p0 rfl)⟩
  | succ d ih =>
    intro j n hj hn p1 p0
    obtain ⟨n, rfl⟩ : ∃ m, n = m + 1 := ⟨n - 1, by omega⟩
    obtain ⟨e1, e2, e3⟩ := hA j (by omega)
    obtain ⟨b1, b2, b3⟩ := hb j (by omega)
    have hcl : (nI (s * 24 + j)).toNatClampNeg = s * 24 + j := nI_clamp (by omega)
    have hin : vp_in (nI (s * 24 + j)) 168 := vp_in_nI (by omega) (by omega)
    have hnx : ¬ (K j = k ∧ L j = x ∧ R j = y) → wY_find_6 post (nI s) (nI k) (nI x) (nI y) yr yv yl ym y0 y1 yt bc bk bx bw bf bg n (nI (s * 24 + (j + 1))) := fun z =>
      ih (j + 1) n (by omega) (by omega) (fun i hi => p1 i (by rw [qa_fd, if_neg z]; exact hi)) (fun hi => p0 (by rw [qa_fd, if_neg z]; exact hi))
    refine ⟨hins, br_f (by rw [hend]; exact nI_ge (by omega) (by omega)) ⟨hin, pk_eq (K j) k (fun q1 => ⟨hin, pk_eq (L j) x (fun q2 => ⟨hin, pk_eq (R j) y (fun q3 => ?_) (fun q3 => ?_) (by rw [hcl]; exact e3)⟩) (fun q2 => ?_) (by rw [hcl]; exact e2)⟩) (fun q1 => ?_) (by rw [hcl]; exact e1)⟩⟩
    · exact p1 j (by rw [qa_fd, if_pos ⟨q1, q2, q3⟩])
    · exact nm_r (qn_s _ _) (hnx (fun z => q3 z.2.2))
    · exact nm_r (qn_s _ _) (hnx (fun z => q2 z.2.1))
    · exact nm_r (qn_s _ _) (hnx (fun z => q1 z.1))
theorem qy_find {post : Int32 → Prop} {s m k x y : Nat} {K L R : Nat → Nat} (hs : s < 7) (hm : m ≤ 24) (hc : bc s = nI m) (hA : ∀ j, j < m → bk (s * 24 + j) = nI (K j) ∧ bx (s * 24 + j) = nI (L j) ∧ bw (s * 24 + j) = nI (R j))
    (hb : ∀ j, j < m → K j < 1000 ∧ L j < 1000 ∧ R j < 1000) (hk : k < 1000) (hx : x < 1000) (hy : y < 1000)
    (p1 : ∀ i, qa_fd K L R k x y m 0 = some i → post (nI (s * 24 + i))) (p0 : qa_fd K L R k x y m 0 = none → post (-1)) :
    wpY_find post (yr, yv, yl, ym, y0, y1, yt, bc, bk, bx, bw, bf, bg) (nI s) (nI k) (nI x) (nI y) :=
  nm_r (pk_mul s 24) ⟨m + 1, qy_fd6 hs hm hc hA hb hk hx hy m 0 (m + 1) (by omega) (by omega) p1 p0⟩
theorem qy_add {post : SY → Prop} {s m : Nat} {k x y : Int32} (hs : s < 7) (hm : m < 24) (hc : bc s = nI m) (hp : post (yr, yv, yl, ym, y0, y1, yt, upd bc s (nI (m + 1)), upd bk (s * 24 + m) k, upd bx (s * 24 + m) x, upd bw (s * 24 + m) y, bf, bg)) :
    wpY_add post (yr, yv, yl, ym, y0, y1, yt, bc, bk, bx, bw, bf, bg) (nI s) k x y := by
  have hins : vp_in (nI s) 7 := vp_in_nI (by omega) (by omega)
  have hcs : (nI s).toNatClampNeg = s := nI_clamp (by omega)
  have hin : vp_in (nI (s * 24 + m)) 168 := vp_in_nI (by omega) (by omega)
  have hcl : (nI (s * 24 + m)).toNatClampNeg = s * 24 + m := nI_clamp (by omega)
  refine ⟨hins, br_t (by rw [hcs, hc]; exact nI_lt (b := 24) (by omega) (by decide)) ⟨hins, nm_r (e' := nI (s * 24 + m)) (by rw [hcs, hc, show nI s * 24 = nI (s * 24) from pk_mul s 24, nI_add]) ⟨hin, ?_⟩⟩⟩
  refine nm_r (by rw [hcl]) ⟨hin, nm_r (by rw [hcl]) ⟨hin, nm_r (by rw [hcl]) ⟨hins, hins, nm_r (e' := upd bc s (nI (m + 1))) (by rw [hcs, hc, nI_1]) hp⟩⟩⟩
end
end
section
/-! the relation; the methods that keep and show the sections -/
def i_Rel (_ : Nat) (u : SX) (v : SY) : Prop :=
  ∃ (rl vw vl rm h0 h1 : Nat) (c : Nat → Nat) (K L R : Nat → Nat → Nat) (ac ak al ar lk im le gr : Nat → Int32) (yt : Int32) (bc bk bx bw bf bg : Nat → Int32),
    u = (nI rl, nI vw, nI vl, nI rm, nI h0, nI h1, ac, ak, al, ar, lk, im, le, gr) ∧ v = (nI rl, nI vw, nI vl, nI rm, nI h0, nI h1, yt, bc, bk, bx, bw, bf, bg) ∧ qa_W rl vw vl rm h0 h1 c K L R ∧ qa_A 8 c K L R ac ak al ar ∧ qa_A 24 c K L R bc bk bx bw
theorem i_up {k : Nat} {u : SX} {v : SY} (h : i_Rel k u v) : i_Rel (k + 5) u v := h
section
variable {rl vw vl rm h0 h1 : Nat} {c : Nat → Nat} {K L R : Nat → Nat → Nat} {ac ak al ar lk im le gr : Nat → Int32} {yt : Int32} {bc bk bx bw bf bg : Nat → Int32}
theorem qi_mk {k : Nat} (W : qa_W rl vw vl rm h0 h1 c K L R) (A : qa_A 8 c K L R ac ak al ar) (B : qa_A 24 c K L R bc bk bx bw) : i_Rel k (nI rl, nI vw, nI vl, nI rm, nI h0, nI h1, ac, ak, al, ar, lk, im, le, gr) (nI rl, nI vw, nI vl, nI rm, nI h0, nI h1, yt, bc, bk, bx, bw, bf, bg) :=
  ⟨rl, vw, vl, rm, h0, h1, c, K, L, R, ac, ak, al, ar, lk, im, le, gr, yt, bc, bk, bx, bw, bf, bg, rfl, rfl, W, A, B⟩
theorem qa_kd_le (hr : rl ≤ 3) (hv : vw ≤ 3) {s : Nat} : qa_kd rl vw s ≤ 3 := by unfold qa_kd; split <;> omega
theorem qa_W_b (W : qa_W rl vw vl rm h0 h1 c K L R) {s : Nat} (hs : s < 6) : ∀ j, j < c s → K s j < 3 ∧ L s j < 5 ∧ R s j < 5 := by
  intro j hj
  obtain ⟨a, b, d⟩ := (W.2.2.2.2.2.2 s hs).2 j hj
  have e1 := qa_kd_le (s := s) W.1.2 W.2.1.2
  have e2 := qa_tm_le (s := s) W.2.2.1.2
  omega
theorem qa_W_100 (W : qa_W rl vw vl rm h0 h1 c K L R) {s : Nat} (hs : s < 6) : ∀ j, j < c s → K s j < 100 ∧ L s j < 100 ∧ R s j < 100 := by
  intro j hj
  have := qa_W_b W hs j hj
  omega
theorem qa_W_1000 (W : qa_W rl vw vl rm h0 h1 c K L R) {s : Nat} (hs : s < 6) : ∀ j, j < c s → K s j < 1000 ∧ L s j < 1000 ∧ R s j < 1000 := by
  intro j hj
  have := qa_W_b W hs j hj
  omega
theorem qx_triT {post : Int32 → Prop} {s k x y : Nat} (W : qa_W rl vw vl rm h0 h1 c K L R) (hs : s < 3 + vw) (hk : k < qa_kd rl vw s) (hx : x < qa_tm vl s) (hy : y < qa_tm vl s) (hp : post 1) : wpX_isTriple post (nI rl, nI vw, nI vl, nI rm, nI h0, nI h1, ac, ak, al, ar, lk, im, le, gr) (nI s) (nI k) (nI x) (nI y) :=
  qx_isTriple W.1.2 W.2.1.2 W.2.2.1.2 (fun _ _ _ _ _ _ _ _ _ _ _ _ => hp) (fun z => absurd ⟨s, k, x, y, rfl, rfl, rfl, rfl, hs, hk, hx, hy⟩ z)
theorem qx_triF {post : Int32 → Prop} {s k x y : Int32} (W : qa_W rl vw vl rm h0 h1 c K L R) (hT : ¬ qa_T rl vw vl s k x y) (hp : post 0) : wpX_isTriple post (nI rl, nI vw, nI vl, nI rm, nI h0, nI h1, ac, ak, al, ar, lk, im, le, gr) s k x y :=
  qx_isTriple W.1.2 W.2.1.2 W.2.2.1.2 (fun s' k' x' y' e1 e2 e3 e4 b1 b2 b3 b4 => absurd ⟨s', k', x', y', e1, e2, e3, e4, b1, b2, b3, b4⟩ hT) (fun _ => hp)
theorem qy_badT {post : Int32 → Prop} {s k x y : Nat} (W : qa_W rl vw vl rm h0 h1 c K L R) (hs : s < 3 + vw) (hk : k < qa_kd rl vw s) (hx : x < qa_tm vl s) (hy : y < qa_tm vl s) (hp : post 0) : wpY_bad post (nI rl, nI vw, nI vl, nI rm, nI h0, nI h1, yt, bc, bk, bx, bw, bf, bg) (nI s) (nI k) (nI x) (nI y) :=
  qy_bad W.1.2 W.2.1.2 W.2.2.1.2 (fun _ _ _ _ _ _ _ _ _ _ _ _ => hp) (fun z => absurd ⟨s, k, x, y, rfl, rfl, rfl, rfl, hs, hk, hx, hy⟩ z)
theorem qy_badF {post : Int32 → Prop} {s k x y : Int32} (W : qa_W rl vw vl rm h0 h1 c K L R) (hT : ¬ qa_T rl vw vl s k x y) (hp : post 1) : wpY_bad post (nI rl, nI vw, nI vl, nI rm, nI h0, nI h1, yt, bc, bk, bx, bw, bf, bg) s k x y :=
  qy_bad W.1.2 W.2.1.2 W.2.2.1.2 (fun s' k' x' y' e1 e2 e3 e4 b1 b2 b3 b4 => absurd ⟨s', k', x', y', e1, e2, e3, e4, b1, b2, b3, b4⟩ hT) (fun _ => hp)
theorem qx_put {post : Int32 → SX → Prop} {s k x y : Nat} (W : qa_W rl vw vl rm h0 h1 c K L R) (A : qa_A 8 c K L R ac ak al ar) (hs : s < 3 + vw) (hk : k < qa_kd rl vw s) (hx : x < qa_tm vl s) (hy : y < qa_tm vl s)
    (p0 : ∀ i, qa_fd (K s) (L s) (R s) k x y (c s) 0 = some i → post 0 (nI rl, nI vw, nI vl, nI rm, nI h0, nI h1, ac, ak, al, ar, lk, im, le, gr)) (p2 : qa_fd (K s) (L s) (R s) k x y (c s) 0 = none → qa_lm rm s ≤ c s → post (-2) (nI rl, nI vw, nI vl, nI rm, nI h0, nI h1, ac, ak, al, ar, lk, im, le, gr))
    (p1 : qa_fd (K s) (L s) (R s) k x y (c s) 0 = none → c s < qa_lm rm s → post 1 (nI rl, nI vw, nI vl, nI rm, nI h0, nI h1, upd ac s (nI (c s + 1)), upd ak (s * 8 + c s) (nI k), upd al (s * 8 + c s) (nI x), upd ar (s * 8 + c s) (nI y), lk, im, le, gr)) :
    wpX_put post (nI rl, nI vw, nI vl, nI rm, nI h0, nI h1, ac, ak, al, ar, lk, im, le, gr) (nI s) (nI k) (nI x) (nI y) := by
  have hv := W.2.1.2
  have hs6 : s < 6 := by omega
  have h8 := qa_W_c W hs6
  have hl8 := qa_lm_le (s := s) W.2.2.2.1.2
  have hk3 := qa_kd_le (s := s) W.1.2 W.2.1.2
  have ht5 := qa_tm_le (s := s) W.2.2.1.2
  have hins : vp_in (nI s) 6 := vp_in_nI (by omega) (by omega)
  have hcs : (nI s).toNatClampNeg = s := nI_clamp (by omega)
  unfold wpX_put
  refine qx_triT W hs hk hx hy (br_f qn_10 ?_)
  refine qx_place A hs6 h8 (qa_W_100 W hs6) (by omega) (by omega) (by omega) (fun i hi => br_f (qn_m1 ?_) (p0 i hi)) (fun hn => br_t rfl ⟨hins, ?_⟩)
  · have := (qa_fd_some _ _ _ hi).2.1
    omega
  · refine qx_limit hs6 (pk_lt (c s) (qa_lm rm s) (fun h => ?_) (fun h => p2 hn h) (by rw [hcs]; exact (A s hs6).1))
    have hin : vp_in (nI (s * 8 + c s)) 48 := vp_in_nI (by omega) (by omega)
    have hcl : (nI (s * 8 + c s)).toNatClampNeg = s * 8 + c s := nI_clamp (by omega)
    refine ⟨hins, nm_r (e' := nI (s * 8 + c s)) (by rw [hcs, (A s hs6).1, show nI s * 8 = nI (s * 8) from pk_mul s 8, nI_add]) ⟨hin, nm_r (by rw [hcl]) ⟨hin, nm_r (by rw [hcl]) ⟨hin, nm_r (by rw [hcl]) ⟨hins, hins, nm_r (e' := upd ac s (nI (c s + 1))) (by rw [hcs, (A s hs6).1, nI_1]) (p1 hn h)⟩⟩⟩⟩⟩
theorem qy_put50 {post : Int32 → SY → Prop} {s k x y n : Nat} (hs : s < 6) (h8 : c s ≤ 8) (hn : n ≤ 8) (B : qa_A 24 c K L R bc bk bx bw)
    (p2 : n ≤ c s → post (-2) (nI rl, nI vw, nI vl, nI rm, nI h0, nI h1, yt, bc, bk, bx, bw, bf, bg)) (p1 : c s < n → post 1 (nI rl, nI vw, nI vl, nI rm, nI h0, nI h1, yt, upd bc s (nI (c s + 1)), upd bk (s * 24 + c s) (nI k), upd bx (s * 24 + c s) (nI x), upd bw (s * 24 + c s) (nI y), bf, bg)) :
    wY_put_50 post (nI s) (nI k) (nI x) (nI y) (nI n) (nI rl) (nI vw) (nI vl) (nI rm) (nI h0) (nI h1) yt bc bk bx bw bf bg := by
  have hcs : (nI s).toNatClampNeg = s := nI_clamp (by omega)
  refine ⟨vp_in_nI (by omega) (by omega), pk_lt (c s) n (fun h => ?_) p2 (by rw [hcs]; exact (B s hs).1)⟩
  exact qy_add (m := c s) (by omega) (by omega) (B s hs).1 (p1 h)
theorem qy_put {post : Int32 → SY → Prop} {s k x y : Nat} (W : qa_W rl vw vl rm h0 h1 c K L R) (B : qa_A 24 c K L R bc bk bx bw) (hs : s < 3 + vw) (hk : k < qa_kd rl vw s) (hx : x < qa_tm vl s) (hy : y < qa_tm vl s)
    (p0 : ∀ i, qa_fd (K s) (L s) (R s) k x y (c s) 0 = some i → post 0 (nI rl, nI vw, nI vl, nI rm, nI h0, nI h1, yt, bc, bk, bx, bw, bf, bg)) (p2 : qa_fd (K s) (L s) (R s) k x y (c s) 0 = none → qa_lm rm s ≤ c s → post (-2) (nI rl, nI vw, nI vl, nI rm, nI h0, nI h1, yt, bc, bk, bx, bw, bf, bg))
    (p1 : qa_fd (K s) (L s) (R s) k x y (c s) 0 = none → c s < qa_lm rm s → post 1 (nI rl, nI vw, nI vl, nI rm, nI h0, nI h1, yt, upd bc s (nI (c s + 1)), upd bk (s * 24 + c s) (nI k), upd bx (s * 24 + c s) (nI x), upd bw (s * 24 + c s) (nI y), bf, bg)) :
    wpY_put post (nI rl, nI vw, nI vl, nI rm, nI h0, nI h1, yt, bc, bk, bx, bw, bf, bg) (nI s) (nI k) (nI x) (nI y) := by
  have hv := W.2.1.2
  have hs6 : s < 6 := by omega
  have h8 := qa_W_c W hs6
  have hl8 := qa_lm_le (s := s) W.2.2.2.1.2
  have hk3 := qa_kd_le (s := s) W.1.2 W.2.1.2
  have ht5 := qa_tm_le (s := s) W.2.2.1.2
  unfold wpY_put
  refine qy_badT W hs hk hx hy (br_t rfl ?_)
  refine qy_find (by omega) (by omega) (B s hs6).1 (B s hs6).2 (qa_W_1000 W hs6) (by omega) (by omega) (by omega) (fun i hi => br_f (nI_pos ?_) (p0 i hi)) (fun hn => br_t (by decide) ?_)
  · have := (qa_fd_some _ _ _ hi).2.1
    omega
  · have H := fun (n : Nat) (e : qa_lm rm s = n) => qy_put50 (post := post) (rl := rl) (vw := vw) (vl := vl) (rm := rm) (h0 := h0) (h1 := h1) (yt := yt) (bf := bf) (bg := bg) (k := k) (x := x) (y := y) (n := n) hs6 h8 (by omega) B (by rw [← e]; exact p2 hn) (by rw [← e]; exact p1 hn)
    refine pk_eq s 2 (fun e => ?_) (fun e => pk_lt s 3 (fun h => ?_) (fun h => ?_))
    · exact H rm (by rw [e]; rfl)
    · exact H 4 (by rw [qa_lm, if_neg e, if_neg (by omega)])
    · exact H 3 (qa_lm_3 h)
theorem qx_drop {post : Int32 → SX → Prop} {s k x y : Nat} (W : qa_W rl vw vl rm h0 h1 c K L R) (A : qa_A 8 c K L R ac ak al ar) (hs : s < 3 + vw) (hk : k < qa_kd rl vw s) (hx : x < qa_tm vl s) (hy : y < qa_tm vl s)
    (p0 : qa_fd (K s) (L s) (R s) k x y (c s) 0 = none → post 0 (nI rl, nI vw, nI vl, nI rm, nI h0, nI h1, ac, ak, al, ar, lk, im, le, gr))
    (p1 : ∀ i, qa_fd (K s) (L s) (R s) k x y (c s) 0 = some i → i < c s → post 1 (nI rl, nI vw, nI vl, nI rm, nI h0, nI h1, upd ac s (nI (c s - 1)), upd ak (s * 8 + i) (nI (K s (c s - 1))), upd al (s * 8 + i) (nI (L s (c s - 1))), upd ar (s * 8 + i) (nI (R s (c s - 1))), lk, im, le, gr)) :
    wpX_drop post (nI rl, nI vw, nI vl, nI rm, nI h0, nI h1, ac, ak, al, ar, lk, im, le, gr) (nI s) (nI k) (nI x) (nI y) := by
  have hv := W.2.1.2
  have hs6 : s < 6 := by omega
  have h8 := qa_W_c W hs6
  have hk3 := qa_kd_le (s := s) W.1.2 W.2.1.2
  have ht5 := qa_tm_le (s := s) W.2.2.1.2
  have hins : vp_in (nI s) 6 := vp_in_nI (by omega) (by omega)
  have hcs : (nI s).toNatClampNeg = s := nI_clamp (by omega)
  unfold wpX_drop
  refine qx_triT W hs hk hx hy (br_f qn_10 ?_)
  refine qx_place A hs6 h8 (qa_W_100 W hs6) (by omega) (by omega) (by omega) (fun i hi => ?_) (fun hn => br_t rfl (p0 hn))
  have hic := (qa_fd_some _ _ _ hi).2.1
  obtain ⟨e1, e2, e3⟩ := (A s hs6).2 (c s - 1) (by omega)
  have hin : vp_in (nI (s * 8 + (c s - 1))) 48 := vp_in_nI (by omega) (by omega)
  have hcl : (nI (s * 8 + (c s - 1))).toNatClampNeg = s * 8 + (c s - 1) := nI_clamp (by omega)
  have hi8 : vp_in (nI (s * 8 + i)) 48 := vp_in_nI (by omega) (by omega)
  have hci : (nI (s * 8 + i)).toNatClampNeg = s * 8 + i := nI_clamp (by omega)
  refine br_f (qn_m1 (by omega)) ⟨hins, hins, nm_r (e' := upd ac s (nI (c s - 1))) (by rw [hcs, (A s hs6).1, show (1 : Int32) = nI 1 from rfl, pk_sub (by omega)]) ⟨hins, nm_r (e' := nI (s * 8 + (c s - 1))) (by rw [hcs, pk_us, show nI s * 8 = nI (s * 8) from pk_mul s 8, nI_add]) ⟨hin, hi8, ?_⟩⟩⟩
  refine nm_r (e' := upd ak (s * 8 + i) (nI (K s (c s - 1)))) (by rw [hcl, hci, e1]) ⟨hin, hi8, nm_r (e' := upd al (s * 8 + i) (nI (L s (c s - 1)))) (by rw [hcl, hci, e2]) ⟨hin, hi8, nm_r (e' := upd ar (s * 8 + i) (nI (R s (c s - 1)))) (by rw [hcl, hci, e3]) (p1 i hi (by omega))⟩⟩
theorem qy_drop {post : Int32 → SY → Prop} {s k x y : Nat} (W : qa_W rl vw vl rm h0 h1 c K L R) (B : qa_A 24 c K L R bc bk bx bw) (hs : s < 3 + vw) (hk : k < qa_kd rl vw s) (hx : x < qa_tm vl s) (hy : y < qa_tm vl s)
    (p0 : qa_fd (K s) (L s) (R s) k x y (c s) 0 = none → post 0 (nI rl, nI vw, nI vl, nI rm, nI h0, nI h1, yt, bc, bk, bx, bw, bf, bg))
    (p1 : ∀ i, qa_fd (K s) (L s) (R s) k x y (c s) 0 = some i → i < c s → post 1 (nI rl, nI vw, nI vl, nI rm, nI h0, nI h1, yt, upd bc s (nI (c s - 1)), upd bk (s * 24 + i) (nI (K s (c s - 1))), upd bx (s * 24 + i) (nI (L s (c s - 1))), upd bw (s * 24 + i) (nI (R s (c s - 1))), bf, bg)) :
    wpY_drop post (nI rl, nI vw, nI vl, nI rm, nI h0, nI h1, yt, bc, bk, bx, bw, bf, bg) (nI s) (nI k) (nI x) (nI y) := by
  have hv := W.2.1.2
  have hs6 : s < 6 := by omega
  have h8 := qa_W_c W hs6
  have hk3 := qa_kd_le (s := s) W.1.2 W.2.1.2
  have ht5 := qa_tm_le (s := s) W.2.2.1.2
  have hins : vp_in (nI s) 7 := vp_in_nI (by omega) (by omega)
  have hcs : (nI s).toNatClampNeg = s := nI_clamp (by omega)
  unfold wpY_drop
  refine qy_badT W hs hk hx hy (br_t rfl ?_)
  refine qy_find (by omega) (by omega) (B s hs6).1 (B s hs6).2 (qa_W_1000 W hs6) (by omega) (by omega) (by omega) (fun i hi => ?_) (fun hn => br_f (by decide) (p0 hn))
  have hic := (qa_fd_some _ _ _ hi).2.1
  obtain ⟨e1, e2, e3⟩ := (B s hs6).2 (c s - 1) (by omega)
  have hin : vp_in (nI (s * 24 + (c s - 1))) 168 := vp_in_nI (by omega) (by omega)
  have hcl : (nI (s * 24 + (c s - 1))).toNatClampNeg = s * 24 + (c s - 1) := nI_clamp (by omega)
  have hi8 : vp_in (nI (s * 24 + i)) 168 := vp_in_nI (by omega) (by omega)
  have hci : (nI (s * 24 + i)).toNatClampNeg = s * 24 + i := nI_clamp (by omega)
  refine br_t (nI_pos' (by omega)) ⟨hins, hins, nm_r (e' := upd bc s (nI (c s - 1))) (by rw [hcs, (B s hs6).1, show (1 : Int32) = nI 1 from rfl, pk_sub (by omega)]) ⟨hins, nm_r (e' := nI (s * 24 + (c s - 1))) (by rw [hcs, pk_us, show nI s * 24 = nI (s * 24) from pk_mul s 24, nI_add]) ⟨hin, hi8, ?_⟩⟩⟩
  refine nm_r (e' := upd bk (s * 24 + i) (nI (K s (c s - 1)))) (by rw [hcl, hci, e1]) ⟨hin, hi8, nm_r (e' := upd bx (s * 24 + i) (nI (L s (c s - 1)))) (by rw [hcl, hci, e2]) ⟨hin, hi8, nm_r (e' := upd bw (s * 24 + i) (nI (R s (c s - 1)))) (by rw [hcl, hci, e3]) (p1 i hi (by omega))⟩⟩
end
theorem i_vc_put {k : Nat} {u : SX} {v : SY} (I : i_Rel k u v) (hk : k + 5 ≤ 2564) (v1 : Int32) (v2 : Int32) (v3 : Int32) (v4 : Int32) : wpX_put (fun r u' => wpY_put (fun r' v' => r' = r ∧ i_Rel (k + 5) u' v') v v1 v2 v3 v4) u v1 v2 v3 v4 := by
  obtain ⟨rl, vw, vl, rm, h0, h1, c, K, L, R, ac, ak, al, ar, lk, im, le, gr, yt, bc, bk, bx, bw, bf, bg, rfl, rfl, W, A, B⟩ := I
  by_cases hT : qa_T rl vw vl v1 v2 v3 v4
  · obtain ⟨s, k', x, y, rfl, rfl, rfl, rfl, hs, hk', hx, hy⟩ := hT
    have hv := W.2.1.2
    have hc8 : ∀ s, s < 6 → c s ≤ 8 := fun s hs => qa_W_c W hs
    have hl8 := qa_lm_le (s := s) W.2.2.2.1.2
    refine qx_put W A hs hk' hx hy (fun i hi => ?_) (fun hn hf => ?_) (fun hn hf => ?_)
    · exact qy_put W B hs hk' hx hy (fun _ _ => ⟨rfl, qi_mk W A B⟩) (fun z => absurd (hi.symm.trans z) (by simp)) (fun z => absurd (hi.symm.trans z) (by simp))
    · exact qy_put W B hs hk' hx hy (fun _ z => absurd (hn.symm.trans z) (by simp)) (fun _ _ => ⟨rfl, qi_mk W A B⟩) (fun _ z => absurd hf (by omega))
    · refine qy_put W B hs hk' hx hy (fun _ z => absurd (hn.symm.trans z) (by simp)) (fun _ z => absurd hf (by omega)) (fun _ _ => ⟨rfl, ?_⟩)
      exact qi_mk (qa_W_set (i := c s) (by omega) (Or.inr ⟨rfl, rfl⟩) hk' hx hy W) (qa_A_set (Or.inl rfl) hc8 (by omega) (by omega) (Or.inr ⟨rfl, rfl⟩) A) (qa_A_set (Or.inr rfl) hc8 (by omega) (by omega) (Or.inr ⟨rfl, rfl⟩) B)
  · unfold wpX_put
    refine qx_triF W hT (br_t rfl ?_)
    unfold wpY_put
    exact qy_badF W hT (br_f qn_10 ⟨rfl, qi_mk W A B⟩)
theorem i_vc_drop {k : Nat} {u : SX} {v : SY} (I : i_Rel k u v) (hk : k + 5 ≤ 2564) (v1 : Int32) (v2 : Int32) (v3 : Int32) (v4 : Int32) : wpX_drop (fun r u' => wpY_drop (fun r' v' => r' = r ∧ i_Rel (k + 5) u' v') v v1 v2 v3 v4) u v1 v2 v3 v4 := by
  obtain ⟨rl, vw, vl, rm, h0, h1, c, K, L, R, ac, ak, al, ar, lk, im, le, gr, yt, bc, bk, bx, bw, bf, bg, rfl, rfl, W, A, B⟩ := I
  by_cases hT : qa_T rl vw vl v1 v2 v3 v4
  · obtain ⟨s, k', x, y, rfl, rfl, rfl, rfl, hs, hk', hx, hy⟩ := hT
    have hv := W.2.1.2
    have hs6 : s < 6 := by omega
    have hc8 : ∀ s, s < 6 → c s ≤ 8 := fun s hs => qa_W_c W hs
    have h8 := hc8 s hs6
    refine qx_drop W A hs hk' hx hy (fun hn => ?_) (fun i hi hic => ?_)
    · exact qy_drop W B hs hk' hx hy (fun _ => ⟨rfl, qi_mk W A B⟩) (fun _ z => absurd (hn.symm.trans z) (by simp))
    · refine qy_drop W B hs hk' hx hy (fun z => absurd (hi.symm.trans z) (by simp)) (fun i' hi' _ => ⟨rfl, ?_⟩)
      have ei : i = i' := Option.some.inj (hi.symm.trans hi')
      subst ei
      obtain ⟨z1, z2⟩ := W.2.2.2.2.2.2 s hs6
      obtain ⟨q1, q2, q3⟩ := z2 (c s - 1) (by omega)
      exact qi_mk (qa_W_set (i := i) (by omega) (Or.inl (by omega)) q1 q2 q3 W) (qa_A_set (Or.inl rfl) hc8 (by omega) (by omega) (Or.inl (by omega)) A) (qa_A_set (Or.inr rfl) hc8 (by omega) (by omega) (Or.inl (by omega)) B)
  · unfold wpX_drop
    refine qx_triF W hT (br_t rfl ?_)
    unfold wpY_drop
    exact qy_badF W hT (br_f qn_10 ⟨rfl, qi_mk W A B⟩)
theorem i_vc_has {k : Nat} {u : SX} {v : SY} (I : i_Rel k u v) (hk : k + 5 ≤ 2564) (v1 : Int32) (v2 : Int32) (v3 : Int32) (v4 : Int32) : wpX_has (fun r => wpY_has (fun r' => r' = r ∧ i_Rel (k + 5) u v) v v1 v2 v3 v4) u v1 v2 v3 v4 := by
  obtain ⟨rl, vw, vl, rm, h0, h1, c, K, L, R, ac, ak, al, ar, lk, im, le, gr, yt, bc, bk, bx, bw, bf, bg, rfl, rfl, W, A, B⟩ := I
  by_cases hT : qa_T rl vw vl v1 v2 v3 v4
  · obtain ⟨s, k', x, y, rfl, rfl, rfl, rfl, hs, hk', hx, hy⟩ := hT
    have hv := W.2.1.2
    have hs6 : s < 6 := by omega
    have h8 := qa_W_c W hs6
    have hk3 := qa_kd_le (s := s) W.1.2 W.2.1.2
    have ht5 := qa_tm_le (s := s) W.2.2.1.2
    unfold wpX_has
    refine qx_triT W hs hk' hx hy (br_f qn_10 ?_)
    refine qx_place A hs6 h8 (qa_W_100 W hs6) (by omega) (by omega) (by omega) (fun i hi => br_f (qn_m1 ?_) ?_) (fun hn => br_t rfl ?_)
    · have := (qa_fd_some _ _ _ hi).2.1
      omega
    · unfold wpY_has
      refine qy_badT W hs hk' hx hy (br_t rfl ?_)
      refine qy_find (by omega) (by omega) (B s hs6).1 (B s hs6).2 (qa_W_1000 W hs6) (by omega) (by omega) (by omega) (fun i' hi' => br_f (nI_pos ?_) ⟨rfl, qi_mk W A B⟩) (fun hn => absurd (hi.symm.trans hn) (by simp))
      have := (qa_fd_some _ _ _ hi').2.1
      omega
    · unfold wpY_has
      refine qy_badT W hs hk' hx hy (br_t rfl ?_)
      exact qy_find (by omega) (by omega) (B s hs6).1 (B s hs6).2 (qa_W_1000 W hs6) (by omega) (by omega) (by omega) (fun i' hi' => absurd (hn.symm.trans hi') (by simp)) (fun hn => br_t (by decide) ⟨rfl, qi_mk W A B⟩)
  · unfold wpX_has
    refine qx_triF W hT (br_t rfl ?_)
    unfold wpY_has
    exact qy_badF W hT (br_f qn_10 ⟨rfl, qi_mk W A B⟩)
theorem i_vc_size {k : Nat} {u : SX} {v : SY} (I : i_Rel k u v) (hk : k + 5 ≤ 2564) (v1 : Int32) : wpX_size (fun r => wpY_size (fun r' => r' = r ∧ i_Rel (k + 5) u v) v v1) u v1 := by
  obtain ⟨rl, vw, vl, rm, h0, h1, c, K, L, R, ac, ak, al, ar, lk, im, le, gr, yt, bc, bk, bx, bw, bf, bg, rfl, rfl, W, A, B⟩ := I
  have hv := W.2.1.2
  unfold wpX_size
  refine qx_section hv (fun j hj ej => br_f qn_10 ?_) (fun z => br_t rfl ?_)
  · subst ej
    have hcs : (nI j).toNatClampNeg = j := nI_clamp (by omega)
    refine ⟨vp_in_nI (by omega) (by omega), br_f (nI_pos (by omega)) (br_t (by rw [qn_2]; exact nI_le (by omega) (by omega)) ⟨vp_in_nI (by omega) (by omega), ?_, qi_mk W A B⟩)⟩
    rw [hcs, (A j (by omega)).1, (B j (by omega)).1]
  · rcases qa_in_or v1 (n := 3 + vw) (by omega) with q | ⟨-, h | ⟨h, h'⟩⟩
    · exact absurd q z
    · exact br_t h ⟨rfl, qi_mk W A B⟩
    · refine br_f h (br_f ?_ ⟨rfl, qi_mk W A B⟩)
      obtain ⟨j, hj, rfl⟩ := nI_of h
      rw [nI_leI (by omega) hj] at h'
      rw [qn_2]
      exact nI_ge (by omega) hj
theorem i_vc_clear {k : Nat} {u : SX} {v : SY} (I : i_Rel k u v) (hk : k + 5 ≤ 2564) (v1 : Int32) : wpX_clear (fun r u' => wpY_clear (fun r' v' => r' = r ∧ i_Rel (k + 5) u' v') v v1) u v1 := by
  obtain ⟨rl, vw, vl, rm, h0, h1, c, K, L, R, ac, ak, al, ar, lk, im, le, gr, yt, bc, bk, bx, bw, bf, bg, rfl, rfl, W, A, B⟩ := I
  have hv := W.2.1.2
  unfold wpX_clear
  refine qx_section hv (fun j hj ej => br_f qn_10 ?_) (fun z => br_t rfl ?_)
  · subst ej
    have hcs : (nI j).toNatClampNeg = j := nI_clamp (by omega)
    have A' : qa_A 8 (qa_set c j 0) K L R (upd ac j 0) ak al ar := qa_A_cut (Nat.zero_le _) A
    have B' : qa_A 24 (qa_set c j 0) K L R (upd bc j 0) bk bx bw := qa_A_cut (Nat.zero_le _) B
    have W' : qa_W rl vw vl rm h0 h1 (qa_set c j 0) K L R := qa_W_cut (Nat.zero_le _) W
    have ea := (A j (by omega)).1
    have eb := (B j (by omega)).1
    refine ⟨vp_in_nI (by omega) (by omega), nm_r (by rw [hcs, ea]) ⟨vp_in_nI (by omega) (by omega), nm_r (e' := upd ac j 0) (by rw [hcs]) ?_⟩⟩
    have ple : nI j ≤ 2 + nI vw := by rw [qn_2]; exact nI_le (by omega) (by omega)
    refine pk_eq j 1 (fun e => ?_) (fun e => ?_)
    · refine br_f (nI_pos (by omega)) (br_t ple ⟨vp_in_nI (by omega) (by omega), nm_r (by rw [hcs, eb]) ⟨vp_in_nI (by omega) (by omega), nm_r (e' := upd bc j 0) (by rw [hcs]) ?_⟩⟩)
      refine br_t (by rw [e]; rfl) ⟨rfl, ?_⟩
      exact qi_mk (h0 := 0) (h1 := 1) (qa_W_head (by decide) (by decide) W') A' B'
    · refine br_f (nI_pos (by omega)) (br_t ple ⟨vp_in_nI (by omega) (by omega), nm_r (by rw [hcs, eb]) ⟨vp_in_nI (by omega) (by omega), nm_r (e' := upd bc j 0) (by rw [hcs]) ?_⟩⟩)
      exact pk_eq j 1 (fun e' => absurd e' e) (fun _ => ⟨rfl, qi_mk W' A' B'⟩)
  · rcases qa_in_or v1 (n := 3 + vw) (by omega) with q | ⟨-, h | ⟨h, h'⟩⟩
    · exact absurd q z
    · exact br_t h ⟨rfl, qi_mk W A B⟩
    · refine br_f h (br_f ?_ ⟨rfl, qi_mk W A B⟩)
      obtain ⟨j, hj, rfl⟩ := nI_of h
      rw [nI_leI (by omega) hj] at h'
      rw [qn_2]
      exact nI_ge (by omega) hj
theorem i_vc_head {k : Nat} {u : SX} {v : SY} (I : i_Rel k u v) (hk : k + 5 ≤ 2564) (v1 : Int32) (v2 : Int32) : wpX_head (fun r u' => wpY_head (fun r' v' => r' = r ∧ i_Rel (k + 5) u' v') v v1 v2) u v1 v2 := by
  obtain ⟨rl, vw, vl, rm, h0, h1, c, K, L, R, ac, ak, al, ar, lk, im, le, gr, yt, bc, bk, bx, bw, bf, bg, rfl, rfl, W, A, B⟩ := I
  have n5 : ∀ {x : Int32}, ¬ x < 0 → nI 5 ≤ x → ∃ j : Nat, j < 2 ^ 31 ∧ 5 ≤ j ∧ x = nI j := by
    intro x h h'
    obtain ⟨j, hj, rfl⟩ := nI_of h
    rw [nI_leI (by omega) hj] at h'
    exact ⟨j, hj, h', rfl⟩
  unfold wpX_head
  refine qx_below (n := 5) (by decide) (fun x hx ex => br_f qn_10 ?_) (fun z => br_t rfl ?_)
  · subst ex
    refine qx_below (n := 5) (by decide) (fun y hy ey => br_f qn_10 ?_) (fun z => br_t rfl ?_)
    · subst ey
      exact br_f (nI_pos (by omega)) (br_f (nI_nlt (b := x) (a := 4) (by omega) (by decide)) (br_f (nI_pos (by omega)) (br_t (nI_le (b := 4) (by omega) (by decide)) ⟨rfl, qi_mk (qa_W_head hx hy W) A B⟩)))
    · refine br_f (nI_pos (by omega)) (br_f (nI_nlt (b := x) (a := 4) (by omega) (by decide)) ?_)
      rcases qa_in_or v2 (n := 5) (by decide) with q | ⟨-, h | ⟨h, h'⟩⟩
      · exact absurd q z
      · exact br_t h ⟨rfl, qi_mk W A B⟩
      · obtain ⟨j, hj, h5, rfl⟩ := n5 h h'
        exact br_f h (br_f (nI_ge (a := 4) (by omega) hj) ⟨rfl, qi_mk W A B⟩)
  · rcases qa_in_or v1 (n := 5) (by decide) with q | ⟨-, h | ⟨h, h'⟩⟩
    · exact absurd q z
    · exact br_t h ⟨rfl, qi_mk W A B⟩
    · obtain ⟨j, hj, h5, rfl⟩ := n5 h h'
      exact br_f h (br_t (nI_lt (a := 4) (by omega) hj) ⟨rfl, qi_mk W A B⟩)
theorem i_vc_headAt {k : Nat} {u : SX} {v : SY} (I : i_Rel k u v) (hk : k + 5 ≤ 2564) (v1 : Int32) : wpX_headAt (fun r => wpY_headAt (fun r' => r' = r ∧ i_Rel (k + 5) u v) v v1) u v1 := by
  obtain ⟨rl, vw, vl, rm, h0, h1, c, K, L, R, ac, ak, al, ar, lk, im, le, gr, yt, bc, bk, bx, bw, bf, bg, rfl, rfl, W, A, B⟩ := I
  by_cases e0 : v1 = 0
  · exact br_t e0 (br_t e0 ⟨rfl, qi_mk W A B⟩)
  · by_cases e1 : v1 = 1
    · exact br_f e0 (br_t e1 (br_f e0 (br_t e1 ⟨rfl, qi_mk W A B⟩)))
    · exact br_f e0 (br_f e1 (br_f e0 (br_f e1 ⟨rfl, qi_mk W A B⟩)))
theorem qi_cl (x : Int32) (n : Nat) (hn : 1 ≤ n) (hn2 : n < 2 ^ 31) : ∃ r : Nat, (1 ≤ r ∧ r ≤ n) ∧ (∀ post : Int32 → Prop, post (nI r) → wpX_clamp post x (nI n)) ∧ (∀ (v : SY) (post : Int32 → Prop), post (nI r) → wpY_clamp post v x (nI n)) := by
  by_cases h : (1 : Int32) ≤ x
  · have h0 : ¬ x < 0 := fun z => absurd (Int32.lt_of_le_of_lt h z) (by decide)
    obtain ⟨j, hj, rfl⟩ := nI_of h0
    have h1 : 1 ≤ j := (nI_leI (a := 1) (by decide) hj).mp h
    by_cases h2 : j ≤ n
    · exact ⟨j, ⟨h1, h2⟩, fun post hp => br_t h (br_t (nI_le h2 hn2) hp), fun ⟨_, _, _, _, _, _, _, _, _, _, _, _, _⟩ post hp => br_t h (br_t (nI_le h2 hn2) hp)⟩
    · exact ⟨n, ⟨hn, Nat.le_refl _⟩, fun post hp => br_t h (br_f (nI_ge (by omega) hj) hp), fun ⟨_, _, _, _, _, _, _, _, _, _, _, _, _⟩ post hp => br_t h (br_f (nI_ge (by omega) hj) hp)⟩
  · exact ⟨1, ⟨by omega, hn⟩, fun post hp => br_f h hp, fun ⟨_, _, _, _, _, _, _, _, _, _, _, _, _⟩ post hp => br_f h hp⟩
theorem i_vc0 (k0 : Int32) (k1 : Int32) (k2 : Int32) (k3 : Int32) : wpX_init (fun u => wpY_init (fun v => i_Rel 4 u v) k0 k1 k2 k3) k0 k1 k2 k3 := by
  obtain ⟨rl, b1, x1, y1⟩ := qi_cl k0 3 (by decide) (by decide)
  obtain ⟨vw, b2, x2, y2⟩ := qi_cl k1 3 (by decide) (by decide)
  obtain ⟨vl, b3, x3, y3⟩ := qi_cl k2 4 (by decide) (by decide)
  obtain ⟨rm, b4, x4, y4⟩ := qi_cl k3 8 (by decide) (by decide)
  unfold wpX_init
  refine x1 _ (x2 _ (x3 _ (x4 _ ?_)))
  unfold wpY_init
  refine y1 _ _ (y2 _ _ (y3 _ _ (y4 _ _ ?_)))
  have A : ∀ w, qa_A w (fun _ => 0) (fun _ _ => 0) (fun _ _ => 0) (fun _ _ => 0) (fun _ => 0) (fun _ => 0) (fun _ => 0) (fun _ => 0) := fun w s hs => ⟨rfl, fun j hj => absurd hj (Nat.not_lt_zero j)⟩
  exact qi_mk (h0 := 0) (h1 := 1) (c := fun _ => 0) (K := fun _ _ => 0) (L := fun _ _ => 0) (R := fun _ _ => 0) ⟨b1, b2, b3, b4, by decide, by decide, fun s hs => ⟨Nat.zero_le _, fun j hj => absurd hj (Nat.not_lt_zero j)⟩⟩ (A 8) (A 24)
end
section
/-! the component's links -/
section
variable {rl vw vl rm h0 h1 : Nat} {c : Nat → Nat} {K L R : Nat → Nat → Nat} {fr fv fl fm f0 f1 : Int32} {ac ak al ar lk im le gr : Nat → Int32}
theorem qx_un2 {post : SX → Prop} (hp : ∀ lk', (∀ j, j < 63 → lk' j = 0) → post (fr, fv, fl, fm, f0, f1, ac, ak, al, ar, lk', im, le, gr)) :
    ∀ d i n (lk : Nat → Int32), i + d = 63 → d < n → (∀ j, j < i → lk j = 0) → wX_unlinkAll_2 post fr fv fl fm f0 f1 n (nI i) ac ak al ar lk im le gr := by
  intro d
  induction d with
  | zero =>
    intro i n lk hi hn hz
    obtain ⟨n, rfl⟩ : ∃ m, n = m + 1 := ⟨n - 1, by omega⟩
    exact br_t (nI_le (a := 63) (by omega) (by omega)) (hp lk (fun j hj => hz j (by omega)))
  | succ d ih =>
    intro i n lk hi hn hz
    obtain ⟨n, rfl⟩ : ∃ m, n = m + 1 := ⟨n - 1, by omega⟩
    refine br_f (nI_ge (b := 63) (by omega) (by decide)) ⟨vp_in_nI (by omega) (by omega), nm_r (e' := upd lk i 0) (by rw [nI_clamp (by omega)]) (nm_r (nI_1 i) (ih (i + 1) n _ (by omega) (by omega) (fun j hj => ?_)))⟩
    by_cases e : j = i
    · subst e; exact pk_us
    · rw [pk_un e]; exact hz j (by omega)
theorem qx_unlinkAll {post : SX → Prop} (hp : ∀ lk', (∀ j, j < 63 → lk' j = 0) → post (fr, fv, fl, fm, f0, f1, ac, ak, al, ar, lk', im, le, gr)) : wpX_unlinkAll post (fr, fv, fl, fm, f0, f1, ac, ak, al, ar, lk, im, le, gr) :=
  ⟨64, qx_un2 hp 63 0 64 lk (by omega) (by omega) (fun j hj => absurd hj (Nat.not_lt_zero j))⟩
theorem qx_termFor {post : Int32 → Prop} {x p q o : Nat} (hx : x < 4) (hp : post (nI (qa_tf p q (5 + 2 * o) x))) : wpX_termFor post (nI x) (nI p) (nI q) (nI o) := by
  refine pk_eq x 0 (fun e => ?_) (fun e0 => pk_eq x 1 (fun e => ?_) (fun e1 => ?_))
  · subst e; exact hp
  · subst e; exact hp
  · rw [qa_tf2 (by omega)] at hp
    have e : (5 : Int32) + 2 * nI o + nI x - 2 = nI (5 + 2 * o + (x - 2)) := by
      rw [show (2 : Int32) * nI o = nI (2 * o) from pk_mul 2 o, show (5 : Int32) + nI (2 * o) = nI (5 + 2 * o) from nI_add 5 _, nI_add, show nI (5 + 2 * o + x) - 2 = nI (5 + 2 * o + x - 2) from pk_sub (b := 2) (by omega)]
      exact congrArg nI (by omega)
    rw [e]
    exact hp
theorem qx_link {post : SX → Prop} {k l r : Nat} {F F' : Nat → Nat → Nat → Prop} (hk : k < 3) (hl : l < 21) (hr : r < 21) (H : qa_LK lk F) (hF : ∀ a b d, F' a b d ↔ (F a b d ∨ (a = k ∧ b = l ∧ d = r)))
    (hp : ∀ lk', qa_LK lk' F' → post (fr, fv, fl, fm, f0, f1, ac, ak, al, ar, lk', im, le, gr)) : wpX_link post (fr, fv, fl, fm, f0, f1, ac, ak, al, ar, lk, im, le, gr) (nI k) (nI l) (nI r) := by
  have e : nI k * 21 + nI l = nI (k * 21 + l) := by rw [show nI k * 21 = nI (k * 21) from pk_mul k 21, nI_add]
  have hin : vp_in (nI k * 21 + nI l) 63 := by rw [e]; exact vp_in_nI (by omega) (by omega)
  have hcl : (nI k * 21 + nI l).toNatClampNeg = k * 21 + l := by rw [e]; exact nI_clamp (by omega)
  exact ⟨hin, hin, nm_r (by rw [hcl]) (hp _ (qa_LK_up hk hl hr H hF))⟩
theorem qa_G_s {m : Nat} {K L R : Nat → Nat} {p q b k x y : Nat} : qa_G (m + 1) K L R p q b k x y ↔ (qa_G m K L R p q b k x y ∨ (k = K m ∧ x = qa_tf p q b (L m) ∧ y = qa_tf p q b (R m))) := by
  constructor
  · rintro ⟨j, hj, e1, e2, e3⟩
    by_cases e : j = m
    · subst e; exact Or.inr ⟨e1.symm, e2.symm, e3.symm⟩
    · exact Or.inl ⟨j, by omega, e1, e2, e3⟩
  · rintro (⟨j, hj, e⟩ | ⟨e1, e2, e3⟩)
    · exact ⟨j, by omega, e⟩
    · exact ⟨m, by omega, e1.symm, e2.symm, e3.symm⟩
theorem qa_G_0 {K L R : Nat → Nat} {p q b k x y : Nat} : ¬ qa_G 0 K L R p q b k x y := fun ⟨j, hj, _⟩ => absurd hj (Nat.not_lt_zero j)
theorem qx_lf25 {post : SX → Prop} {v p q o : Nat} {F : Nat → Nat → Nat → Prop} (A : qa_A 8 c K L R ac ak al ar) (hv : v < 3) (hc : c (3 + v) ≤ 8) (hb : ∀ j, j < c (3 + v) → K (3 + v) j < 3 ∧ L (3 + v) j < 4 ∧ R (3 + v) j < 4) (hp : p < 5) (hq : q < 5) (ho : o < 8)
    (pp : ∀ lk', qa_LK lk' (fun k x y => F k x y ∨ qa_G (c (3 + v)) (K (3 + v)) (L (3 + v)) (R (3 + v)) p q (5 + 2 * o) k x y) → post (fr, fv, fl, fm, f0, f1, ac, ak, al, ar, lk', im, le, gr)) :
    ∀ d j n (lk : Nat → Int32), j + d = c (3 + v) → d < n → qa_LK lk (fun k x y => F k x y ∨ qa_G j (K (3 + v)) (L (3 + v)) (R (3 + v)) p q (5 + 2 * o) k x y) →
      wX_linkFacts_25 post (nI p) (nI q) (nI o) (nI ((3 + v) * 8 + c (3 + v))) n (nI ((3 + v) * 8 + j)) fr fv fl fm f0 f1 ac ak al ar lk im le gr := by
  intro d
  induction d with
  | zero =>
    intro j n lk hj hn H
    obtain ⟨n, rfl⟩ : ∃ m, n = m + 1 := ⟨n - 1, by omega⟩
    have e : j = c (3 + v) := by omega
    subst e
    exact br_t (nI_le (by omega) (by omega)) (pp lk H)
  | succ d ih =>
    intro j n lk hj hn H
    obtain ⟨n, rfl⟩ : ∃ m, n = m + 1 := ⟨n - 1, by omega⟩
    obtain ⟨e1, e2, e3⟩ := (A (3 + v) (by omega)).2 j (by omega)
    obtain ⟨b1, b2, b3⟩ := hb j (by omega)
    have hcl : (nI ((3 + v) * 8 + j)).toNatClampNeg = (3 + v) * 8 + j := nI_clamp (by omega)
    have hin : vp_in (nI ((3 + v) * 8 + j)) 48 := vp_in_nI (by omega) (by omega)
    refine br_f (nI_ge (by omega) (by omega)) ⟨hin, ?_⟩
    rw [hcl, e1, e2, e3]
    refine qx_termFor b2 ⟨hin, qx_termFor b3 ⟨hin, ?_⟩⟩
    refine qx_link b1 (qa_tf_lt (by omega) (by omega) (by omega) b2) (qa_tf_lt (by omega) (by omega) (by omega) b3) H (fun a b d => ?_) (fun lk' H' => nm_r (qn_s _ _) (ih (j + 1) n lk' (by omega) (by omega) H'))
    rw [qa_G_s]
    exact or_assoc.symm
theorem qx_linkFacts {post : SX → Prop} {v p q o : Nat} {F F' : Nat → Nat → Nat → Prop} (A : qa_A 8 c K L R ac ak al ar) (hv : v < 3) (hc : c (3 + v) ≤ 8) (hb : ∀ j, j < c (3 + v) → K (3 + v) j < 3 ∧ L (3 + v) j < 4 ∧ R (3 + v) j < 4) (hp : p < 5) (hq : q < 5) (ho : o < 8)
    (H : qa_LK lk F) (hF : ∀ k x y, F' k x y ↔ (F k x y ∨ qa_G (c (3 + v)) (K (3 + v)) (L (3 + v)) (R (3 + v)) p q (5 + 2 * o) k x y)) (pp : ∀ lk', qa_LK lk' F' → post (fr, fv, fl, fm, f0, f1, ac, ak, al, ar, lk', im, le, gr)) :
    wpX_linkFacts post (fr, fv, fl, fm, f0, f1, ac, ak, al, ar, lk, im, le, gr) (nI v) (nI p) (nI q) (nI o) := by
  refine nm_r (e' := nI ((3 + v) * 8)) (by rw [qn_3]; exact pk_mul (3 + v) 8) ⟨by rw [qn_3]; exact vp_in_nI (by omega) (by omega), nm_r (e' := nI ((3 + v) * 8 + c (3 + v))) (by rw [qn_3, nI_clamp (by omega), (A (3 + v) (by omega)).1, nI_add]) ⟨c (3 + v) + 1, ?_⟩⟩
  refine qx_lf25 A hv hc hb hp hq ho (fun lk' H' => pp lk' (qa_LK_cg H' hF)) (c (3 + v)) 0 _ lk (by omega) (by omega) (qa_LK_cg H (fun k x y => ?_))
  exact ⟨fun z => z.elim id (fun q => absurd q qa_G_0), Or.inl⟩
/-- the mask's bit of a view -/
def qa_on (mask : Int32) (V : Nat → Nat) (i : Nat) : Bool := decide ((mask >>> (nI (V i) &&& 31)) &&& 1 = 1)
theorem qa_on_t {mask : Int32} {V : Nat → Nat} {i : Nat} : qa_on mask V i = true ↔ (mask >>> (nI (V i) &&& 31)) &&& 1 = 1 := decide_eq_true_iff
theorem qx_inMask {post : Int32 → Prop} {mask : Int32} {V : Nat → Nat} {i : Nat} (p1 : qa_on mask V i = true → post 1) (p0 : ¬ qa_on mask V i = true → post 0) : wpX_isInMask post (nI (V i)) mask :=
  br_c (fun h => p1 (qa_on_t.mpr h)) (fun h => p0 (fun z => h (qa_on_t.mp z)))
theorem qx_lfs16 {post : SX → Prop} {s : Nat} {mask : Int32} (A : qa_A 8 c K L R ac ak al ar) (hs : s < 6) (hc : ∀ s, s < 6 → c s ≤ 8) (hV : ∀ j, j < c s → K s j < 3 ∧ L s j < 5 ∧ R s j < 5) (hb : ∀ v, v < 3 → ∀ j, j < c (3 + v) → K (3 + v) j < 3 ∧ L (3 + v) j < 4 ∧ R (3 + v) j < 4)
    (pp : ∀ lk', qa_LK lk' (qa_FX c K L R (qa_on mask (K s)) (K s) (L s) (R s) (fun i => 5 + 2 * i) (c s)) → post (fr, fv, fl, fm, f0, f1, ac, ak, al, ar, lk', im, le, gr)) :
    ∀ d j n (lk : Nat → Int32), j + d = c s → d < n → qa_LK lk (qa_FX c K L R (qa_on mask (K s)) (K s) (L s) (R s) (fun i => 5 + 2 * i) j) →
      wX_linkFactsOfSection_16 post mask (nI (s * 8)) (nI (c s)) n (nI j) fr fv fl fm f0 f1 ac ak al ar lk im le gr := by
  have h8 := hc s hs
  intro d
  induction d with
  | zero =>
    intro j n lk hj hn H
    obtain ⟨n, rfl⟩ : ∃ m, n = m + 1 := ⟨n - 1, by omega⟩
    have e : j = c s := by omega
    subst e
    exact br_t (nI_le (by omega) (by omega)) (pp lk H)
  | succ d ih =>
    intro j n lk hj hn H
    obtain ⟨n, rfl⟩ : ∃ m, n = m + 1 := ⟨n - 1, by omega⟩
    obtain ⟨e1, e2, e3⟩ := (A s hs).2 j (by omega)
    obtain ⟨b1, b2, b3⟩ := hV j (by omega)
    have hcl : (nI (s * 8 + j)).toNatClampNeg = s * 8 + j := nI_clamp (by omega)
    have hin : vp_in (nI (s * 8 + j)) 48 := vp_in_nI (by omega) (by omega)
    refine br_f (nI_ge (by omega) (by omega)) (nm_r (nI_add (s * 8) j) ⟨hin, ?_⟩)
    rw [hcl, e1, e2, e3]
    refine qx_inMask (V := K s) (i := j) (fun h => br_f qn_10 ⟨hin, hin, hin, ?_⟩) (fun h => br_t rfl (nm_r (nI_1 j) (ih (j + 1) n lk (by omega) (by omega) (qa_LK_cg H (fun k x y => qa_FX_f h)))))
    exact qx_linkFacts A b1 (hc _ (by omega)) (hb _ b1) b2 b3 (by omega) H (fun k x y => qa_FX_t h) (fun lk' H' => nm_r (nI_1 j) (ih (j + 1) n lk' (by omega) (by omega) H'))
theorem qx_linkFactsOfSection {post : SX → Prop} {s : Nat} {mask : Int32} (A : qa_A 8 c K L R ac ak al ar) (hs : s < 6) (hc : ∀ s, s < 6 → c s ≤ 8) (hV : ∀ j, j < c s → K s j < 3 ∧ L s j < 5 ∧ R s j < 5) (hb : ∀ v, v < 3 → ∀ j, j < c (3 + v) → K (3 + v) j < 3 ∧ L (3 + v) j < 4 ∧ R (3 + v) j < 4)
    (hz : ∀ j, j < 63 → lk j = 0) (pp : ∀ lk', qa_LK lk' (qa_FX c K L R (qa_on mask (K s)) (K s) (L s) (R s) (fun i => 5 + 2 * i) (c s)) → post (fr, fv, fl, fm, f0, f1, ac, ak, al, ar, lk', im, le, gr)) :
    wpX_linkFactsOfSection post (fr, fv, fl, fm, f0, f1, ac, ak, al, ar, lk, im, le, gr) (nI s) mask := by
  have h8 := hc s hs
  refine nm_r (pk_mul s 8) ⟨vp_in_nI (by omega) (by omega), nm_r (e' := nI (c s)) (by rw [nI_clamp (by omega), (A s hs).1]) ⟨c s + 1, ?_⟩⟩
  exact qx_lfs16 A hs hc hV hb pp (c s) 0 (c s + 1) lk (by omega) (by omega) (qa_LK_0 hz (fun _ _ _ => qa_FX_0))
theorem qx_lr14 {post : SX → Prop} (A : qa_A 8 c K L R ac ak al ar) (h8 : c 2 ≤ 8) (hV : ∀ j, j < c 2 → K 2 j < 3 ∧ L 2 j < 5 ∧ R 2 j < 5)
    (pp : ∀ lk', qa_LK lk' (qa_In (c 2) (K 2) (L 2) (R 2)) → post (fr, fv, fl, fm, f0, f1, ac, ak, al, ar, lk', im, le, gr)) :
    ∀ d j n (lk : Nat → Int32), j + d = c 2 → d < n → qa_LK lk (qa_In j (K 2) (L 2) (R 2)) → wX_linkRows_14 post (nI (16 + c 2)) n (nI (16 + j)) fr fv fl fm f0 f1 ac ak al ar lk im le gr := by
  intro d
  induction d with
  | zero =>
    intro j n lk hj hn H
    obtain ⟨n, rfl⟩ : ∃ m, n = m + 1 := ⟨n - 1, by omega⟩
    have e : j = c 2 := by omega
    subst e
    exact br_t (nI_le (by omega) (by omega)) (pp lk H)
  | succ d ih =>
    intro j n lk hj hn H
    obtain ⟨n, rfl⟩ : ∃ m, n = m + 1 := ⟨n - 1, by omega⟩
    obtain ⟨e1, e2, e3⟩ := (A 2 (by decide)).2 j (by omega)
    obtain ⟨b1, b2, b3⟩ := hV j (by omega)
    have hcl : (nI (16 + j)).toNatClampNeg = 2 * 8 + j := nI_clamp (by omega)
    have hin : vp_in (nI (16 + j)) 48 := vp_in_nI (by omega) (by omega)
    refine br_f (nI_ge (by omega) (by omega)) ⟨hin, hin, hin, ?_⟩
    rw [hcl, e1, e2, e3]
    refine qx_link b1 (by omega) (by omega) H (fun a b d => ?_) (fun lk' H' => nm_r (qn_s _ _) (ih (j + 1) n lk' (by omega) (by omega) H'))
    constructor
    · rintro ⟨i, hi, z1, z2, z3⟩
      by_cases e : i = j
      · subst e; exact Or.inr ⟨z1.symm, z2.symm, z3.symm⟩
      · exact Or.inl ⟨i, by omega, z1, z2, z3⟩
    · rintro (⟨i, hi, z⟩ | ⟨z1, z2, z3⟩)
      · exact ⟨i, by omega, z⟩
      · exact ⟨j, by omega, z1.symm, z2.symm, z3.symm⟩
theorem qx_linkRows {post : SX → Prop} (A : qa_A 8 c K L R ac ak al ar) (h8 : c 2 ≤ 8) (hV : ∀ j, j < c 2 → K 2 j < 3 ∧ L 2 j < 5 ∧ R 2 j < 5) (hz : ∀ j, j < 63 → lk j = 0)
    (pp : ∀ lk', qa_LK lk' (qa_In (c 2) (K 2) (L 2) (R 2)) → post (fr, fv, fl, fm, f0, f1, ac, ak, al, ar, lk', im, le, gr)) : wpX_linkRows post (fr, fv, fl, fm, f0, f1, ac, ak, al, ar, lk, im, le, gr) := by
  refine nm_r (e' := nI (16 + c 2)) (by rw [(A 2 (by decide)).1]; exact nI_add 16 _) ⟨c 2 + 1, ?_⟩
  exact qx_lr14 A h8 hV pp (c 2) 0 (c 2 + 1) lk (by omega) (by omega) (qa_LK_0 hz (fun _ _ _ ⟨j, hj, _⟩ => absurd hj (Nat.not_lt_zero j)))
/-! the interval of each variable -/
def qa_LH (le gr : Nat → Int32) (lo hi : Nat → Nat) : Prop := ∀ v, v < 5 → le v = nI (lo v) ∧ gr v = nI (hi v) ∧ hi v < 21 ∧ lo v < 21
theorem qx_ro2 {post : SX → Prop} {T : Nat} (hT : T < 21) (hp : ∀ le' gr', qa_LH le' gr' (fun _ => 0) (fun _ => T) → post (fr, fv, fl, fm, f0, f1, ac, ak, al, ar, lk, im, le', gr')) :
    ∀ d i n (le gr : Nat → Int32), i + d = 5 → d < n → (∀ v, v < i → le v = 0 ∧ gr v = nI T) → wX_letRoam_2 post (nI (T + 1)) fr fv fl fm f0 f1 n (nI i) ac ak al ar lk im le gr := by
  intro d
  induction d with
  | zero =>
    intro i n le gr hi hn hz
    obtain ⟨n, rfl⟩ : ∃ m, n = m + 1 := ⟨n - 1, by omega⟩
    exact br_t (nI_le (a := 5) (by omega) (by omega)) (hp le gr (fun v hv => ⟨(hz v (by omega)).1, (hz v (by omega)).2, hT, (by decide : 0 < 21)⟩))
  | succ d ih =>
    intro i n le gr hi hn hz
    obtain ⟨n, rfl⟩ : ∃ m, n = m + 1 := ⟨n - 1, by omega⟩
    have hcl : (nI i).toNatClampNeg = i := nI_clamp (by omega)
    have hin : vp_in (nI i) 5 := vp_in_nI (by omega) (by omega)
    refine br_f (nI_ge (b := 5) (by omega) (by decide)) ⟨hin, nm_r (e' := upd le i 0) (by rw [hcl]) ⟨hin, nm_r (e' := upd gr i (nI T)) (by rw [hcl, nI_pred]) (nm_r (nI_1 i) (ih (i + 1) n _ _ (by omega) (by omega) (fun v hv => ?_)))⟩⟩
    by_cases e : v = i
    · subst e; exact ⟨pk_us, pk_us⟩
    · rw [pk_un e, pk_un e]; exact hz v (by omega)
theorem qx_letRoam {post : SX → Prop} {T : Nat} (hT : T < 21) (hp : ∀ le' gr', qa_LH le' gr' (fun _ => 0) (fun _ => T) → post (fr, fv, fl, fm, f0, f1, ac, ak, al, ar, lk, im, le', gr')) : wpX_letRoam post (fr, fv, fl, fm, f0, f1, ac, ak, al, ar, lk, im, le, gr) (nI (T + 1)) :=
  ⟨6, qx_ro2 hT hp 5 0 6 le gr (by omega) (by omega) (fun v hv => absurd hv (Nat.not_lt_zero v))⟩
theorem qx_pin {post : SX → Prop} {lo hi lo' hi' : Nat → Nat} {v t : Nat} (hv : v < 5) (ht : t < 21) (H : qa_LH le gr lo hi) (hl : ∀ w, lo' w = if w = v then t else lo w) (hh : ∀ w, hi' w = if w = v then t else hi w)
    (hp : ∀ le' gr', qa_LH le' gr' lo' hi' → post (fr, fv, fl, fm, f0, f1, ac, ak, al, ar, lk, im, le', gr')) : wpX_pin post (fr, fv, fl, fm, f0, f1, ac, ak, al, ar, lk, im, le, gr) (nI v) (nI t) := by
  have hcl : (nI v).toNatClampNeg = v := nI_clamp (by omega)
  have hin : vp_in (nI v) 5 := vp_in_nI (by omega) (by omega)
  refine ⟨hin, nm_r (e' := upd le v (nI t)) (by rw [hcl]) ⟨hin, nm_r (e' := upd gr v (nI t)) (by rw [hcl]) (hp _ _ (fun w hw => ?_))⟩⟩
  rw [hl, hh]
  by_cases e : w = v
  · subst e
    rw [pk_us, pk_us, if_pos rfl, if_pos rfl]
    exact ⟨rfl, rfl, ht, ht⟩
  · rw [pk_un e, pk_un e, if_neg e, if_neg e]
    exact H w hw
end
end
section
/-! the component's search -/
def qa_IM (im : Nat → Int32) (g : Nat → Nat) (n : Nat) : Prop := ∀ v, v < n → im v = nI (g v) ∧ g v < 21
section
variable {rl vw vl rm h0 h1 : Nat} {c : Nat → Nat} {K L R : Nat → Nat → Nat} {fr fv fl fm f0 f1 : Int32} {ac ak al ar lk im le gr : Nat → Int32}
theorem qx_isLinked {post : Int32 → Prop} {k l r : Nat} {F : Nat → Nat → Nat → Prop} (hk : k < 3) (hl : l < 21) (hr : r < 21) (H : qa_LK lk F) (p1 : F k l r → post 1) (p0 : ¬ F k l r → post 0) : wpX_isLinked post (fr, fv, fl, fm, f0, f1, ac, ak, al, ar, lk, im, le, gr) (nI k) (nI l) (nI r) := by
  have e : nI k * 21 + nI l = nI (k * 21 + l) := by rw [show nI k * 21 = nI (k * 21) from pk_mul k 21, nI_add]
  have hin : vp_in (nI k * 21 + nI l) 63 := by rw [e]; exact vp_in_nI (by omega) (by omega)
  have hcl : (nI k * 21 + nI l).toNatClampNeg = k * 21 + l := by rw [e]; exact nI_clamp (by omega)
  refine ⟨hin, ?_⟩
  rw [hcl]
  exact ek_if ((qb_t1 _ (by omega)).trans (H k l r hk hl hr)) p1 p0
theorem qx_cg50 {post : Int32 → SX → Prop} {s m : Nat} {g : Nat → Nat} {F : Nat → Nat → Nat → Prop} (A : qa_A 8 c K L R ac ak al ar) (hs : s < 6) (h8 : c s ≤ 8) (hb : ∀ j, j < c s → K s j < 3 ∧ L s j < 5 ∧ R s j < 5) (H : qa_LK lk F) (hm : m < 5) (hI : qa_IM im g (m + 1)) :
    ∀ d j n, j + d = c s → d < n → ((∀ i, j ≤ i → i < c s → qa_due (L s i) (R s i) m → F (K s i) (g (L s i)) (g (R s i))) → post 1 (fr, fv, fl, fm, f0, f1, ac, ak, al, ar, lk, im, le, gr)) → ((¬ ∀ i, j ≤ i → i < c s → qa_due (L s i) (R s i) m → F (K s i) (g (L s i)) (g (R s i))) → post 0 (fr, fv, fl, fm, f0, f1, ac, ak, al, ar, lk, im, le, gr)) →
      wX_canGo_50 post (nI m) (nI (s * 8 + c s)) fr fv fl fm f0 f1 ac ak al ar lk im le gr n (nI (s * 8 + j)) := by
  intro d
  induction d with
  | zero =>
    intro j n hj hn p1 p0
    obtain ⟨n, rfl⟩ : ∃ m, n = m + 1 := ⟨n - 1, by omega⟩
    exact br_t (nI_le (by omega) (by omega)) (p1 (fun i h1 h2 => absurd h1 (by omega)))
  | succ d ih =>
    intro j n hj hn p1 p0
    obtain ⟨n, rfl⟩ : ∃ m, n = m + 1 := ⟨n - 1, by omega⟩
    obtain ⟨e1, e2, e3⟩ := (A s hs).2 j (by omega)
    obtain ⟨b1, b2, b3⟩ := hb j (by omega)
    have hcl : (nI (s * 8 + j)).toNatClampNeg = s * 8 + j := nI_clamp (by omega)
    have hin : vp_in (nI (s * 8 + j)) 48 := vp_in_nI (by omega) (by omega)
    have hnx : (qa_due (L s j) (R s j) m → F (K s j) (g (L s j)) (g (R s j))) → wX_canGo_50 post (nI m) (nI (s * 8 + c s)) fr fv fl fm f0 f1 ac ak al ar lk im le gr n (nI (s * 8 + (j + 1))) := fun z => by
      refine ih (j + 1) n (by omega) (by omega) (fun h => p1 (fun i q1 q2 q3 => ?_)) (fun h => p0 (fun q => h (fun i q1 q2 q3 => q i (by omega) q2 q3)))
      by_cases e : i = j
      · subst e; exact z q3
      · exact h i (by omega) q2 q3
    have hno : ¬ qa_due (L s j) (R s j) m → wX_canGo_107 post (wX_canGo_50 post (nI m) (nI (s * 8 + c s)) fr fv fl fm f0 f1 ac ak al ar lk im le gr n) (nI m) (nI (s * 8 + c s)) (nI (s * 8 + j)) (nI (L s j)) (nI (R s j)) 0 fr fv fl fm f0 f1 ac ak al ar lk im le gr := fun z =>
      br_t rfl (nm_r (qn_s _ _) (hnx (fun q => absurd q z)))
    have hye : qa_due (L s j) (R s j) m → wX_canGo_107 post (wX_canGo_50 post (nI m) (nI (s * 8 + c s)) fr fv fl fm f0 f1 ac ak al ar lk im le gr n) (nI m) (nI (s * 8 + c s)) (nI (s * 8 + j)) (nI (L s j)) (nI (R s j)) 1 fr fv fl fm f0 f1 ac ak al ar lk im le gr := fun z => by
      have zz := z
      unfold qa_due at zz
      obtain ⟨i1, i2⟩ := hI (L s j) (by omega)
      obtain ⟨i3, i4⟩ := hI (R s j) (by omega)
      refine br_f qn_10 ⟨hin, vp_in_nI b2 (by omega), vp_in_nI b3 (by omega), ?_⟩
      rw [hcl, e1, nI_clamp (show L s j < 2 ^ 31 by omega), nI_clamp (show R s j < 2 ^ 31 by omega), i1, i3]
      refine qx_isLinked b1 i2 i4 H (fun q => br_f qn_10 (nm_r (qn_s _ _) (hnx (fun _ => q)))) (fun q => br_t rfl (p0 (fun w => q (w j (by omega) (by omega) z))))
    refine br_f (nI_ge (by omega) (by omega)) ⟨hin, nm_r (e' := nI (L s j)) (by rw [hcl]; exact e2) ⟨hin, nm_r (e' := nI (R s j)) (by rw [hcl]; exact e3) ?_⟩⟩
    refine pk_le (L s j) (R s j) (fun h => pk_eq (R s j) m (fun e => hye (Or.inr ⟨h, e⟩)) (fun e => hno ?_)) (fun h => pk_eq (L s j) m (fun e => hye (Or.inl ⟨h, e⟩)) (fun e => hno ?_))
    · unfold qa_due; omega
    · unfold qa_due; omega
theorem qx_canGo {post : Int32 → SX → Prop} {s m t : Nat} {g : Nat → Nat} {F : Nat → Nat → Nat → Prop} {lo hi : Nat → Nat} (A : qa_A 8 c K L R ac ak al ar) (hs : s < 6) (h8 : c s ≤ 8) (hb : ∀ j, j < c s → K s j < 3 ∧ L s j < 5 ∧ R s j < 5) (H : qa_LK lk F) (LH : qa_LH le gr lo hi)
    (hm : m < 5) (hI : qa_IM im g m) (Hok : qa_Ok (c s) (K s) (L s) (R s) F lo hi m g) (ht : t < 21)
    (p1 : ∀ im', qa_IM im' (qa_set g m t) (m + 1) → qa_Ok (c s) (K s) (L s) (R s) F lo hi (m + 1) (qa_set g m t) → post 1 (fr, fv, fl, fm, f0, f1, ac, ak, al, ar, lk, im', le, gr))
    (p0 : ∀ im', qa_IM im' g m → ¬ qa_Ok (c s) (K s) (L s) (R s) F lo hi (m + 1) (qa_set g m t) → post 0 (fr, fv, fl, fm, f0, f1, ac, ak, al, ar, lk, im', le, gr)) :
    wpX_canGo post (fr, fv, fl, fm, f0, f1, ac, ak, al, ar, lk, im, le, gr) (nI s) (nI m) (nI t) := by
  obtain ⟨l1, l2, l3, l4⟩ := LH m hm
  have hcl : (nI m).toNatClampNeg = m := nI_clamp (by omega)
  have hin : vp_in (nI m) 5 := vp_in_nI (by omega) (by omega)
  by_cases hr : lo m ≤ t ∧ t ≤ hi m
  · have hI1 : qa_IM (upd im m (nI t)) g m := fun v hv => by
      rw [pk_un (by omega)]
      exact hI v hv
    have hI2 : qa_IM (upd im m (nI t)) (qa_set g m t) (m + 1) := fun v hv => by
      by_cases e : v = m
      · subst e; rw [pk_us, qa_set_s]; exact ⟨rfl, ht⟩
      · rw [pk_un e, qa_set_n e]; exact hI v (by omega)
    have Hok' : qa_Ok (c s) (K s) (L s) (R s) F lo hi m (qa_set g m t) := qa_Ok_cg (fun v hv => qa_set_n (by omega)) Hok
    refine ⟨hin, br_f ?_ ⟨hin, br_t ?_ ⟨hin, nm_r (e' := upd im m (nI t)) (by rw [hcl]) (nm_r (pk_mul s 8) ⟨vp_in_nI (by omega) (by omega), nm_r (e' := nI (s * 8 + c s)) (by rw [nI_clamp (by omega), (A s hs).1, nI_add]) ⟨c s + 1, ?_⟩⟩)⟩⟩⟩
    · rw [hcl, l1]; exact nI_nlt hr.1 (by omega)
    · rw [hcl, l2]; exact nI_le hr.2 (by omega)
    · refine qx_cg50 A hs h8 hb H hm hI2 (c s) 0 (c s + 1) (by omega) (by omega) (fun z => p1 _ hI2 (qa_Ok_s Hok' ?_ (fun j hj => z j (Nat.zero_le _) hj))) (fun z => p0 _ hI1 (fun q => z (fun i _ h2 => qa_Ok_due q i h2)))
      rw [qa_set_s]; exact hr
  · have hno : ¬ qa_Ok (c s) (K s) (L s) (R s) F lo hi (m + 1) (qa_set g m t) := fun q => by
      have := q.1 m (by omega)
      rw [qa_set_s] at this
      exact hr this
    refine ⟨hin, ?_⟩
    rw [hcl, l1, l2]
    exact pk_lt t (lo m) (fun h => p0 im hI hno) (fun h => ⟨hin, pk_le t (hi m) (fun h' => absurd ⟨h, h'⟩ hr) (fun h' => p0 im hI hno)⟩)

theorem qx_h4 {post : Int32 → SX → Prop} {J2 : _} {J23 : _} {J45 : _} {J69 : _} {s t1 : Nat} {x2 x3 x4 : Int32} {F : Nat → Nat → Nat → Prop} {lo hi : Nat → Nat} (A : qa_A 8 c K L R ac ak al ar) (hs : s < 6) (h8 : c s ≤ 8) (hb : ∀ j, j < c s → K s j < 3 ∧ L s j < 5 ∧ R s j < 5) (H : qa_LK lk F) (LH : qa_LH le gr lo hi) {g : Nat → Nat} (Hok : qa_Ok (c s) (K s) (L s) (R s) F lo hi 4 g) :
    ∀ d t n (im : Nat → Int32), t + d = 21 → d < n → qa_IM im g 4 → (qa_Ex (c s) (K s) (L s) (R s) F lo hi 4 g t → ∀ im2, post 1 (fr, fv, fl, fm, f0, f1, ac, ak, al, ar, lk, im2, le, gr)) → (¬ qa_Ex (c s) (K s) (L s) (R s) F lo hi 4 g t → ∀ im2, qa_IM im2 g 4 → J69 (nI (t1 + 1)) fr fv fl fm f0 f1 ac ak al ar lk im2 le gr) →
      wX_hasImage_93 post J2 J23 J45 J69 (nI s) x2 x3 x4 (nI t1) n (nI t) fr fv fl fm f0 f1 ac ak al ar lk im le gr := by
  intro d
  induction d with
  | zero =>
    intro t n im ht hn hI p1 p0
    obtain ⟨n, rfl⟩ : ∃ m, n = m + 1 := ⟨n - 1, by omega⟩
    have hx : ¬ qa_Ex (c s) (K s) (L s) (R s) F lo hi 4 g t := qa_Ex_no (by decide) (by have := (LH 4 (by decide)).2.2.1; omega)
    exact br_t (nI_le (a := 21) (by omega) (by omega)) (nm_r (nI_1 t1) (p0 hx im hI))
  | succ d ih =>
    intro t n im ht hn hI p1 p0
    obtain ⟨n, rfl⟩ : ∃ m, n = m + 1 := ⟨n - 1, by omega⟩
    have nxt : ∀ im2, qa_IM im2 g 4 → (qa_Ex (c s) (K s) (L s) (R s) F lo hi 4 g t → qa_Ex (c s) (K s) (L s) (R s) F lo hi 4 g (t + 1)) → wX_hasImage_93 post J2 J23 J45 J69 (nI s) x2 x3 x4 (nI t1) n (nI (t + 1)) fr fv fl fm f0 f1 ac ak al ar lk im2 le gr := fun im2 hI2 hE =>
      ih (t + 1) n im2 (by omega) (by omega) hI2 (fun z => p1 (qa_Ex_s z)) (fun z => p0 (fun q => z (hE q)))
    refine br_f (nI_ge (b := 21) (by omega) (by decide)) ?_
    refine qx_canGo A hs h8 hb H LH (m := 4) (t := t) (by decide) hI Hok (by omega) (fun im2 hI2 hok => br_f qn_10 ?_) (fun im2 hI2 hno => br_t rfl (nm_r (nI_1 t) (nxt im2 hI2 (qa_Ex_no1 (by decide) hno))))
    exact p1 (qa_Ex_in (qa_Ex_5 hok)) im2
theorem qx_h3 {post : Int32 → SX → Prop} {J2 : _} {J23 : _} {J45 : _} {s t1 : Nat} {x2 x3 : Int32} {F : Nat → Nat → Nat → Prop} {lo hi : Nat → Nat} (A : qa_A 8 c K L R ac ak al ar) (hs : s < 6) (h8 : c s ≤ 8) (hb : ∀ j, j < c s → K s j < 3 ∧ L s j < 5 ∧ R s j < 5) (H : qa_LK lk F) (LH : qa_LH le gr lo hi) {g : Nat → Nat} (Hok : qa_Ok (c s) (K s) (L s) (R s) F lo hi 3 g) :
    ∀ d t n (im : Nat → Int32), t + d = 21 → d < n → qa_IM im g 3 → (qa_Ex (c s) (K s) (L s) (R s) F lo hi 3 g t → ∀ im2, post 1 (fr, fv, fl, fm, f0, f1, ac, ak, al, ar, lk, im2, le, gr)) → (¬ qa_Ex (c s) (K s) (L s) (R s) F lo hi 3 g t → ∀ im2, qa_IM im2 g 3 → J45 (nI (t1 + 1)) fr fv fl fm f0 f1 ac ak al ar lk im2 le gr) →
      wX_hasImage_69 post J2 J23 J45 (nI s) x2 x3 (nI t1) n (nI t) fr fv fl fm f0 f1 ac ak al ar lk im le gr := by
  intro d
  induction d with
  | zero =>
    intro t n im ht hn hI p1 p0
    obtain ⟨n, rfl⟩ : ∃ m, n = m + 1 := ⟨n - 1, by omega⟩
    have hx : ¬ qa_Ex (c s) (K s) (L s) (R s) F lo hi 3 g t := qa_Ex_no (by decide) (by have := (LH 3 (by decide)).2.2.1; omega)
    exact br_t (nI_le (a := 21) (by omega) (by omega)) (nm_r (nI_1 t1) (p0 hx im hI))
  | succ d ih =>
    intro t n im ht hn hI p1 p0
    obtain ⟨n, rfl⟩ : ∃ m, n = m + 1 := ⟨n - 1, by omega⟩
    have nxt : ∀ im2, qa_IM im2 g 3 → (qa_Ex (c s) (K s) (L s) (R s) F lo hi 3 g t → qa_Ex (c s) (K s) (L s) (R s) F lo hi 3 g (t + 1)) → wX_hasImage_69 post J2 J23 J45 (nI s) x2 x3 (nI t1) n (nI (t + 1)) fr fv fl fm f0 f1 ac ak al ar lk im2 le gr := fun im2 hI2 hE =>
      ih (t + 1) n im2 (by omega) (by omega) hI2 (fun z => p1 (qa_Ex_s z)) (fun z => p0 (fun q => z (hE q)))
    refine br_f (nI_ge (b := 21) (by omega) (by decide)) ?_
    refine qx_canGo A hs h8 hb H LH (m := 3) (t := t) (by decide) hI Hok (by omega) (fun im2 hI2 hok => br_f qn_10 ?_) (fun im2 hI2 hno => br_t rfl (nm_r (nI_1 t) (nxt im2 hI2 (qa_Ex_no1 (by decide) hno))))
    refine ⟨22, qx_h4 A hs h8 hb H LH hok 21 0 22 im2 (by omega) (by omega) hI2 (fun z => p1 (qa_Ex_in z)) (fun z im3 hI3 => nxt im3 (fun v hv => ?_) (fun q => Classical.byContradiction (fun w => z (qa_Ex_c q w))))⟩
    have := hI3 v (by omega)
    rw [qa_set_n (by omega)] at this
    exact this
theorem qx_h2 {post : Int32 → SX → Prop} {J2 : _} {J23 : _} {s t1 : Nat} {x2 : Int32} {F : Nat → Nat → Nat → Prop} {lo hi : Nat → Nat} (A : qa_A 8 c K L R ac ak al ar) (hs : s < 6) (h8 : c s ≤ 8) (hb : ∀ j, j < c s → K s j < 3 ∧ L s j < 5 ∧ R s j < 5) (H : qa_LK lk F) (LH : qa_LH le gr lo hi) {g : Nat → Nat} (Hok : qa_Ok (c s) (K s) (L s) (R s) F lo hi 2 g) :
    ∀ d t n (im : Nat → Int32), t + d = 21 → d < n → qa_IM im g 2 → (qa_Ex (c s) (K s) (L s) (R s) F lo hi 2 g t → ∀ im2, post 1 (fr, fv, fl, fm, f0, f1, ac, ak, al, ar, lk, im2, le, gr)) → (¬ qa_Ex (c s) (K s) (L s) (R s) F lo hi 2 g t → ∀ im2, qa_IM im2 g 2 → J23 (nI (t1 + 1)) fr fv fl fm f0 f1 ac ak al ar lk im2 le gr) →
      wX_hasImage_45 post J2 J23 (nI s) x2 (nI t1) n (nI t) fr fv fl fm f0 f1 ac ak al ar lk im le gr := by
  intro d
  induction d with
  | zero =>
    intro t n im ht hn hI p1 p0
    obtain ⟨n, rfl⟩ : ∃ m, n = m + 1 := ⟨n - 1, by omega⟩
    have hx : ¬ qa_Ex (c s) (K s) (L s) (R s) F lo hi 2 g t := qa_Ex_no (by decide) (by have := (LH 2 (by decide)).2.2.1; omega)
    exact br_t (nI_le (a := 21) (by omega) (by omega)) (nm_r (nI_1 t1) (p0 hx im hI))
  | succ d ih =>
    intro t n im ht hn hI p1 p0
    obtain ⟨n, rfl⟩ : ∃ m, n = m + 1 := ⟨n - 1, by omega⟩
    have nxt : ∀ im2, qa_IM im2 g 2 → (qa_Ex (c s) (K s) (L s) (R s) F lo hi 2 g t → qa_Ex (c s) (K s) (L s) (R s) F lo hi 2 g (t + 1)) → wX_hasImage_45 post J2 J23 (nI s) x2 (nI t1) n (nI (t + 1)) fr fv fl fm f0 f1 ac ak al ar lk im2 le gr := fun im2 hI2 hE =>
      ih (t + 1) n im2 (by omega) (by omega) hI2 (fun z => p1 (qa_Ex_s z)) (fun z => p0 (fun q => z (hE q)))
    refine br_f (nI_ge (b := 21) (by omega) (by decide)) ?_
    refine qx_canGo A hs h8 hb H LH (m := 2) (t := t) (by decide) hI Hok (by omega) (fun im2 hI2 hok => br_f qn_10 ?_) (fun im2 hI2 hno => br_t rfl (nm_r (nI_1 t) (nxt im2 hI2 (qa_Ex_no1 (by decide) hno))))
    refine ⟨22, qx_h3 A hs h8 hb H LH hok 21 0 22 im2 (by omega) (by omega) hI2 (fun z => p1 (qa_Ex_in z)) (fun z im3 hI3 => nxt im3 (fun v hv => ?_) (fun q => Classical.byContradiction (fun w => z (qa_Ex_c q w))))⟩
    have := hI3 v (by omega)
    rw [qa_set_n (by omega)] at this
    exact this
theorem qx_h1 {post : Int32 → SX → Prop} {J2 : _} {s t1 : Nat} {F : Nat → Nat → Nat → Prop} {lo hi : Nat → Nat} (A : qa_A 8 c K L R ac ak al ar) (hs : s < 6) (h8 : c s ≤ 8) (hb : ∀ j, j < c s → K s j < 3 ∧ L s j < 5 ∧ R s j < 5) (H : qa_LK lk F) (LH : qa_LH le gr lo hi) {g : Nat → Nat} (Hok : qa_Ok (c s) (K s) (L s) (R s) F lo hi 1 g) :
    ∀ d t n (im : Nat → Int32), t + d = 21 → d < n → qa_IM im g 1 → (qa_Ex (c s) (K s) (L s) (R s) F lo hi 1 g t → ∀ im2, post 1 (fr, fv, fl, fm, f0, f1, ac, ak, al, ar, lk, im2, le, gr)) → (¬ qa_Ex (c s) (K s) (L s) (R s) F lo hi 1 g t → ∀ im2, qa_IM im2 g 1 → J2 (nI (t1 + 1)) fr fv fl fm f0 f1 ac ak al ar lk im2 le gr) →
      wX_hasImage_23 post J2 (nI s) (nI t1) n (nI t) fr fv fl fm f0 f1 ac ak al ar lk im le gr := by
  intro d
  induction d with
  | zero =>
    intro t n im ht hn hI p1 p0
    obtain ⟨n, rfl⟩ : ∃ m, n = m + 1 := ⟨n - 1, by omega⟩
    have hx : ¬ qa_Ex (c s) (K s) (L s) (R s) F lo hi 1 g t := qa_Ex_no (by decide) (by have := (LH 1 (by decide)).2.2.1; omega)
    exact br_t (nI_le (a := 21) (by omega) (by omega)) (nm_r (nI_1 t1) (p0 hx im hI))
  | succ d ih =>
    intro t n im ht hn hI p1 p0
    obtain ⟨n, rfl⟩ : ∃ m, n = m + 1 := ⟨n - 1, by omega⟩
    have nxt : ∀ im2, qa_IM im2 g 1 → (qa_Ex (c s) (K s) (L s) (R s) F lo hi 1 g t → qa_Ex (c s) (K s) (L s) (R s) F lo hi 1 g (t + 1)) → wX_hasImage_23 post J2 (nI s) (nI t1) n (nI (t + 1)) fr fv fl fm f0 f1 ac ak al ar lk im2 le gr := fun im2 hI2 hE =>
      ih (t + 1) n im2 (by omega) (by omega) hI2 (fun z => p1 (qa_Ex_s z)) (fun z => p0 (fun q => z (hE q)))
    refine br_f (nI_ge (b := 21) (by omega) (by decide)) ?_
    refine qx_canGo A hs h8 hb H LH (m := 1) (t := t) (by decide) hI Hok (by omega) (fun im2 hI2 hok => br_f qn_10 ?_) (fun im2 hI2 hno => br_t rfl (nm_r (nI_1 t) (nxt im2 hI2 (qa_Ex_no1 (by decide) hno))))
    refine ⟨22, qx_h2 A hs h8 hb H LH hok 21 0 22 im2 (by omega) (by omega) hI2 (fun z => p1 (qa_Ex_in z)) (fun z im3 hI3 => nxt im3 (fun v hv => ?_) (fun q => Classical.byContradiction (fun w => z (qa_Ex_c q w))))⟩
    have := hI3 v (by omega)
    rw [qa_set_n (by omega)] at this
    exact this
theorem qx_h0 {post : Int32 → SX → Prop}  {s : Nat} {F : Nat → Nat → Nat → Prop} {lo hi : Nat → Nat} (A : qa_A 8 c K L R ac ak al ar) (hs : s < 6) (h8 : c s ≤ 8) (hb : ∀ j, j < c s → K s j < 3 ∧ L s j < 5 ∧ R s j < 5) (H : qa_LK lk F) (LH : qa_LH le gr lo hi) {g : Nat → Nat} (Hok : qa_Ok (c s) (K s) (L s) (R s) F lo hi 0 g) :
    ∀ d t n (im : Nat → Int32), t + d = 21 → d < n → qa_IM im g 0 → (qa_Ex (c s) (K s) (L s) (R s) F lo hi 0 g t → ∀ im2, post 1 (fr, fv, fl, fm, f0, f1, ac, ak, al, ar, lk, im2, le, gr)) → (¬ qa_Ex (c s) (K s) (L s) (R s) F lo hi 0 g t → ∀ im2, qa_IM im2 g 0 → post 0 (fr, fv, fl, fm, f0, f1, ac, ak, al, ar, lk, im2, le, gr)) →
      wX_hasImage_2 post (nI s) n (nI t) fr fv fl fm f0 f1 ac ak al ar lk im le gr := by
  intro d
  induction d with
  | zero =>
    intro t n im ht hn hI p1 p0
    obtain ⟨n, rfl⟩ : ∃ m, n = m + 1 := ⟨n - 1, by omega⟩
    have hx : ¬ qa_Ex (c s) (K s) (L s) (R s) F lo hi 0 g t := qa_Ex_no (by decide) (by have := (LH 0 (by decide)).2.2.1; omega)
    exact br_t (nI_le (a := 21) (by omega) (by omega)) (p0 hx im hI)
  | succ d ih =>
    intro t n im ht hn hI p1 p0
    obtain ⟨n, rfl⟩ : ∃ m, n = m + 1 := ⟨n - 1, by omega⟩
    have nxt : ∀ im2, qa_IM im2 g 0 → (qa_Ex (c s) (K s) (L s) (R s) F lo hi 0 g t → qa_Ex (c s) (K s) (L s) (R s) F lo hi 0 g (t + 1)) → wX_hasImage_2 post (nI s) n (nI (t + 1)) fr fv fl fm f0 f1 ac ak al ar lk im2 le gr := fun im2 hI2 hE =>
      ih (t + 1) n im2 (by omega) (by omega) hI2 (fun z => p1 (qa_Ex_s z)) (fun z => p0 (fun q => z (hE q)))
    refine br_f (nI_ge (b := 21) (by omega) (by decide)) ?_
    refine qx_canGo A hs h8 hb H LH (m := 0) (t := t) (by decide) hI Hok (by omega) (fun im2 hI2 hok => br_f qn_10 ?_) (fun im2 hI2 hno => br_t rfl (nm_r (nI_1 t) (nxt im2 hI2 (qa_Ex_no1 (by decide) hno))))
    refine ⟨22, qx_h1 A hs h8 hb H LH hok 21 0 22 im2 (by omega) (by omega) hI2 (fun z => p1 (qa_Ex_in z)) (fun z im3 hI3 => nxt im3 (fun v hv => ?_) (fun q => Classical.byContradiction (fun w => z (qa_Ex_c q w))))⟩
    have := hI3 v (by omega)
    rw [qa_set_n (by omega)] at this
    exact this
theorem qx_hasImage {post : Int32 → SX → Prop} {s : Nat} {F : Nat → Nat → Nat → Prop} {lo hi : Nat → Nat} (A : qa_A 8 c K L R ac ak al ar) (hs : s < 6) (h8 : c s ≤ 8) (hb : ∀ j, j < c s → K s j < 3 ∧ L s j < 5 ∧ R s j < 5) (H : qa_LK lk F) (LH : qa_LH le gr lo hi)
    (p1 : qa_Im (c s) (K s) (L s) (R s) F lo hi → ∀ im2, post 1 (fr, fv, fl, fm, f0, f1, ac, ak, al, ar, lk, im2, le, gr)) (p0 : ¬ qa_Im (c s) (K s) (L s) (R s) F lo hi → ∀ im2, post 0 (fr, fv, fl, fm, f0, f1, ac, ak, al, ar, lk, im2, le, gr)) : wpX_hasImage post (fr, fv, fl, fm, f0, f1, ac, ak, al, ar, lk, im, le, gr) (nI s) := by
  have hL : ∀ j, j < c s → L s j < 5 ∧ R s j < 5 := fun j hj => (hb j hj).2
  refine ⟨22, qx_h0 A hs h8 hb H LH (g := fun _ => 0) qa_Ok_0 21 0 22 im (by omega) (by omega) (fun v hv => absurd hv (Nat.not_lt_zero v)) (fun z => p1 ((qa_Im_Ex hL (fun _ => 0)).mpr z)) (fun z im2 _ => p0 (fun q => z ((qa_Im_Ex hL (fun _ => 0)).mp q)) im2)⟩
theorem qx_queryMatches {post : Int32 → SX → Prop} {p q : Nat} {F : Nat → Nat → Nat → Prop} (A : qa_A 8 c K L R ac ak al ar) (h8 : c 0 ≤ 8) (hb : ∀ j, j < c 0 → K 0 j < 3 ∧ L 0 j < 5 ∧ R 0 j < 5) (H : qa_LK lk F) (hp : p < 21) (hq : q < 21)
    (p1 : qa_Mt (c 0) (K 0) (L 0) (R 0) F 21 p q → ∀ im2 le2 gr2, post 1 (fr, fv, fl, fm, f0, f1, ac, ak, al, ar, lk, im2, le2, gr2)) (p0 : ¬ qa_Mt (c 0) (K 0) (L 0) (R 0) F 21 p q → ∀ im2 le2 gr2, post 0 (fr, fv, fl, fm, f0, f1, ac, ak, al, ar, lk, im2, le2, gr2)) :
    wpX_queryMatches post (fr, fv, fl, fm, f0, f1, ac, ak, al, ar, lk, im, le, gr) (nI p) (nI q) := by
  have hh := qa_Im_head (m := c 0) (K := K 0) (L := L 0) (R := R 0) (F := F) (p := p) (q := q) (h0 := 0) (h1 := 1) (T := 20) (by decide) (by decide) (by omega) (by omega) (fun z => absurd z (by decide))
  unfold wpX_queryMatches
  refine qx_letRoam (T := 20) (by decide) (fun le2 gr2 LH => ?_)
  refine qx_pin (v := 0) (t := p) (lo' := fun w => if w = 0 then p else 0) (hi' := fun w => if w = 0 then p else 20) (by decide) hp LH (fun w => rfl) (fun w => rfl) (fun le3 gr3 LH3 => ?_)
  refine qx_pin (v := 1) (t := q) (lo' := qa_lo p q 0 1) (hi' := qa_hi p q 0 1 20) (by decide) hq LH3 (fun w => rfl) (fun w => rfl) (fun le4 gr4 LH4 => ?_)
  exact qx_hasImage (s := 0) A (by decide) h8 hb H LH4 (fun z im2 => ⟨rfl, p1 (hh.mp z) im2 le4 gr4⟩) (fun z im2 => ⟨rfl, p0 (fun w => z (hh.mpr w)) im2 le4 gr4⟩)
theorem qx_cg18 {post : Int32 → SX → Prop} {a b T : Nat} {F : Nat → Nat → Nat → Prop} (A : qa_A 8 c K L R ac ak al ar) (h8 : c 1 ≤ 8) (hb : ∀ j, j < c 1 → K 1 j < 3 ∧ L 1 j < 5 ∧ R 1 j < 5) (H : qa_LK lk F) (hT : T < 21) (ha : a ≤ T) (hb' : b ≤ T) (hh0 : h0 < 5) (hh1 : h1 < 5) (hab : h0 = h1 → a = b)
    (p1 : qa_Cd h0 h1 a b (c 1) (K 1) (L 1) (R 1) F (T + 1) → ∀ im2 le2 gr2, post 1 (fr, fv, fl, fm, nI h0, nI h1, ac, ak, al, ar, lk, im2, le2, gr2)) (p0 : ¬ qa_Cd h0 h1 a b (c 1) (K 1) (L 1) (R 1) F (T + 1) → ∀ im2 le2 gr2, post 0 (fr, fv, fl, fm, nI h0, nI h1, ac, ak, al, ar, lk, im2, le2, gr2)) :
    wX_candidateGives_18 post (nI a) (nI b) (nI (T + 1)) fr fv fl fm (nI h0) (nI h1) ac ak al ar lk im le gr := by
  have hh := qa_Im_head (m := c 1) (K := K 1) (L := L 1) (R := R 1) (F := F) (p := a) (q := b) (h0 := h0) (h1 := h1) (T := T) hh0 hh1 ha hb' hab
  unfold wX_candidateGives_18
  refine qx_letRoam (T := T) hT (fun le2 gr2 LH => ?_)
  refine qx_pin (v := h0) (t := a) (lo' := fun w => if w = h0 then a else 0) (hi' := fun w => if w = h0 then a else T) hh0 (by omega) LH (fun w => rfl) (fun w => rfl) (fun le3 gr3 LH3 => ?_)
  refine qx_pin (v := h1) (t := b) (lo' := qa_lo a b h0 h1) (hi' := qa_hi a b h0 h1 T) hh1 (by omega) LH3 (fun w => rfl) (fun w => rfl) (fun le4 gr4 LH4 => ?_)
  exact qx_hasImage (s := 1) A (by decide) h8 hb H LH4 (fun z im2 => ⟨rfl, p1 (hh.mp z) im2 le4 gr4⟩) (fun z im2 => ⟨rfl, p0 (fun w => z (hh.mpr w)) im2 le4 gr4⟩)
theorem qx_candidateGives {post : Int32 → SX → Prop} {a b T : Nat} {F : Nat → Nat → Nat → Prop} (A : qa_A 8 c K L R ac ak al ar) (h8 : c 1 ≤ 8) (hb : ∀ j, j < c 1 → K 1 j < 3 ∧ L 1 j < 5 ∧ R 1 j < 5) (H : qa_LK lk F) (hT : T < 21) (ha : a ≤ T) (hb' : b ≤ T) (hh0 : h0 < 5) (hh1 : h1 < 5)
    (p1 : qa_Cd h0 h1 a b (c 1) (K 1) (L 1) (R 1) F (T + 1) → ∀ im2 le2 gr2, post 1 (fr, fv, fl, fm, nI h0, nI h1, ac, ak, al, ar, lk, im2, le2, gr2)) (p0 : ¬ qa_Cd h0 h1 a b (c 1) (K 1) (L 1) (R 1) F (T + 1) → ∀ im2 le2 gr2, post 0 (fr, fv, fl, fm, nI h0, nI h1, ac, ak, al, ar, lk, im2, le2, gr2)) :
    wpX_candidateGives post (fr, fv, fl, fm, nI h0, nI h1, ac, ak, al, ar, lk, im, le, gr) (nI a) (nI b) (nI (T + 1)) := by
  refine pk_eq h0 h1 (fun e => pk_eq a b (fun e' => ?_) (fun e' => ?_)) (fun e => ?_)
  · exact qx_cg18 A h8 hb H hT ha hb' hh0 hh1 (fun _ => e') p1 p0
  · refine p0 ?_ im le gr
    rintro ⟨g, z1, z2, _⟩
    rw [e, z2] at z1
    exact e' z1.symm
  · exact qx_cg18 A h8 hb H hT ha hb' hh0 hh1 (fun z => absurd z e) p1 p0
end
end
section
/-! the component's questions -/
section
variable {rl vw vl rm h0 h1 : Nat} {c : Nat → Nat} {K L R : Nat → Nat → Nat} {fr fv fl fm f0 f1 : Int32} {ac ak al ar lk im le gr : Nat → Int32}
theorem qa_W_8 (W : qa_W rl vw vl rm h0 h1 c K L R) : ∀ s, s < 6 → c s ≤ 8 := fun _ hs => qa_W_c W hs
theorem qa_W_v (W : qa_W rl vw vl rm h0 h1 c K L R) : ∀ v, v < 3 → ∀ j, j < c (3 + v) → K (3 + v) j < 3 ∧ L (3 + v) j < 4 ∧ R (3 + v) j < 4 := by
  intro v hv j hj
  obtain ⟨a, b, d⟩ := (W.2.2.2.2.2.2 (3 + v) (by omega)).2 j hj
  have e1 := qa_kd_le (s := 3 + v) W.1.2 W.2.1.2
  rw [qa_tm_3 (by omega)] at b d
  omega
theorem qx_certain {post : Int32 → SX → Prop} {mask : Int32} {a b : Nat} (W : qa_W rl vw vl rm h0 h1 c K L R) (A : qa_A 8 c K L R ac ak al ar) (ha : a < vl) (hb : b < vl)
    (p1 : qa_Mt (c 0) (K 0) (L 0) (R 0) (qa_FX c K L R (qa_on mask (K 2)) (K 2) (L 2) (R 2) (fun i => 5 + 2 * i) (c 2)) 21 a b → ∀ lk2 im2 le2 gr2, post 1 (nI rl, nI vw, nI vl, nI rm, nI h0, nI h1, ac, ak, al, ar, lk2, im2, le2, gr2))
    (p0 : ¬ qa_Mt (c 0) (K 0) (L 0) (R 0) (qa_FX c K L R (qa_on mask (K 2)) (K 2) (L 2) (R 2) (fun i => 5 + 2 * i) (c 2)) 21 a b → ∀ lk2 im2 le2 gr2, post 0 (nI rl, nI vw, nI vl, nI rm, nI h0, nI h1, ac, ak, al, ar, lk2, im2, le2, gr2)) :
    wpX_certain post (nI rl, nI vw, nI vl, nI rm, nI h0, nI h1, ac, ak, al, ar, lk, im, le, gr) mask (nI a) (nI b) := by
  have hl := W.2.2.1.2
  unfold wpX_certain
  refine qx_below (n := vl) (by omega) (fun _ _ _ => br_f qn_10 ?_) (fun z => absurd ⟨a, ha, rfl⟩ z)
  refine qx_below (n := vl) (by omega) (fun _ _ _ => br_f qn_10 ?_) (fun z => absurd ⟨b, hb, rfl⟩ z)
  refine qx_unlinkAll (fun lk1 hz => ?_)
  refine qx_linkFactsOfSection (s := 2) A (by decide) (qa_W_8 W) (qa_W_b W (by decide)) (qa_W_v W) hz (fun lk2 H => ?_)
  exact qx_queryMatches A (qa_W_8 W 0 (by decide)) (qa_W_b W (by decide)) H (by omega) (by omega) (fun z im2 le2 gr2 => br_f qn_10 (p1 z lk2 im2 le2 gr2)) (fun z im2 le2 gr2 => br_t rfl (p0 z lk2 im2 le2 gr2))
theorem qx_sound {post : Int32 → SX → Prop} (W : qa_W rl vw vl rm h0 h1 c K L R) (A : qa_A 8 c K L R ac ak al ar)
    (p1 : qa_Mt (c 0) (K 0) (L 0) (R 0) (qa_FX c K L R (qa_on (-1) (K 1)) (K 1) (L 1) (R 1) (fun i => 5 + 2 * i) (c 1)) 21 h0 h1 → ∀ lk2 im2 le2 gr2, post 1 (nI rl, nI vw, nI vl, nI rm, nI h0, nI h1, ac, ak, al, ar, lk2, im2, le2, gr2))
    (p0 : ¬ qa_Mt (c 0) (K 0) (L 0) (R 0) (qa_FX c K L R (qa_on (-1) (K 1)) (K 1) (L 1) (R 1) (fun i => 5 + 2 * i) (c 1)) 21 h0 h1 → ∀ lk2 im2 le2 gr2, post 0 (nI rl, nI vw, nI vl, nI rm, nI h0, nI h1, ac, ak, al, ar, lk2, im2, le2, gr2)) :
    wpX_sound post (nI rl, nI vw, nI vl, nI rm, nI h0, nI h1, ac, ak, al, ar, lk, im, le, gr) := by
  have hh0 := W.2.2.2.2.1
  have hh1 := W.2.2.2.2.2.1
  unfold wpX_sound
  refine qx_unlinkAll (fun lk1 hz => ?_)
  refine qx_linkFactsOfSection (s := 1) A (by decide) (qa_W_8 W) (qa_W_b W (by decide)) (qa_W_v W) hz (fun lk2 H => ?_)
  exact qx_queryMatches A (qa_W_8 W 0 (by decide)) (qa_W_b W (by decide)) H (by omega) (by omega) (fun z im2 le2 gr2 => br_f qn_10 (p1 z lk2 im2 le2 gr2)) (fun z im2 le2 gr2 => br_t rfl (p0 z lk2 im2 le2 gr2))
theorem qx_rw6 {post : Int32 → SX → Prop} {mask : Int32} (W : qa_W rl vw vl rm h0 h1 c K L R) (A : qa_A 8 c K L R ac ak al ar)
    (p1 : qa_Mt (c 0) (K 0) (L 0) (R 0) (qa_FX c K L R (qa_on mask (fun i => i)) (fun i => i) (fun _ => 0) (fun _ => 0) (fun i => 5 + 2 * i) vw) 21 0 0 → ∀ lk2 im2 le2 gr2, post 1 (nI rl, nI vw, nI vl, nI rm, nI h0, nI h1, ac, ak, al, ar, lk2, im2, le2, gr2))
    (p0 : ¬ qa_Mt (c 0) (K 0) (L 0) (R 0) (qa_FX c K L R (qa_on mask (fun i => i)) (fun i => i) (fun _ => 0) (fun _ => 0) (fun i => 5 + 2 * i) vw) 21 0 0 → ∀ lk2 im2 le2 gr2, post 0 (nI rl, nI vw, nI vl, nI rm, nI h0, nI h1, ac, ak, al, ar, lk2, im2, le2, gr2)) :
    ∀ d j n (lk : Nat → Int32), j + d = vw → d < n → qa_LK lk (qa_FX c K L R (qa_on mask (fun i => i)) (fun i => i) (fun _ => 0) (fun _ => 0) (fun i => 5 + 2 * i) j) → wX_rewritable_6 post mask n (nI j) (nI rl) (nI vw) (nI vl) (nI rm) (nI h0) (nI h1) ac ak al ar lk im le gr := by
  have hv := W.2.1.2
  intro d
  induction d with
  | zero =>
    intro j n lk hj hn H
    obtain ⟨n, rfl⟩ : ∃ m, n = m + 1 := ⟨n - 1, by omega⟩
    have e : j = vw := by omega
    subst e
    refine br_t (nI_le (by omega) (by omega)) ?_
    exact qx_queryMatches (p := 0) (q := 0) A (qa_W_8 W 0 (by decide)) (qa_W_b W (by decide)) H (by omega) (by omega) (fun z im2 le2 gr2 => br_f qn_10 (p1 z lk im2 le2 gr2)) (fun z im2 le2 gr2 => br_t rfl (p0 z lk im2 le2 gr2))
  | succ d ih =>
    intro j n lk hj hn H
    obtain ⟨n, rfl⟩ : ∃ m, n = m + 1 := ⟨n - 1, by omega⟩
    refine br_f (nI_ge (by omega) (by omega)) ?_
    refine qx_inMask (V := fun i => i) (i := j) (fun h => br_f qn_10 ?_) (fun h => br_t rfl (nm_r (nI_1 j) (ih (j + 1) n lk (by omega) (by omega) (qa_LK_cg H (fun k x y => qa_FX_f h)))))
    exact qx_linkFacts (v := j) (p := 0) (q := 0) (o := j) A (by omega) (qa_W_8 W _ (by omega)) (qa_W_v W j (by omega)) (by omega) (by omega) (by omega) H (fun k x y => qa_FX_t h) (fun lk' H' => nm_r (nI_1 j) (ih (j + 1) n lk' (by omega) (by omega) H'))
theorem qx_rewritable {post : Int32 → SX → Prop} {mask : Int32} (W : qa_W rl vw vl rm h0 h1 c K L R) (A : qa_A 8 c K L R ac ak al ar)
    (p1 : qa_Mt (c 0) (K 0) (L 0) (R 0) (qa_FX c K L R (qa_on mask (fun i => i)) (fun i => i) (fun _ => 0) (fun _ => 0) (fun i => 5 + 2 * i) vw) 21 0 0 → ∀ lk2 im2 le2 gr2, post 1 (nI rl, nI vw, nI vl, nI rm, nI h0, nI h1, ac, ak, al, ar, lk2, im2, le2, gr2))
    (p0 : ¬ qa_Mt (c 0) (K 0) (L 0) (R 0) (qa_FX c K L R (qa_on mask (fun i => i)) (fun i => i) (fun _ => 0) (fun _ => 0) (fun i => 5 + 2 * i) vw) 21 0 0 → ∀ lk2 im2 le2 gr2, post 0 (nI rl, nI vw, nI vl, nI rm, nI h0, nI h1, ac, ak, al, ar, lk2, im2, le2, gr2)) :
    wpX_rewritable post (nI rl, nI vw, nI vl, nI rm, nI h0, nI h1, ac, ak, al, ar, lk, im, le, gr) mask := by
  unfold wpX_rewritable
  exact qx_unlinkAll (fun lk1 hz => ⟨vw + 1, qx_rw6 W A p1 p0 vw 0 (vw + 1) lk1 (by omega) (by omega) (qa_LK_0 hz (fun _ _ _ => qa_FX_0))⟩)
theorem qx_candidateHas {post : Int32 → SX → Prop} {a b : Nat} (W : qa_W rl vw vl rm h0 h1 c K L R) (A : qa_A 8 c K L R ac ak al ar) (ha : a < vl) (hb : b < vl)
    (p1 : qa_Cd h0 h1 a b (c 1) (K 1) (L 1) (R 1) (qa_In (c 2) (K 2) (L 2) (R 2)) vl → ∀ lk2 im2 le2 gr2, post 1 (nI rl, nI vw, nI vl, nI rm, nI h0, nI h1, ac, ak, al, ar, lk2, im2, le2, gr2))
    (p0 : ¬ qa_Cd h0 h1 a b (c 1) (K 1) (L 1) (R 1) (qa_In (c 2) (K 2) (L 2) (R 2)) vl → ∀ lk2 im2 le2 gr2, post 0 (nI rl, nI vw, nI vl, nI rm, nI h0, nI h1, ac, ak, al, ar, lk2, im2, le2, gr2)) :
    wpX_candidateHas post (nI rl, nI vw, nI vl, nI rm, nI h0, nI h1, ac, ak, al, ar, lk, im, le, gr) (nI a) (nI b) := by
  have hl := W.2.2.1.2
  obtain ⟨T, rfl⟩ : ∃ T, vl = T + 1 := ⟨vl - 1, by omega⟩
  unfold wpX_candidateHas
  refine qx_below (n := T + 1) (by omega) (fun _ _ _ => br_f qn_10 ?_) (fun z => absurd ⟨a, ha, rfl⟩ z)
  refine qx_below (n := T + 1) (by omega) (fun _ _ _ => br_f qn_10 ?_) (fun z => absurd ⟨b, hb, rfl⟩ z)
  refine qx_unlinkAll (fun lk1 hz => ?_)
  refine qx_linkRows A (qa_W_8 W 2 (by decide)) (qa_W_b W (by decide)) hz (fun lk2 H => ?_)
  exact qx_candidateGives A (qa_W_8 W 1 (by decide)) (qa_W_b W (by decide)) H (by omega) (by omega) (by omega) W.2.2.2.2.1 W.2.2.2.2.2.1 (fun z im2 le2 gr2 => br_f qn_10 (p1 z lk2 im2 le2 gr2)) (fun z im2 le2 gr2 => br_t rfl (p0 z lk2 im2 le2 gr2))
/-! what the views give over the query -/
theorem qx_bq21 {post : Int32 → Prop} {v : Nat} {g : Nat → Nat} (W : qa_W rl vw vl rm h0 h1 c K L R) (A : qa_A 8 c K L R ac ak al ar) (hv : v < 3) (hg : ∀ w, w < 4 → im w = nI (g w) ∧ g w < 5) :
    ∀ d j n, j + d = c (3 + v) → d < n →
      ((∀ i, j ≤ i → i < c (3 + v) → qa_In (c 0) (K 0) (L 0) (R 0) (K (3 + v) i) (g (L (3 + v) i)) (g (R (3 + v) i))) → post 1) →
      ((¬ ∀ i, j ≤ i → i < c (3 + v) → qa_In (c 0) (K 0) (L 0) (R 0) (K (3 + v) i) (g (L (3 + v) i)) (g (R (3 + v) i))) → post 0) →
      wX_bodyIsInQuery_21 post (nI ((3 + v) * 8 + c (3 + v))) fr fv fl fm f0 f1 ac ak al ar lk im le gr n (nI ((3 + v) * 8 + j)) := by
  have h8 := qa_W_8 W (3 + v) (by omega)
  intro d
  induction d with
  | zero =>
    intro j n hj hn p1 p0
    obtain ⟨n, rfl⟩ : ∃ m, n = m + 1 := ⟨n - 1, by omega⟩
    exact br_t (nI_le (by omega) (by omega)) (p1 (fun i h1 h2 => absurd h1 (by omega)))
  | succ d ih =>
    intro j n hj hn p1 p0
    obtain ⟨n, rfl⟩ : ∃ m, n = m + 1 := ⟨n - 1, by omega⟩
    obtain ⟨e1, e2, e3⟩ := (A (3 + v) (by omega)).2 j (by omega)
    obtain ⟨b1, b2, b3⟩ := qa_W_v W v hv j (by omega)
    obtain ⟨g1, g2⟩ := hg _ b2
    obtain ⟨g3, g4⟩ := hg _ b3
    have hcl : (nI ((3 + v) * 8 + j)).toNatClampNeg = (3 + v) * 8 + j := nI_clamp (by omega)
    have hin : vp_in (nI ((3 + v) * 8 + j)) 48 := vp_in_nI (by omega) (by omega)
    refine br_f (nI_ge (by omega) (by omega)) ⟨hin, ?_⟩
    rw [hcl, e1, e2, e3]
    refine ⟨vp_in_nI (by omega) (by omega), nm_r (e' := nI (g (L (3 + v) j))) (by rw [nI_clamp (by omega)]; exact g1) ⟨hin, vp_in_nI (by omega) (by omega), nm_r (e' := nI (g (R (3 + v) j))) (by rw [nI_clamp (by omega)]; exact g3) ⟨hin, ?_⟩⟩⟩
    refine qx_place (s := 0) A (by decide) (qa_W_8 W 0 (by decide)) (qa_W_100 W (by decide)) (by omega) (by omega) (by omega) (fun i hi => br_f (qn_m1 ?_) (nm_r (qn_s _ _) (ih (j + 1) n (by omega) (by omega) (fun z => p1 (fun i' q1 q2 => ?_)) (fun z => p0 (fun q => z (fun i' q1 q2 => q i' (by omega) q2)))))) (fun hn => br_t rfl (p0 (fun q => qa_fd_nin hn (q j (by omega) (by omega)))))
    · have := (qa_fd_some _ _ _ hi).2.1
      have := qa_W_8 W 0 (by decide)
      omega
    · by_cases e : i' = j
      · subst e; exact qa_in_fd hi
      · exact z i' (by omega) q2
theorem qx_bodyIsInQuery {post : Int32 → Prop} {v : Nat} {g : Nat → Nat} (W : qa_W rl vw vl rm h0 h1 c K L R) (A : qa_A 8 c K L R ac ak al ar) (hv : v < 3) (hg : ∀ w, w < 4 → im w = nI (g w) ∧ g w < 5)
    (p1 : qa_Ca (c (3 + v)) (K (3 + v)) (L (3 + v)) (R (3 + v)) (qa_In (c 0) (K 0) (L 0) (R 0)) g → post 1) (p0 : ¬ qa_Ca (c (3 + v)) (K (3 + v)) (L (3 + v)) (R (3 + v)) (qa_In (c 0) (K 0) (L 0) (R 0)) g → post 0) :
    wpX_bodyIsInQuery post (fr, fv, fl, fm, f0, f1, ac, ak, al, ar, lk, im, le, gr) (nI v) := by
  refine nm_r (e' := nI ((3 + v) * 8)) (by rw [qn_3]; exact pk_mul (3 + v) 8) ⟨by rw [qn_3]; exact vp_in_nI (by omega) (by omega), nm_r (e' := nI ((3 + v) * 8 + c (3 + v))) (by rw [qn_3, nI_clamp (by omega), (A (3 + v) (by omega)).1, nI_add]) ⟨c (3 + v) + 1, ?_⟩⟩
  exact qx_bq21 W A hv hg (c (3 + v)) 0 (c (3 + v) + 1) (by omega) (by omega) (fun z => p1 (fun j hj => z j (Nat.zero_le _) hj)) (fun z => p0 (fun q => z (fun i _ h2 => q i h2)))
theorem qx_vg34 {post : Int32 → SX → Prop} {J17 : _} {v p q a : Nat} (W : qa_W rl vw vl rm h0 h1 c K L R) (A : qa_A 8 c K L R ac ak al ar) (hv : v < 3) (hp : p < 5) (hq : q < 5) (ha : a < 5) :
    ∀ d b n (im : Nat → Int32), b + d = 5 → d < n → im 0 = nI p → im 1 = nI q → im 2 = nI a →
      ((∃ b', b ≤ b' ∧ b' < 5 ∧ qa_Ca (c (3 + v)) (K (3 + v)) (L (3 + v)) (R (3 + v)) (qa_In (c 0) (K 0) (L 0) (R 0)) (qa_g5 p q a b' 0)) → ∀ im2, post 1 (fr, fv, fl, fm, f0, f1, ac, ak, al, ar, lk, im2, le, gr)) →
      ((¬ ∃ b', b ≤ b' ∧ b' < 5 ∧ qa_Ca (c (3 + v)) (K (3 + v)) (L (3 + v)) (R (3 + v)) (qa_In (c 0) (K 0) (L 0) (R 0)) (qa_g5 p q a b' 0)) → ∀ im2, im2 0 = nI p → im2 1 = nI q → J17 (nI (a + 1)) ac ak al ar lk im2 le gr) →
      wX_viewGives_34 post J17 (nI v) (nI a) fr fv fl fm f0 f1 n (nI b) ac ak al ar lk im le gr := by
  intro d
  induction d with
  | zero =>
    intro b n im hb hn i0 i1 i2 p1 p0
    obtain ⟨n, rfl⟩ : ∃ m, n = m + 1 := ⟨n - 1, by omega⟩
    exact br_t (nI_le (a := 5) (by omega) (by omega)) (nm_r (nI_1 a) (p0 (qa_ex_no (by omega)) im i0 i1))
  | succ d ih =>
    intro b n im hb hn i0 i1 i2 p1 p0
    obtain ⟨n, rfl⟩ : ∃ m, n = m + 1 := ⟨n - 1, by omega⟩
    have k0 : upd im 3 (nI b) 0 = nI p := (pk_un (by decide)).trans i0
    have k1 : upd im 3 (nI b) 1 = nI q := (pk_un (by decide)).trans i1
    have k2 : upd im 3 (nI b) 2 = nI a := (pk_un (by decide)).trans i2
    have hg : ∀ w, w < 4 → upd im 3 (nI b) w = nI (qa_g5 p q a b 0 w) ∧ qa_g5 p q a b 0 w < 5 := fun w hw =>
      match w, hw with
      | 0, _ => ⟨k0, hp⟩
      | 1, _ => ⟨k1, hq⟩
      | 2, _ => ⟨k2, ha⟩
      | 3, _ => ⟨pk_us, (by omega : b < 5)⟩
    refine br_f (nI_ge (b := 5) (by omega) (by decide)) (nm_e ?_)
    refine qx_bodyIsInQuery W A hv hg (fun z => br_f qn_10 (p1 ⟨b, Nat.le_refl _, by omega, z⟩ _)) (fun z => br_t rfl (nm_r (nI_1 b) (ih (b + 1) n _ (by omega) (by omega) k0 k1 k2 (fun w => p1 ((qa_ex_s (by omega)).mpr (Or.inr w))) (fun w => p0 (fun y => ?_)))))
    rcases (qa_ex_s (by omega)).mp y with y | y
    · exact z y
    · exact w y
theorem qx_vg17 {post : Int32 → SX → Prop} {v p q : Nat} (W : qa_W rl vw vl rm h0 h1 c K L R) (A : qa_A 8 c K L R ac ak al ar) (hv : v < 3) (hp : p < 5) (hq : q < 5) :
    ∀ d a n (im : Nat → Int32), a + d = 5 → d < n → im 0 = nI p → im 1 = nI q →
      ((∃ a', a ≤ a' ∧ a' < 5 ∧ ∃ b', 0 ≤ b' ∧ b' < 5 ∧ qa_Ca (c (3 + v)) (K (3 + v)) (L (3 + v)) (R (3 + v)) (qa_In (c 0) (K 0) (L 0) (R 0)) (qa_g5 p q a' b' 0)) → ∀ im2, post 1 (fr, fv, fl, fm, f0, f1, ac, ak, al, ar, lk, im2, le, gr)) →
      ((¬ ∃ a', a ≤ a' ∧ a' < 5 ∧ ∃ b', 0 ≤ b' ∧ b' < 5 ∧ qa_Ca (c (3 + v)) (K (3 + v)) (L (3 + v)) (R (3 + v)) (qa_In (c 0) (K 0) (L 0) (R 0)) (qa_g5 p q a' b' 0)) → ∀ im2, post 0 (fr, fv, fl, fm, f0, f1, ac, ak, al, ar, lk, im2, le, gr)) →
      wX_viewGives_17 post (nI v) fr fv fl fm f0 f1 n (nI a) ac ak al ar lk im le gr := by
  intro d
  induction d with
  | zero =>
    intro a n im ha hn i0 i1 p1 p0
    obtain ⟨n, rfl⟩ : ∃ m, n = m + 1 := ⟨n - 1, by omega⟩
    exact br_t (nI_le (a := 5) (by omega) (by omega)) (p0 (qa_ex_no (by omega)) im)
  | succ d ih =>
    intro a n im ha hn i0 i1 p1 p0
    obtain ⟨n, rfl⟩ : ∃ m, n = m + 1 := ⟨n - 1, by omega⟩
    refine br_f (nI_ge (b := 5) (by omega) (by decide)) (nm_e ⟨6, ?_⟩)
    refine qx_vg34 W A hv hp hq (by omega) 5 0 6 _ (by omega) (by omega) ((pk_un (by decide)).trans i0) ((pk_un (by decide)).trans i1) pk_us (fun w => p1 ((qa_ex_s (by omega)).mpr (Or.inl w))) (fun w im2 j0 j1 => ih (a + 1) n im2 (by omega) (by omega) j0 j1 (fun y => p1 ((qa_ex_s (by omega)).mpr (Or.inr y))) (fun y => p0 (fun x => ?_)))
    rcases (qa_ex_s (by omega)).mp x with x | x
    · exact w x
    · exact y x
theorem qx_viewGives {post : Int32 → SX → Prop} {v p q : Nat} (W : qa_W rl vw vl rm h0 h1 c K L R) (A : qa_A 8 c K L R ac ak al ar) (hv : v < 3) (hp : p < 5) (hq : q < 5)
    (p1 : qa_Vg c K L R v p q → ∀ im2, post 1 (fr, fv, fl, fm, f0, f1, ac, ak, al, ar, lk, im2, le, gr)) (p0 : ¬ qa_Vg c K L R v p q → ∀ im2, post 0 (fr, fv, fl, fm, f0, f1, ac, ak, al, ar, lk, im2, le, gr)) : wpX_viewGives post (fr, fv, fl, fm, f0, f1, ac, ak, al, ar, lk, im, le, gr) (nI v) (nI p) (nI q) := by
  refine nm_e (nm_e ⟨6, ?_⟩)
  refine qx_vg17 W A hv hp hq 5 0 6 _ (by omega) (by omega) ((pk_un (by decide)).trans pk_us) pk_us (fun z => p1 ?_) (fun z => p0 (fun q => z ?_))
  · obtain ⟨a, _, ha, b, _, hb, h⟩ := z
    exact ⟨a, ha, b, hb, h⟩
  · obtain ⟨a, ha, b, hb, h⟩ := q
    exact ⟨a, Nat.zero_le _, ha, b, Nat.zero_le _, hb, h⟩
def qa_VF (c : Nat → Nat) (K L R : Nat → Nat → Nat) (F : Nat → Nat → Nat → Prop) (v p q : Nat) (k x y : Nat) : Prop := F k x y ∨ (k = v ∧ x < 5 ∧ y < 5 ∧ qa_Vg c K L R v x y ∧ (x < p ∨ (x = p ∧ y < q)))
theorem qx_lv9 {post : SX → Prop} {J2 : _} {v p : Nat} {F : Nat → Nat → Nat → Prop} (W : qa_W rl vw vl rm h0 h1 c K L R) (A : qa_A 8 c K L R ac ak al ar) (hv : v < 3) (hp : p < 5)
    (pp : ∀ lk2 im2, qa_LK lk2 (qa_VF c K L R F v (p + 1) 0) → J2 (nI (p + 1)) fr fv fl fm f0 f1 ac ak al ar lk2 im2 le gr) :
    ∀ d q n (lk im : Nat → Int32), q + d = 5 → d < n → qa_LK lk (qa_VF c K L R F v p q) → wX_linkViewOverQuery_9 post J2 (nI v) (nI p) n (nI q) fr fv fl fm f0 f1 ac ak al ar lk im le gr := by
  intro d
  induction d with
  | zero =>
    intro q n lk im hq hn H
    obtain ⟨n, rfl⟩ : ∃ m, n = m + 1 := ⟨n - 1, by omega⟩
    refine br_t (nI_le (a := 5) (by omega) (by omega)) (nm_r (nI_1 p) (pp lk im (qa_LK_cg H (fun k x y => ?_))))
    unfold qa_VF
    constructor
    · rintro (z | ⟨z1, z2, z3, z4, z5⟩)
      · exact Or.inl z
      · exact Or.inr ⟨z1, z2, z3, z4, by omega⟩
    · rintro (z | ⟨z1, z2, z3, z4, z5⟩)
      · exact Or.inl z
      · exact Or.inr ⟨z1, z2, z3, z4, by omega⟩
  | succ d ih =>
    intro q n lk im hq hn H
    obtain ⟨n, rfl⟩ : ∃ m, n = m + 1 := ⟨n - 1, by omega⟩
    refine br_f (nI_ge (b := 5) (by omega) (by decide)) ?_
    refine qx_viewGives W A hv hp (by omega) (fun z im2 => br_f qn_10 ?_) (fun z im2 => br_t rfl (nm_r (nI_1 q) (ih (q + 1) n lk im2 (by omega) (by omega) (qa_LK_cg H (fun k x y => ?_)))))
    · refine qx_link hv (by omega) (by omega) H (fun k x y => ?_) (fun lk' H' => nm_r (nI_1 q) (ih (q + 1) n lk' im2 (by omega) (by omega) H'))
      unfold qa_VF
      constructor
      · rintro (w | ⟨z1, z2, z3, z4, z5⟩)
        · exact Or.inl (Or.inl w)
        · by_cases e : x = p ∧ y = q
          · exact Or.inr ⟨z1, e.1, e.2⟩
          · exact Or.inl (Or.inr ⟨z1, z2, z3, z4, by omega⟩)
      · rintro ((w | ⟨z1, z2, z3, z4, z5⟩) | ⟨z1, z2, z3⟩)
        · exact Or.inl w
        · exact Or.inr ⟨z1, z2, z3, z4, by omega⟩
        · subst z1 z2 z3
          exact Or.inr ⟨rfl, hp, by omega, z, by omega⟩
    · unfold qa_VF
      constructor
      · rintro (w | ⟨z1, z2, z3, z4, z5⟩)
        · exact Or.inl w
        · by_cases e : x = p ∧ y = q
          · rw [e.1, e.2] at z4
            exact absurd z4 z
          · exact Or.inr ⟨z1, z2, z3, z4, by omega⟩
      · rintro (w | ⟨z1, z2, z3, z4, z5⟩)
        · exact Or.inl w
        · exact Or.inr ⟨z1, z2, z3, z4, by omega⟩
theorem qx_lv2 {post : SX → Prop} {v : Nat} {F : Nat → Nat → Nat → Prop} (W : qa_W rl vw vl rm h0 h1 c K L R) (A : qa_A 8 c K L R ac ak al ar) (hv : v < 3)
    (pp : ∀ lk2 im2, qa_LK lk2 (qa_VF c K L R F v 5 0) → post (fr, fv, fl, fm, f0, f1, ac, ak, al, ar, lk2, im2, le, gr)) :
    ∀ d p n (lk im : Nat → Int32), p + d = 5 → d < n → qa_LK lk (qa_VF c K L R F v p 0) → wX_linkViewOverQuery_2 post (nI v) n (nI p) fr fv fl fm f0 f1 ac ak al ar lk im le gr := by
  intro d
  induction d with
  | zero =>
    intro p n lk im hq hn H
    obtain ⟨n, rfl⟩ : ∃ m, n = m + 1 := ⟨n - 1, by omega⟩
    have e : p = 5 := by omega
    subst e
    exact br_t (nI_le (a := 5) (by omega) (by omega)) (pp lk im H)
  | succ d ih =>
    intro p n lk im hq hn H
    obtain ⟨n, rfl⟩ : ∃ m, n = m + 1 := ⟨n - 1, by omega⟩
    exact br_f (nI_ge (b := 5) (by omega) (by decide)) ⟨6, qx_lv9 W A hv (by omega) (fun lk2 im2 H2 => ih (p + 1) n lk2 im2 (by omega) (by omega) H2) 5 0 6 lk im (by omega) (by omega) H⟩
theorem qx_co6 {post : Int32 → SX → Prop} (W : qa_W rl vw vl rm h0 h1 c K L R) (A : qa_A 8 c K L R ac ak al ar)
    (p1 : qa_Cd h0 h1 0 1 (c 1) (K 1) (L 1) (R 1) (fun v p q => v < vw ∧ p < 5 ∧ q < 5 ∧ qa_Vg c K L R v p q) 5 → ∀ lk2 im2 le2 gr2, post 1 (nI rl, nI vw, nI vl, nI rm, nI h0, nI h1, ac, ak, al, ar, lk2, im2, le2, gr2))
    (p0 : ¬ qa_Cd h0 h1 0 1 (c 1) (K 1) (L 1) (R 1) (fun v p q => v < vw ∧ p < 5 ∧ q < 5 ∧ qa_Vg c K L R v p q) 5 → ∀ lk2 im2 le2 gr2, post 0 (nI rl, nI vw, nI vl, nI rm, nI h0, nI h1, ac, ak, al, ar, lk2, im2, le2, gr2)) :
    ∀ d j n (lk im : Nat → Int32), j + d = vw → d < n → qa_LK lk (fun v p q => v < j ∧ p < 5 ∧ q < 5 ∧ qa_Vg c K L R v p q) → wX_complete_6 post n (nI j) (nI rl) (nI vw) (nI vl) (nI rm) (nI h0) (nI h1) ac ak al ar lk im le gr := by
  have hv := W.2.1.2
  intro d
  induction d with
  | zero =>
    intro j n lk im hj hn H
    obtain ⟨n, rfl⟩ : ∃ m, n = m + 1 := ⟨n - 1, by omega⟩
    have e : j = vw := by omega
    subst e
    refine br_t (nI_le (by omega) (by omega)) ?_
    exact qx_candidateGives (a := 0) (b := 1) (T := 4) A (qa_W_8 W 1 (by decide)) (qa_W_b W (by decide)) H (by omega) (by omega) (by omega) W.2.2.2.2.1 W.2.2.2.2.2.1 (fun z im2 le2 gr2 => br_f qn_10 (p1 z lk im2 le2 gr2)) (fun z im2 le2 gr2 => br_t rfl (p0 z lk im2 le2 gr2))
  | succ d ih =>
    intro j n lk im hj hn H
    obtain ⟨n, rfl⟩ : ∃ m, n = m + 1 := ⟨n - 1, by omega⟩
    refine br_f (nI_ge (by omega) (by omega)) ?_
    refine ⟨6, qx_lv2 (F := fun v p q => v < j ∧ p < 5 ∧ q < 5 ∧ qa_Vg c K L R v p q) W A (by omega) (fun lk2 im2 H2 => nm_r (nI_1 j) (ih (j + 1) n lk2 im2 (by omega) (by omega) (qa_LK_cg H2 (fun k x y => ?_)))) 5 0 6 lk im (by omega) (by omega) (qa_LK_cg H (fun k x y => ?_))⟩
    · unfold qa_VF
      constructor
      · rintro ⟨z1, z2, z3, z4⟩
        by_cases e : k = j
        · subst e; exact Or.inr ⟨rfl, z2, z3, z4, by omega⟩
        · exact Or.inl ⟨by omega, z2, z3, z4⟩
      · rintro (⟨z1, z2, z3, z4⟩ | ⟨z1, z2, z3, z4, z5⟩)
        · exact ⟨by omega, z2, z3, z4⟩
        · subst z1; exact ⟨by omega, z2, z3, z4⟩
    · unfold qa_VF
      constructor
      · rintro (z | ⟨z1, z2, z3, z4, z5⟩)
        · exact z
        · omega
      · exact Or.inl
theorem qx_complete {post : Int32 → SX → Prop} (W : qa_W rl vw vl rm h0 h1 c K L R) (A : qa_A 8 c K L R ac ak al ar)
    (p1 : qa_Cd h0 h1 0 1 (c 1) (K 1) (L 1) (R 1) (fun v p q => v < vw ∧ p < 5 ∧ q < 5 ∧ qa_Vg c K L R v p q) 5 → ∀ lk2 im2 le2 gr2, post 1 (nI rl, nI vw, nI vl, nI rm, nI h0, nI h1, ac, ak, al, ar, lk2, im2, le2, gr2))
    (p0 : ¬ qa_Cd h0 h1 0 1 (c 1) (K 1) (L 1) (R 1) (fun v p q => v < vw ∧ p < 5 ∧ q < 5 ∧ qa_Vg c K L R v p q) 5 → ∀ lk2 im2 le2 gr2, post 0 (nI rl, nI vw, nI vl, nI rm, nI h0, nI h1, ac, ak, al, ar, lk2, im2, le2, gr2)) :
    wpX_complete post (nI rl, nI vw, nI vl, nI rm, nI h0, nI h1, ac, ak, al, ar, lk, im, le, gr) := by
  unfold wpX_complete
  refine qx_unlinkAll (fun lk1 hz => ⟨vw + 1, qx_co6 W A p1 p0 vw 0 (vw + 1) lk1 im (by omega) (by omega) (qa_LK_0 hz (fun k x y z => ?_))⟩)
  exact absurd z.1 (Nat.not_lt_zero k)
end
end
section
/-! the component's coreSize -/
def qa_Dx (a b e x y z : Nat) : Prop := x < 5 ∧ y < 5 ∧ z < 5 ∧ (x < a ∨ (x = a ∧ (y < b ∨ (y = b ∧ z < e))))
section
variable {rl vw vl rm h0 h1 : Nat} {c : Nat → Nat} {K L R : Nat → Nat → Nat} {fr fv fl fm f0 f1 : Int32} {ac ak al ar lk im le gr : Nat → Int32}
theorem qx_ar19 {post : Int32 → Prop} {g : Nat → Nat} (W : qa_W rl vw vl rm h0 h1 c K L R) (A : qa_A 8 c K L R ac ak al ar) (hg : ∀ w, w < 5 → im w = nI (g w) ∧ g w < 5)
    (p1 : qa_gd (c 0) (K 0) (L 0) (R 0) g → post (nI (qa_sn (qa_tg (c 0) (K 0) (L 0) (R 0) g) (c 0)).2)) (p0 : ¬ qa_gd (c 0) (K 0) (L 0) (R 0) g → post (-1)) :
    ∀ d j n (x1 : Int32), j + d = c 0 → d < n → (∀ i, i < j → qa_In (c 0) (K 0) (L 0) (R 0) (K 0 i) (g (L 0 i)) (g (R 0 i))) → (∀ t, t < 8 → (bt x1 t = true ↔ (qa_sn (qa_tg (c 0) (K 0) (L 0) (R 0) g) j).1 t = true)) →
      wX_atomsReached_19 post 0 (nI (c 0)) fr fv fl fm f0 f1 ac ak al ar lk im le gr n x1 (nI (qa_sn (qa_tg (c 0) (K 0) (L 0) (R 0) g) j).2) (nI j) := by
  have h8 := qa_W_8 W 0 (by decide)
  intro d
  induction d with
  | zero =>
    intro j n x1 hj hn hd hs
    obtain ⟨n, rfl⟩ : ∃ m, n = m + 1 := ⟨n - 1, by omega⟩
    have e : j = c 0 := by omega
    subst e
    exact br_t (nI_le (by omega) (by omega)) (p1 hd)
  | succ d ih =>
    intro j n x1 hj hn hd hs
    obtain ⟨n, rfl⟩ : ∃ m, n = m + 1 := ⟨n - 1, by omega⟩
    obtain ⟨e1, e2, e3⟩ := (A 0 (by decide)).2 j (by omega)
    rw [show 0 * 8 + j = j by omega] at e1 e2 e3
    obtain ⟨b1, b2, b3⟩ := qa_W_b W (s := 0) (by decide) j (by omega)
    obtain ⟨g1, g2⟩ := hg _ b2
    obtain ⟨g3, g4⟩ := hg _ b3
    have hcl : (nI j).toNatClampNeg = j := nI_clamp (by omega)
    have hin : vp_in (nI j) 48 := vp_in_nI (by omega) (by omega)
    have hsn := qa_sn_le (qa_tg (c 0) (K 0) (L 0) (R 0) g) j
    refine br_f (nI_ge (by omega) (by omega)) ⟨hin, hin, ?_⟩
    rw [hcl, e1, e2, e3, nI_clamp (show L 0 j < 2 ^ 31 by omega), nI_clamp (show R 0 j < 2 ^ 31 by omega), g1, g3]
    refine ⟨vp_in_nI (by omega) (by omega), hin, vp_in_nI (by omega) (by omega), ?_⟩
    refine qx_place (s := 0) A (by decide) h8 (qa_W_100 W (by decide)) (by omega) (by omega) (by omega) (fun i hi => ?_) (fun hn => br_t rfl (p0 (fun q => qa_fd_nin hn (q j (by omega)))))
    have hic := (qa_fd_some _ _ _ hi).2.1
    have htg : qa_tg (c 0) (K 0) (L 0) (R 0) g j = some i := hi
    have hd' : ∀ i, i < j + 1 → qa_In (c 0) (K 0) (L 0) (R 0) (K 0 i) (g (L 0 i)) (g (R 0 i)) := fun i' hi' => by
      by_cases e : i' = j
      · subst e; exact qa_in_fd hi
      · exact hd i' (by omega)
    have ebit : (1 : Int32) <<< ((nI (0 * 8 + i) - 0) &&& 31) = (1 : Int32) <<< (nI i &&& 31) := by rw [show 0 * 8 + i = i by omega, Int32.sub_zero]
    refine br_f (qn_m1 (by omega)) (nm_r ebit ?_)
    refine ek_if (qb_and0 x1 (by omega)) (fun z => ?_) (fun z => ?_)
    · have hz : ¬ (qa_sn (qa_tg (c 0) (K 0) (L 0) (R 0) g) j).1 i = true := fun w => z ((hs i (by omega)).mpr w)
      have es := qa_sn_f htg hz
      refine nm_e (nm_r (e' := nI (qa_sn (qa_tg (c 0) (K 0) (L 0) (R 0) g) (j + 1)).2) (by rw [es]; exact nI_1 _) (nm_r (nI_1 j) (ih (j + 1) n _ (by omega) (by omega) hd' (fun t ht => ?_))))
      rw [es, qb_or x1 (by omega) (by omega), hs t ht]
      show _ ↔ (if t = i then true else (qa_sn (qa_tg (c 0) (K 0) (L 0) (R 0) g) j).1 t) = true
      by_cases e : t = i
      · rw [if_pos e]; exact ⟨fun _ => rfl, fun _ => Or.inr e⟩
      · rw [if_neg e]; exact ⟨fun w => w.elim id (fun w => absurd w e), Or.inl⟩
    · have hz : (qa_sn (qa_tg (c 0) (K 0) (L 0) (R 0) g) j).1 i = true := (hs i (by omega)).mp (Classical.byContradiction z)
      have es := qa_sn_t htg hz
      refine nm_r (nI_1 j) ?_
      have := ih (j + 1) n x1 (by omega) (by omega) hd' (by rw [es]; exact hs)
      rw [es] at this
      exact this
theorem qx_atomsReached {post : Int32 → Prop} {g : Nat → Nat} (W : qa_W rl vw vl rm h0 h1 c K L R) (A : qa_A 8 c K L R ac ak al ar) (hg : ∀ w, w < 5 → im w = nI (g w) ∧ g w < 5)
    (p1 : qa_gd (c 0) (K 0) (L 0) (R 0) g → post (nI (qa_sn (qa_tg (c 0) (K 0) (L 0) (R 0) g) (c 0)).2)) (p0 : ¬ qa_gd (c 0) (K 0) (L 0) (R 0) g → post (-1)) : wpX_atomsReached post (fr, fv, fl, fm, f0, f1, ac, ak, al, ar, lk, im, le, gr) := by
  refine nm_r (e' := nI (c 0)) (by rw [(A 0 (by decide)).1, Int32.zero_add]) ⟨c 0 + 1, ?_⟩
  exact qx_ar19 W A hg p1 p0 (c 0) 0 (c 0 + 1) 0 (by omega) (by omega) (fun i hi => absurd hi (Nat.not_lt_zero i)) (fun t _ => by rw [b_0]; exact Iff.rfl)
theorem qx_cs52 {post : Int32 → SX → Prop} {J23 J37 : _} {a b : Nat} (W : qa_W rl vw vl rm h0 h1 c K L R) (A : qa_A 8 c K L R ac ak al ar) (ha : a < 5) (hb : b < 5)
    (pp : ∀ r im2, qa_Iv (c 0) (K 0) (L 0) (R 0) (qa_Dx a (b + 1) 0) r → im2 0 = 0 → im2 1 = 1 → im2 2 = nI a → J37 (nI r) (nI (b + 1)) ac ak al ar lk im2 le gr) :
    ∀ d e n r (im : Nat → Int32), e + d = 5 → d < n → qa_Iv (c 0) (K 0) (L 0) (R 0) (qa_Dx a b e) r → im 0 = 0 → im 1 = 1 → im 2 = nI a → im 3 = nI b →
      wX_coreSize_52 post J23 J37 (nI a) (nI b) fr fv fl fm f0 f1 n (nI r) (nI e) ac ak al ar lk im le gr := by
  have h8 := qa_W_8 W 0 (by decide)
  intro d
  induction d with
  | zero =>
    intro e n r im he hn I i0 i1 i2 i3
    obtain ⟨n, rfl⟩ : ∃ m, n = m + 1 := ⟨n - 1, by omega⟩
    refine br_t (nI_le (a := 5) (by omega) (by omega)) (nm_r (nI_1 b) (pp r im (qa_Iv_w (fun x y z h => ?_) I) i0 i1 i2))
    unfold qa_Dx at *
    omega
  | succ d ih =>
    intro e n r im he hn I i0 i1 i2 i3
    obtain ⟨n, rfl⟩ : ∃ m, n = m + 1 := ⟨n - 1, by omega⟩
    have k0 : upd im 4 (nI e) 0 = 0 := (pk_un (by decide)).trans i0
    have k1 : upd im 4 (nI e) 1 = 1 := (pk_un (by decide)).trans i1
    have k2 : upd im 4 (nI e) 2 = nI a := (pk_un (by decide)).trans i2
    have k3 : upd im 4 (nI e) 3 = nI b := (pk_un (by decide)).trans i3
    have hg : ∀ w, w < 5 → upd im 4 (nI e) w = nI (qa_gg a b e w) ∧ qa_gg a b e w < 5 := qa_5 ⟨k0, (by decide : 0 < 5)⟩ ⟨k1, (by decide : 1 < 5)⟩ ⟨k2, ha⟩ ⟨k3, hb⟩ ⟨pk_us, (by omega : e < 5)⟩
    have hD : ∀ x y z, qa_Dx a b (e + 1) x y z → qa_Dx a b e x y z ∨ (x = a ∧ y = b ∧ z = e) := by
      intro x y z h
      unfold qa_Dx at *
      omega
    have hsn := qa_sn_le (qa_tg (c 0) (K 0) (L 0) (R 0) (qa_gg a b e)) (c 0)
    have hr := I.1
    refine br_f (nI_ge (b := 5) (by omega) (by decide)) (nm_e ?_)
    refine qx_atomsReached W A hg (fun z => br_f (qn_m1 (by omega)) (pk_le r _ (fun h => nm_r (nI_1 e) (ih (e + 1) n r _ (by omega) (by omega) (qa_Iv_ge hD (fun _ => h) I) k0 k1 k2 k3)) (fun h => nm_r (nI_1 e) (ih (e + 1) n _ _ (by omega) (by omega) (qa_Iv_lo ha hb (by omega) hD z h I) k0 k1 k2 k3)))) (fun z => br_t rfl (nm_r (nI_1 e) (ih (e + 1) n r _ (by omega) (by omega) (qa_Iv_ge hD (fun w => absurd w z) I) k0 k1 k2 k3)))
theorem qx_cs37 {post : Int32 → SX → Prop} {J23 : _} {a : Nat} (W : qa_W rl vw vl rm h0 h1 c K L R) (A : qa_A 8 c K L R ac ak al ar) (ha : a < 5)
    (pp : ∀ r im2, qa_Iv (c 0) (K 0) (L 0) (R 0) (qa_Dx (a + 1) 0 0) r → im2 0 = 0 → im2 1 = 1 → J23 (nI r) (nI (a + 1)) ac ak al ar lk im2 le gr) :
    ∀ d b n r (im : Nat → Int32), b + d = 5 → d < n → qa_Iv (c 0) (K 0) (L 0) (R 0) (qa_Dx a b 0) r → im 0 = 0 → im 1 = 1 → im 2 = nI a →
      wX_coreSize_37 post J23 (nI a) fr fv fl fm f0 f1 n (nI r) (nI b) ac ak al ar lk im le gr := by
  intro d
  induction d with
  | zero =>
    intro b n r im he hn I i0 i1 i2
    obtain ⟨n, rfl⟩ : ∃ m, n = m + 1 := ⟨n - 1, by omega⟩
    refine br_t (nI_le (a := 5) (by omega) (by omega)) (nm_r (nI_1 a) (pp r im (qa_Iv_w (fun x y z h => ?_) I) i0 i1))
    unfold qa_Dx at *
    omega
  | succ d ih =>
    intro b n r im he hn I i0 i1 i2
    obtain ⟨n, rfl⟩ : ∃ m, n = m + 1 := ⟨n - 1, by omega⟩
    refine br_f (nI_ge (b := 5) (by omega) (by decide)) (nm_e ⟨6, ?_⟩)
    exact qx_cs52 W A ha (by omega) (fun r2 im2 I2 j0 j1 j2 => ih (b + 1) n r2 im2 (by omega) (by omega) I2 j0 j1 j2) 5 0 6 r _ (by omega) (by omega) I ((pk_un (by decide)).trans i0) ((pk_un (by decide)).trans i1) ((pk_un (by decide)).trans i2) pk_us
theorem qx_cs23 {post : Int32 → SX → Prop} (W : qa_W rl vw vl rm h0 h1 c K L R) (A : qa_A 8 c K L R ac ak al ar)
    (pp : ∀ r im2, qa_Iv (c 0) (K 0) (L 0) (R 0) (qa_Dx 5 0 0) r → post (nI r) (fr, fv, fl, fm, f0, f1, ac, ak, al, ar, lk, im2, le, gr)) :
    ∀ d a n r (im : Nat → Int32), a + d = 5 → d < n → qa_Iv (c 0) (K 0) (L 0) (R 0) (qa_Dx a 0 0) r → im 0 = 0 → im 1 = 1 →
      wX_coreSize_23 post fr fv fl fm f0 f1 n (nI r) (nI a) ac ak al ar lk im le gr := by
  intro d
  induction d with
  | zero =>
    intro a n r im he hn I i0 i1
    obtain ⟨n, rfl⟩ : ∃ m, n = m + 1 := ⟨n - 1, by omega⟩
    have e : a = 5 := by omega
    subst e
    exact br_t (nI_le (a := 5) (by omega) (by omega)) (pp r im I)
  | succ d ih =>
    intro a n r im he hn I i0 i1
    obtain ⟨n, rfl⟩ : ∃ m, n = m + 1 := ⟨n - 1, by omega⟩
    refine br_f (nI_ge (b := 5) (by omega) (by decide)) (nm_e ⟨6, ?_⟩)
    exact qx_cs37 W A (by omega) (fun r2 im2 I2 j0 j1 => ih (a + 1) n r2 im2 (by omega) (by omega) I2 j0 j1) 5 0 6 r _ (by omega) (by omega) I ((pk_un (by decide)).trans i0) ((pk_un (by decide)).trans i1) pk_us
theorem qx_coreSize {post : Int32 → SX → Prop} (W : qa_W rl vw vl rm h0 h1 c K L R) (A : qa_A 8 c K L R ac ak al ar)
    (pp : ∀ r im2, qa_Iv (c 0) (K 0) (L 0) (R 0) (qa_Dx 5 0 0) r → post (nI r) (fr, fv, fl, fm, f0, f1, ac, ak, al, ar, lk, im2, le, gr)) : wpX_coreSize post (fr, fv, fl, fm, f0, f1, ac, ak, al, ar, lk, im, le, gr) := by
  refine nm_r (e' := nI (c 0)) (A 0 (by decide)).1 (nm_e (nm_e ⟨6, ?_⟩))
  refine qx_cs23 W A pp 5 0 6 (c 0) _ (by omega) (by omega) (qa_Iv_0 (fun x y z h => ?_)) ((pk_un (by decide)).trans pk_us) pk_us
  unfold qa_Dx at h
  omega
end
end
section
/-! the reference's carried, vouch, matches, spread -/
section
variable {rl vw vl rm h0 h1 : Nat} {c : Nat → Nat} {K L R : Nat → Nat → Nat} {yr yv yl ym y0 y1 yt : Int32} {bc bk bx bw bf bg : Nat → Int32}
/-- a section of the reference's arrays as a set -/
def qa_S (bc bk bx bw : Nat → Int32) (s m : Nat) (K L R : Nat → Nat) : Prop :=
  bc s = nI m ∧ m ≤ 24 ∧ ∀ j, j < m → (bk (s * 24 + j) = nI (K j) ∧ bx (s * 24 + j) = nI (L j) ∧ bw (s * 24 + j) = nI (R j)) ∧ (K j < 1000 ∧ L j < 1000 ∧ R j < 1000)
theorem qa_S_A (W : qa_W rl vw vl rm h0 h1 c K L R) (B : qa_A 24 c K L R bc bk bx bw) {s : Nat} (hs : s < 6) : qa_S bc bk bx bw s (c s) (K s) (L s) (R s) :=
  ⟨(B s hs).1, Nat.le_trans (qa_W_c W hs) (by decide), fun j hj => ⟨(B s hs).2 j hj, qa_W_1000 W hs j hj⟩⟩
theorem qy_ca5 {post : Int32 → Prop} {s t m m' T : Nat} {K L R K' L' R' : Nat → Nat} {g : Nat → Nat} (hs : s < 7) (ht : t < 7) (S : qa_S bc bk bx bw s m K L R) (S' : qa_S bc bk bx bw t m' K' L' R') (hT : T ≤ 5) (hL : ∀ j, j < m → L j < T ∧ R j < T)
    (hg : ∀ v, v < T → bf v = nI (g v) ∧ g v < 1000) :
    ∀ d j n, j + d = m → d < n → ((∀ i, j ≤ i → i < m → qa_In m' K' L' R' (K i) (g (L i)) (g (R i))) → post 1) → ((¬ ∀ i, j ≤ i → i < m → qa_In m' K' L' R' (K i) (g (L i)) (g (R i))) → post 0) →
      wY_carried_5 post (nI s) (nI t) yr yv yl ym y0 y1 yt bc bk bx bw bf bg n (nI (s * 24 + j)) := by
  obtain ⟨c1, c2, c3⟩ := S
  obtain ⟨c1', c2', c3'⟩ := S'
  have hins : vp_in (nI s) 7 := vp_in_nI (by omega) (by omega)
  have hend : nI s * 24 + bc (nI s).toNatClampNeg = nI (s * 24 + m) := by
    rw [nI_clamp (by omega), c1, show nI s * 24 = nI (s * 24) from pk_mul s 24, nI_add]
  intro d
  induction d with
  | zero =>
    intro j n hj hn p1 p0
    obtain ⟨n, rfl⟩ : ∃ m, n = m + 1 := ⟨n - 1, by omega⟩
    exact ⟨hins, br_t (by rw [hend]; exact nI_le (by omega) (by omega)) (p1 (fun i h1 h2 => absurd h1 (by omega)))⟩
  | succ d ih =>
    intro j n hj hn p1 p0
    obtain ⟨n, rfl⟩ : ∃ m, n = m + 1 := ⟨n - 1, by omega⟩
    obtain ⟨⟨e1, e2, e3⟩, b1, b2, b3⟩ := c3 j (by omega)
    obtain ⟨l1, l2⟩ := hL j (by omega)
    obtain ⟨g1, g2⟩ := hg _ l1
    obtain ⟨g3, g4⟩ := hg _ l2
    have hcl : (nI (s * 24 + j)).toNatClampNeg = s * 24 + j := nI_clamp (by omega)
    have hin : vp_in (nI (s * 24 + j)) 168 := vp_in_nI (by omega) (by omega)
    refine ⟨hins, br_f (by rw [hend]; exact nI_ge (by omega) (by omega)) ⟨hin, hin, ?_⟩⟩
    rw [hcl, e1, e2, e3, nI_clamp (show L j < 2 ^ 31 by omega), nI_clamp (show R j < 2 ^ 31 by omega), g1, g3]
    refine ⟨vp_in_nI (by omega) (by omega), hin, vp_in_nI (by omega) (by omega), ?_⟩
    refine qy_find ht c2' c1' (fun j hj => (c3' j hj).1) (fun j hj => (c3' j hj).2) b1 g2 g4 (fun i hi => br_t (nI_pos' ?_) (nm_r (qn_s _ _) (ih (j + 1) n (by omega) (by omega) (fun z => p1 (fun i' q1 q2 => ?_)) (fun z => p0 (fun q => z (fun i' q1 q2 => q i' (by omega) q2)))))) (fun hn => br_f (by decide) (p0 (fun q => qa_fd_nin hn (q j (by omega) (by omega)))))
    · have := (qa_fd_some _ _ _ hi).2.1
      omega
    · by_cases e : i' = j
      · subst e; exact qa_in_fd hi
      · exact z i' (by omega) q2
theorem qy_carried {post : Int32 → Prop} {s t m m' T : Nat} {K L R K' L' R' : Nat → Nat} {g : Nat → Nat} (hs : s < 7) (ht : t < 7) (S : qa_S bc bk bx bw s m K L R) (S' : qa_S bc bk bx bw t m' K' L' R') (hT : T ≤ 5) (hL : ∀ j, j < m → L j < T ∧ R j < T)
    (hg : ∀ v, v < T → bf v = nI (g v) ∧ g v < 1000) (p1 : qa_Ca m K L R (qa_In m' K' L' R') g → post 1) (p0 : ¬ qa_Ca m K L R (qa_In m' K' L' R') g → post 0) :
    wpY_carried post (yr, yv, yl, ym, y0, y1, yt, bc, bk, bx, bw, bf, bg) (nI s) (nI t) :=
  nm_r (pk_mul s 24) ⟨m + 1, qy_ca5 hs ht S S' hT hL hg m 0 (m + 1) (by omega) (by omega) (fun z => p1 (fun j hj => z j (Nat.zero_le _) hj)) (fun z => p0 (fun q => z (fun i _ h2 => q i h2)))⟩
/-! vouch -/
theorem qy_vo58 {post : SY → Prop} {v p q b n0 : Nat} {F : Nat → Nat → Nat → Prop} (W : qa_W rl vw vl rm h0 h1 c K L R) (hv : v < 3) (hp : p < 900) (hq : q < 900) (hb : b < 900) (hn0 : n0 + c (3 + v) ≤ 24)
    (f0 : bf 0 = nI p) (f1 : bf 1 = nI q) (f2 : bf 2 = nI b) (f3 : bf 3 = nI (b + 1))
    (pp : ∀ bc2 bk2 bx2 bw2, qa_A 24 c K L R bc2 bk2 bx2 bw2 → qa_YF bc2 bk2 bx2 bw2 (n0 + c (3 + v)) (fun k x y => F k x y ∨ qa_G (c (3 + v)) (K (3 + v)) (L (3 + v)) (R (3 + v)) p q b k x y) → post (yr, yv, yl, ym, y0, y1, yt, bc2, bk2, bx2, bw2, bf, bg)) :
    ∀ d j n (bc bk bx bw : Nat → Int32), j + d = c (3 + v) → d < n → qa_A 24 c K L R bc bk bx bw → qa_YF bc bk bx bw (n0 + j) (fun k x y => F k x y ∨ qa_G j (K (3 + v)) (L (3 + v)) (R (3 + v)) p q b k x y) →
      wY_vouch_58 post (nI v) (nI ((3 + v) * 24)) n (nI ((3 + v) * 24 + j)) yr yv yl ym y0 y1 yt bc bk bx bw bf bg := by
  have hf : ∀ x, x < 4 → bf x = nI (qa_tf p q b x) ∧ qa_tf p q b x < 1000 := fun x hx =>
    match x, hx with
    | 0, _ => ⟨f0, (by omega : p < 1000)⟩
    | 1, _ => ⟨f1, (by omega : q < 1000)⟩
    | 2, _ => ⟨f2, (by omega : b < 1000)⟩
    | 3, _ => ⟨f3, (by omega : b + 1 < 1000)⟩
  intro d
  induction d with
  | zero =>
    intro j n bc bk bx bw hj hn B Y
    obtain ⟨n, rfl⟩ : ∃ m, n = m + 1 := ⟨n - 1, by omega⟩
    have e : j = c (3 + v) := by omega
    subst e
    refine ⟨by rw [qn_3]; exact vp_in_nI (by omega) (by omega), br_t ?_ (pp bc bk bx bw B Y)⟩
    rw [qn_3, nI_clamp (by omega), (B (3 + v) (by omega)).1, nI_add]
    exact nI_le (by omega) (by omega)
  | succ d ih =>
    intro j n bc bk bx bw hj hn B Y
    obtain ⟨n, rfl⟩ : ∃ m, n = m + 1 := ⟨n - 1, by omega⟩
    obtain ⟨e1, e2, e3⟩ := (B (3 + v) (by omega)).2 j (by omega)
    obtain ⟨b1, b2, b3⟩ := qa_W_v W v hv j (by omega)
    obtain ⟨g1, g2⟩ := hf _ b2
    obtain ⟨g3, g4⟩ := hf _ b3
    have hcl : (nI ((3 + v) * 24 + j)).toNatClampNeg = (3 + v) * 24 + j := nI_clamp (by omega)
    have hin : vp_in (nI ((3 + v) * 24 + j)) 168 := vp_in_nI (by omega) (by omega)
    refine ⟨by rw [qn_3]; exact vp_in_nI (by omega) (by omega), br_f ?_ ⟨hin, hin, ?_⟩⟩
    · rw [qn_3, nI_clamp (by omega), (B (3 + v) (by omega)).1, nI_add]
      exact nI_ge (by omega) (by omega)
    · rw [hcl, e1, e2, e3, nI_clamp (show L (3 + v) j < 2 ^ 31 by omega), nI_clamp (show R (3 + v) j < 2 ^ 31 by omega), g1, g3]
      refine ⟨vp_in_nI (by omega) (by omega), hin, vp_in_nI (by omega) (by omega), ?_⟩
      refine qy_add (s := 6) (m := n0 + j) (by decide) (by omega) Y.1 (nm_r (qn_s _ _) (ih (j + 1) n _ _ _ _ (by omega) (by omega) (qa_A_6 (qa_W_8 W) B) (qa_YF_add (by omega) g2 g4 Y (fun k x y => ?_))))
      rw [qa_G_s]
      exact or_assoc.symm
theorem qy_vouch {post : SY → Prop} {v p q b n0 : Nat} {F F' : Nat → Nat → Nat → Prop} (W : qa_W rl vw vl rm h0 h1 c K L R) (B : qa_A 24 c K L R bc bk bx bw) (hv : v < 3) (hp : p < 900) (hq : q < 900) (hb : b < 900) (hn0 : n0 + c (3 + v) ≤ 24)
    (Y : qa_YF bc bk bx bw n0 F) (hF : ∀ k x y, F' k x y ↔ (F k x y ∨ qa_G (c (3 + v)) (K (3 + v)) (L (3 + v)) (R (3 + v)) p q b k x y))
    (pp : ∀ bc2 bk2 bx2 bw2 bf2, qa_A 24 c K L R bc2 bk2 bx2 bw2 → qa_YF bc2 bk2 bx2 bw2 (n0 + c (3 + v)) F' → post (yr, yv, yl, ym, y0, y1, nI (b + 2), bc2, bk2, bx2, bw2, bf2, bg)) :
    wpY_vouch post (yr, yv, yl, ym, y0, y1, nI b, bc, bk, bx, bw, bf, bg) (nI v) (nI p) (nI q) := by
  refine nm_e (nm_e (nm_e (nm_r (by rw [nI_1]) (nm_r (nI_add b 2) (nm_r (e' := nI ((3 + v) * 24)) (by rw [qn_3]; exact pk_mul (3 + v) 24) ⟨c (3 + v) + 1, ?_⟩)))))
  refine qy_vo58 W hv hp hq hb hn0 ?_ ?_ ?_ ?_ (fun bc2 bk2 bx2 bw2 B2 Y2 => pp bc2 bk2 bx2 bw2 _ B2 (qa_YF_cg Y2 hF)) (c (3 + v)) 0 (c (3 + v) + 1) bc bk bx bw (by omega) (by omega) B (qa_YF_cg Y (fun k x y => ?_))
  · rw [pk_un (by decide), pk_un (by decide), pk_un (by decide), pk_us]
  · rw [pk_un (by decide), pk_un (by decide), pk_us]
  · rw [pk_un (by decide), pk_us]
  · rw [pk_us]
  · exact ⟨fun z => z.elim id (fun q => absurd q qa_G_0), Or.inl⟩
/-! matches -/
theorem qy_m39 {post : Int32 → SY → Prop} {J16 J27 : _} {p q T a b m' : Nat} {K' L' R' : Nat → Nat} (W : qa_W rl vw vl rm h0 h1 c K L R) (B : qa_A 24 c K L R bc bk bx bw) (S : qa_S bc bk bx bw 6 m' K' L' R') (hT : T < 900) (hp : p < 900) (hq : q < 900) (ha : a < T) (hb : b < T) :
    ∀ d e n (bf : Nat → Int32), e + d = T → d < n → bf 0 = nI p → bf 1 = nI q →
      (qa_E3 (fun a b e => qa_Ca (c 0) (K 0) (L 0) (R 0) (qa_In m' K' L' R') (qa_g5 p q a b e)) T a b e → ∀ bf2, post 1 (yr, yv, yl, ym, y0, y1, nI T, bc, bk, bx, bw, bf2, bg)) →
      (¬ qa_E3 (fun a b e => qa_Ca (c 0) (K 0) (L 0) (R 0) (qa_In m' K' L' R') (qa_g5 p q a b e)) T a b e → ∀ bf2, bf2 0 = nI p → bf2 1 = nI q → J27 (nI (b + 1)) bc bk bx bw bf2 bg) →
      wY_matches_39 post J16 J27 (nI a) (nI b) yr yv yl ym y0 y1 (nI T) n (nI e) bc bk bx bw bf bg := by
  have hL : ∀ j, j < c 0 → L 0 j < 5 ∧ R 0 j < 5 := fun j hj => (qa_W_b W (by decide) j hj).2
  intro d
  induction d with
  | zero =>
    intro e n bf he hn i0 i1 p1 p0
    obtain ⟨n, rfl⟩ : ∃ m, n = m + 1 := ⟨n - 1, by omega⟩
    exact br_t (nI_le (by omega) (by omega)) (nm_r (nI_1 b) (p0 (qa_ex_no (by omega)) bf i0 i1))
  | succ d ih =>
    intro e n bf he hn i0 i1 p1 p0
    obtain ⟨n, rfl⟩ : ∃ m, n = m + 1 := ⟨n - 1, by omega⟩
    have k0 : upd (upd (upd bf 2 (nI a)) 3 (nI b)) 4 (nI e) 0 = nI p := by rw [pk_un (by decide), pk_un (by decide), pk_un (by decide)]; exact i0
    have k1 : upd (upd (upd bf 2 (nI a)) 3 (nI b)) 4 (nI e) 1 = nI q := by rw [pk_un (by decide), pk_un (by decide), pk_un (by decide)]; exact i1
    have k2 : upd (upd (upd bf 2 (nI a)) 3 (nI b)) 4 (nI e) 2 = nI a := by rw [pk_un (by decide), pk_un (by decide), pk_us]
    have k3 : upd (upd (upd bf 2 (nI a)) 3 (nI b)) 4 (nI e) 3 = nI b := by rw [pk_un (by decide), pk_us]
    have hg : ∀ w, w < 5 → upd (upd (upd bf 2 (nI a)) 3 (nI b)) 4 (nI e) w = nI (qa_g5 p q a b e w) ∧ qa_g5 p q a b e w < 1000 := qa_5 ⟨k0, (by omega : p < 1000)⟩ ⟨k1, (by omega : q < 1000)⟩ ⟨k2, (by omega : a < 1000)⟩ ⟨k3, (by omega : b < 1000)⟩ ⟨pk_us, (by omega : e < 1000)⟩
    refine br_f (nI_ge (by omega) (by omega)) (nm_e (nm_e (nm_e ?_)))
    refine qy_carried (s := 0) (t := 6) (by decide) (by decide) (qa_S_A W B (by decide)) S (Nat.le_refl 5) hL hg (fun z => br_f qn_10 (p1 ⟨e, Nat.le_refl _, by omega, z⟩ _)) (fun z => br_t rfl (nm_r (nI_1 e) (ih (e + 1) n _ (by omega) (by omega) k0 k1 (fun w => p1 ((qa_ex_s (by omega)).mpr (Or.inr w))) (fun w => p0 (fun y => ?_)))))
    rcases (qa_ex_s (by omega)).mp y with y | y
    · exact z y
    · exact w y
theorem qy_m27 {post : Int32 → SY → Prop} {J16 : _} {p q T a m' : Nat} {K' L' R' : Nat → Nat} (W : qa_W rl vw vl rm h0 h1 c K L R) (B : qa_A 24 c K L R bc bk bx bw) (S : qa_S bc bk bx bw 6 m' K' L' R') (hT : T < 900) (hp : p < 900) (hq : q < 900) (ha : a < T) :
    ∀ d b n (bf : Nat → Int32), b + d = T → d < n → bf 0 = nI p → bf 1 = nI q →
      (qa_E2 (fun a b e => qa_Ca (c 0) (K 0) (L 0) (R 0) (qa_In m' K' L' R') (qa_g5 p q a b e)) T a b → ∀ bf2, post 1 (yr, yv, yl, ym, y0, y1, nI T, bc, bk, bx, bw, bf2, bg)) →
      (¬ qa_E2 (fun a b e => qa_Ca (c 0) (K 0) (L 0) (R 0) (qa_In m' K' L' R') (qa_g5 p q a b e)) T a b → ∀ bf2, bf2 0 = nI p → bf2 1 = nI q → J16 (nI (a + 1)) bc bk bx bw bf2 bg) →
      wY_matches_27 post J16 (nI a) yr yv yl ym y0 y1 (nI T) n (nI b) bc bk bx bw bf bg := by
  intro d
  induction d with
  | zero =>
    intro b n bf he hn i0 i1 p1 p0
    obtain ⟨n, rfl⟩ : ∃ m, n = m + 1 := ⟨n - 1, by omega⟩
    exact br_t (nI_le (by omega) (by omega)) (nm_r (nI_1 a) (p0 (qa_ex_no (by omega)) bf i0 i1))
  | succ d ih =>
    intro b n bf he hn i0 i1 p1 p0
    obtain ⟨n, rfl⟩ : ∃ m, n = m + 1 := ⟨n - 1, by omega⟩
    refine br_f (nI_ge (by omega) (by omega)) ⟨T + 1, ?_⟩
    refine qy_m39 W B S hT hp hq ha (by omega) T 0 (T + 1) bf (by omega) (by omega) i0 i1 (fun w => p1 ((qa_ex_s (by omega)).mpr (Or.inl w))) (fun w bf2 j0 j1 => ih (b + 1) n bf2 (by omega) (by omega) j0 j1 (fun y => p1 ((qa_ex_s (by omega)).mpr (Or.inr y))) (fun y => p0 (fun x => ?_)))
    rcases (qa_ex_s (by omega)).mp x with x | x
    · exact w x
    · exact y x
theorem qy_m16 {post : Int32 → SY → Prop} {p q T m' : Nat} {K' L' R' : Nat → Nat} (W : qa_W rl vw vl rm h0 h1 c K L R) (B : qa_A 24 c K L R bc bk bx bw) (S : qa_S bc bk bx bw 6 m' K' L' R') (hT : T < 900) (hp : p < 900) (hq : q < 900) :
    ∀ d a n (bf : Nat → Int32), a + d = T → d < n → bf 0 = nI p → bf 1 = nI q →
      (qa_E1 (fun a b e => qa_Ca (c 0) (K 0) (L 0) (R 0) (qa_In m' K' L' R') (qa_g5 p q a b e)) T a → ∀ bf2, post 1 (yr, yv, yl, ym, y0, y1, nI T, bc, bk, bx, bw, bf2, bg)) →
      (¬ qa_E1 (fun a b e => qa_Ca (c 0) (K 0) (L 0) (R 0) (qa_In m' K' L' R') (qa_g5 p q a b e)) T a → ∀ bf2, post 0 (yr, yv, yl, ym, y0, y1, nI T, bc, bk, bx, bw, bf2, bg)) →
      wY_matches_16 post yr yv yl ym y0 y1 (nI T) n (nI a) bc bk bx bw bf bg := by
  intro d
  induction d with
  | zero =>
    intro a n bf he hn i0 i1 p1 p0
    obtain ⟨n, rfl⟩ : ∃ m, n = m + 1 := ⟨n - 1, by omega⟩
    exact br_t (nI_le (by omega) (by omega)) (p0 (qa_ex_no (by omega)) bf)
  | succ d ih =>
    intro a n bf he hn i0 i1 p1 p0
    obtain ⟨n, rfl⟩ : ∃ m, n = m + 1 := ⟨n - 1, by omega⟩
    refine br_f (nI_ge (by omega) (by omega)) ⟨T + 1, ?_⟩
    refine qy_m27 W B S hT hp hq (by omega) T 0 (T + 1) bf (by omega) (by omega) i0 i1 (fun w => p1 ((qa_ex_s (by omega)).mpr (Or.inl w))) (fun w bf2 j0 j1 => ih (a + 1) n bf2 (by omega) (by omega) j0 j1 (fun y => p1 ((qa_ex_s (by omega)).mpr (Or.inr y))) (fun y => p0 (fun x => ?_)))
    rcases (qa_ex_s (by omega)).mp x with x | x
    · exact w x
    · exact y x
theorem qy_matches {post : Int32 → SY → Prop} {p q T n0 : Nat} {F : Nat → Nat → Nat → Prop} (W : qa_W rl vw vl rm h0 h1 c K L R) (B : qa_A 24 c K L R bc bk bx bw) (Y : qa_YF bc bk bx bw n0 F) (hn0 : n0 ≤ 24) (hT : T < 900) (hp : p < T) (hq : q < T)
    (p1 : qa_Mt (c 0) (K 0) (L 0) (R 0) F T p q → ∀ bf2, post 1 (yr, yv, yl, ym, y0, y1, nI T, bc, bk, bx, bw, bf2, bg)) (p0 : ¬ qa_Mt (c 0) (K 0) (L 0) (R 0) F T p q → ∀ bf2, post 0 (yr, yv, yl, ym, y0, y1, nI T, bc, bk, bx, bw, bf2, bg)) :
    wpY_matches post (yr, yv, yl, ym, y0, y1, nI T, bc, bk, bx, bw, bf, bg) (nI p) (nI q) := by
  have hL : ∀ j, j < c 0 → L 0 j < 5 ∧ R 0 j < 5 := fun j hj => (qa_W_b W (by decide) j hj).2
  obtain ⟨y1, K', L', R', y2, y3⟩ := Y
  have S : qa_S bc bk bx bw 6 n0 K' L' R' := ⟨y1, hn0, fun j hj => ⟨⟨(y2 j hj).1, (y2 j hj).2.1, (y2 j hj).2.2.1⟩, (y2 j hj).2.2.2⟩⟩
  have eF : F = qa_In n0 K' L' R' := funext fun k => funext fun x => funext fun y => propext (y3 k x y)
  subst eF
  refine nm_e (nm_e ⟨T + 1, ?_⟩)
  exact qy_m16 W B S hT (by omega) (by omega) T 0 (T + 1) _ (by omega) (by omega) ((pk_un (by decide)).trans pk_us) pk_us (fun z => p1 ((qa_M3 hL hp hq).mpr z)) (fun z => p0 (fun w => z ((qa_M3 hL hp hq).mp w)))
/-! spread -/
theorem qy_sp4 {post : SY → Prop} {code : Nat} (hc : code < 3125) (pp : ∀ bf2 bg2, (∀ v, v < 5 → bf2 v = nI (qa_dg code v) ∧ bg2 v = nI (qa_dg code v)) → post (yr, yv, yl, ym, y0, y1, yt, bc, bk, bx, bw, bf2, bg2)) :
    ∀ d i n (bf bg : Nat → Int32), i + d = 5 → d < n → (∀ v, v < i → bf v = nI (qa_dg code v) ∧ bg v = nI (qa_dg code v)) → wY_spread_4 post yr yv yl ym y0 y1 yt n (nI (code / 5 ^ i)) (nI i) bc bk bx bw bf bg := by
  have h5 : ¬ (5 : Int32) = 0 := by decide
  intro d
  induction d with
  | zero =>
    intro i n bf bg hi hn hz
    obtain ⟨n, rfl⟩ : ∃ m, n = m + 1 := ⟨n - 1, by omega⟩
    exact br_t (nI_le (a := 5) (by omega) (by omega)) (pp bf bg (fun v hv => hz v (by omega)))
  | succ d ih =>
    intro i n bf bg hi hn hz
    obtain ⟨n, rfl⟩ : ∃ m, n = m + 1 := ⟨n - 1, by omega⟩
    have hcl : (nI i).toNatClampNeg = i := nI_clamp (by omega)
    have hin : vp_in (nI i) 5 := vp_in_nI (by omega) (by omega)
    have hlt : code / 5 ^ i < 2 ^ 31 := Nat.lt_of_le_of_lt (Nat.div_le_self _ _) (by omega)
    have erem : nI (code / 5 ^ i) - nI (code / 5 ^ i) / 5 * 5 = nI (qa_dg code i) := pk_rem (d := 5) hlt (by decide) (by decide)
    have ediv : nI (code / 5 ^ i) / 5 = nI (code / 5 ^ (i + 1)) := by
      have e := pk_div (a := code / 5 ^ i) (d := 5) hlt (by decide) (by decide)
      rw [Nat.div_div_eq_div_mul, ← Nat.pow_succ] at e
      exact e
    refine br_f (nI_ge (b := 5) (by omega) (by decide)) ⟨h5, hin, nm_r (e' := upd bf i (nI (qa_dg code i))) (by rw [hcl, erem]) ⟨hin, hin, nm_r (e' := upd bg i (nI (qa_dg code i))) (by rw [hcl, pk_us]) ⟨h5, nm_r ediv (nm_r (nI_1 i) (ih (i + 1) n _ _ (by omega) (by omega) (fun v hv => ?_)))⟩⟩⟩
    by_cases e : v = i
    · subst e; exact ⟨pk_us, pk_us⟩
    · rw [pk_un e, pk_un e]; exact hz v (by omega)
theorem qy_spread {post : SY → Prop} {code : Nat} (hc : code < 3125) (pp : ∀ bf2 bg2, (∀ v, v < 5 → bf2 v = nI (qa_dg code v) ∧ bg2 v = nI (qa_dg code v)) → post (yr, yv, yl, ym, y0, y1, yt, bc, bk, bx, bw, bf2, bg2)) : wpY_spread post (yr, yv, yl, ym, y0, y1, yt, bc, bk, bx, bw, bf, bg) (nI code) := by
  refine ⟨6, ?_⟩
  have := qy_sp4 (yr := yr) (yv := yv) (yl := yl) (ym := ym) (y0 := y0) (y1 := y1) (yt := yt) (bc := bc) (bk := bk) (bx := bx) (bw := bw) hc pp 5 0 6 bf bg (by omega) (by omega) (fun v hv => absurd hv (Nat.not_lt_zero v))
  rw [Nat.pow_zero, Nat.div_one] at this
  exact this
end
end
section
/-! the reference's questions -/
section
variable {rl vw vl rm h0 h1 : Nat} {c : Nat → Nat} {K L R : Nat → Nat → Nat} {yr yv yl ym y0 y1 yt : Int32} {bc bk bx bw bf bg : Nat → Int32}
theorem qa_W_3 (W : qa_W rl vw vl rm h0 h1 c K L R) : ∀ v, v < 3 → c (3 + v) ≤ 3 := by
  intro v hv
  have := (W.2.2.2.2.2.2 (3 + v) (by omega)).1
  rw [qa_lm_3 (by omega)] at this
  exact this
theorem qy_ce46 {post : Int32 → SY → Prop} {mask : Int32} {a b : Nat} (W : qa_W rl vw vl rm h0 h1 c K L R) (ha : a < vl) (hb : b < vl)
    (p1 : qa_Mt (c 0) (K 0) (L 0) (R 0) (qa_FX c K L R (qa_on mask (K 2)) (K 2) (L 2) (R 2) (fun i => vl + 2 * qa_rk (qa_on mask (K 2)) i) (c 2)) (vl + 2 * qa_rk (qa_on mask (K 2)) (c 2)) a b → ∀ yt2 bc2 bk2 bx2 bw2 bf2, qa_A 24 c K L R bc2 bk2 bx2 bw2 → post 1 (nI rl, nI vw, nI vl, nI rm, nI h0, nI h1, yt2, bc2, bk2, bx2, bw2, bf2, bg))
    (p0 : ¬ qa_Mt (c 0) (K 0) (L 0) (R 0) (qa_FX c K L R (qa_on mask (K 2)) (K 2) (L 2) (R 2) (fun i => vl + 2 * qa_rk (qa_on mask (K 2)) i) (c 2)) (vl + 2 * qa_rk (qa_on mask (K 2)) (c 2)) a b → ∀ yt2 bc2 bk2 bx2 bw2 bf2, qa_A 24 c K L R bc2 bk2 bx2 bw2 → post 0 (nI rl, nI vw, nI vl, nI rm, nI h0, nI h1, yt2, bc2, bk2, bx2, bw2, bf2, bg)) :
    ∀ d j n n0 (bc bk bx bw bf : Nat → Int32), j + d = c 2 → d < n → n0 ≤ 3 * j → qa_A 24 c K L R bc bk bx bw → qa_YF bc bk bx bw n0 (qa_FX c K L R (qa_on mask (K 2)) (K 2) (L 2) (R 2) (fun i => vl + 2 * qa_rk (qa_on mask (K 2)) i) j) →
      wY_certain_46 post mask (nI a) (nI b) n (nI (48 + j)) (nI rl) (nI vw) (nI vl) (nI rm) (nI h0) (nI h1) (nI (vl + 2 * qa_rk (qa_on mask (K 2)) j)) bc bk bx bw bf bg := by
  have hl := W.2.2.1.2
  have h8 := qa_W_8 W 2 (by decide)
  intro d
  induction d with
  | zero =>
    intro j n n0 bc bk bx bw bf hj hn h3 B Y
    obtain ⟨n, rfl⟩ : ∃ m, n = m + 1 := ⟨n - 1, by omega⟩
    have hrk := qa_rk_le (qa_on mask (K 2)) j
    have e : j = c 2 := by omega
    subst e
    refine br_t ?_ ?_
    · rw [(B 2 (by decide)).1, show (48 : Int32) + nI (c 2) = nI (48 + c 2) from nI_add 48 _]
      exact nI_le (by omega) (by omega)
    · exact qy_matches W B Y (by omega) (by omega) (by omega) (by omega) (fun z bf2 => p1 z _ bc bk bx bw bf2 B) (fun z bf2 => p0 z _ bc bk bx bw bf2 B)
  | succ d ih =>
    intro j n n0 bc bk bx bw bf hj hn h3 B Y
    obtain ⟨n, rfl⟩ : ∃ m, n = m + 1 := ⟨n - 1, by omega⟩
    have hrk := qa_rk_le (qa_on mask (K 2)) j
    obtain ⟨e1, e2, e3⟩ := (B 2 (by decide)).2 j (by omega)
    obtain ⟨b1, b2, b3⟩ := qa_W_b W (s := 2) (by decide) j (by omega)
    have hcl : (nI (48 + j)).toNatClampNeg = 2 * 24 + j := nI_clamp (by omega)
    have hin : vp_in (nI (48 + j)) 168 := vp_in_nI (by omega) (by omega)
    have hw := qa_W_3 W _ b1
    refine br_f ?_ ⟨hin, ?_⟩
    · rw [(B 2 (by decide)).1, show (48 : Int32) + nI (c 2) = nI (48 + c 2) from nI_add 48 _]
      exact nI_ge (by omega) (by omega)
    · rw [hcl, e1, e2, e3]
      refine ek_if (qa_on_t (V := K 2) (i := j)).symm (fun h => ⟨hin, hin, hin, ?_⟩) (fun h => nm_r (qn_s _ _) ?_)
      · refine qy_vouch W B b1 (by omega) (by omega) (by omega) (by omega) Y (fun k x y => qa_FX_t h) (fun bc2 bk2 bx2 bw2 bf2 B2 Y2 => nm_r (qn_s _ _) ?_)
        have := ih (j + 1) n _ bc2 bk2 bx2 bw2 bf2 (by omega) (by omega) (by omega) B2 Y2
        rw [show vl + 2 * qa_rk (qa_on mask (K 2)) (j + 1) = vl + 2 * qa_rk (qa_on mask (K 2)) j + 2 by rw [qa_rk_t h]; omega] at this
        exact this
      · have := ih (j + 1) n n0 bc bk bx bw bf (by omega) (by omega) (by omega) B (qa_YF_cg Y (fun k x y => qa_FX_f h))
        rw [qa_rk_f h] at this
        exact this
theorem qy_certain {post : Int32 → SY → Prop} {mask : Int32} {a b : Nat} (W : qa_W rl vw vl rm h0 h1 c K L R) (B : qa_A 24 c K L R bc bk bx bw) (ha : a < vl) (hb : b < vl)
    (p1 : qa_Mt (c 0) (K 0) (L 0) (R 0) (qa_FX c K L R (qa_on mask (K 2)) (K 2) (L 2) (R 2) (fun i => vl + 2 * qa_rk (qa_on mask (K 2)) i) (c 2)) (vl + 2 * qa_rk (qa_on mask (K 2)) (c 2)) a b → ∀ yt2 bc2 bk2 bx2 bw2 bf2, qa_A 24 c K L R bc2 bk2 bx2 bw2 → post 1 (nI rl, nI vw, nI vl, nI rm, nI h0, nI h1, yt2, bc2, bk2, bx2, bw2, bf2, bg))
    (p0 : ¬ qa_Mt (c 0) (K 0) (L 0) (R 0) (qa_FX c K L R (qa_on mask (K 2)) (K 2) (L 2) (R 2) (fun i => vl + 2 * qa_rk (qa_on mask (K 2)) i) (c 2)) (vl + 2 * qa_rk (qa_on mask (K 2)) (c 2)) a b → ∀ yt2 bc2 bk2 bx2 bw2 bf2, qa_A 24 c K L R bc2 bk2 bx2 bw2 → post 0 (nI rl, nI vw, nI vl, nI rm, nI h0, nI h1, yt2, bc2, bk2, bx2, bw2, bf2, bg)) :
    wpY_certain post (nI rl, nI vw, nI vl, nI rm, nI h0, nI h1, yt, bc, bk, bx, bw, bf, bg) mask (nI a) (nI b) := by
  have hl := W.2.2.1.2
  refine br_f (nI_pos (by omega)) (br_f (nI_ge ha (by omega)) (br_f (nI_pos (by omega)) (br_t (nI_lt hb (by omega)) (nm_e ⟨c 2 + 1, ?_⟩))))
  exact qy_ce46 W ha hb p1 p0 (c 2) 0 (c 2 + 1) 0 _ _ _ _ _ (by omega) (by omega) (by omega) (qa_A_c6 B) (qa_YF_0 pk_us (fun _ _ _ => qa_FX_0))
theorem qy_so16 {post : Int32 → SY → Prop} (W : qa_W rl vw vl rm h0 h1 c K L R)
    (p1 : qa_Mt (c 0) (K 0) (L 0) (R 0) (qa_FX c K L R (qa_on (-1) (K 1)) (K 1) (L 1) (R 1) (fun i => 5 + 2 * qa_rk (qa_on (-1) (K 1)) i) (c 1)) (5 + 2 * qa_rk (qa_on (-1) (K 1)) (c 1)) h0 h1 → ∀ yt2 bc2 bk2 bx2 bw2 bf2, qa_A 24 c K L R bc2 bk2 bx2 bw2 → post 1 (nI rl, nI vw, nI vl, nI rm, nI h0, nI h1, yt2, bc2, bk2, bx2, bw2, bf2, bg))
    (p0 : ¬ qa_Mt (c 0) (K 0) (L 0) (R 0) (qa_FX c K L R (qa_on (-1) (K 1)) (K 1) (L 1) (R 1) (fun i => 5 + 2 * qa_rk (qa_on (-1) (K 1)) i) (c 1)) (5 + 2 * qa_rk (qa_on (-1) (K 1)) (c 1)) h0 h1 → ∀ yt2 bc2 bk2 bx2 bw2 bf2, qa_A 24 c K L R bc2 bk2 bx2 bw2 → post 0 (nI rl, nI vw, nI vl, nI rm, nI h0, nI h1, yt2, bc2, bk2, bx2, bw2, bf2, bg)) :
    ∀ d j n n0 (bc bk bx bw bf : Nat → Int32), j + d = c 1 → d < n → n0 ≤ 3 * j → qa_A 24 c K L R bc bk bx bw → qa_YF bc bk bx bw n0 (qa_FX c K L R (qa_on (-1) (K 1)) (K 1) (L 1) (R 1) (fun i => 5 + 2 * qa_rk (qa_on (-1) (K 1)) i) j) →
      wY_sound_16 post n (nI (24 + j)) (nI rl) (nI vw) (nI vl) (nI rm) (nI h0) (nI h1) (nI (5 + 2 * qa_rk (qa_on (-1) (K 1)) j)) bc bk bx bw bf bg := by
  have hh0 := W.2.2.2.2.1
  have hh1 := W.2.2.2.2.2.1
  have h8 := qa_W_8 W 1 (by decide)
  intro d
  induction d with
  | zero =>
    intro j n n0 bc bk bx bw bf hj hn h3 B Y
    obtain ⟨n, rfl⟩ : ∃ m, n = m + 1 := ⟨n - 1, by omega⟩
    have hrk := qa_rk_le (qa_on (-1) (K 1)) j
    have e : j = c 1 := by omega
    subst e
    refine br_t ?_ ?_
    · rw [(B 1 (by decide)).1, show (24 : Int32) + nI (c 1) = nI (24 + c 1) from nI_add 24 _]
      exact nI_le (by omega) (by omega)
    · exact qy_matches W B Y (by omega) (by omega) (by omega) (by omega) (fun z bf2 => p1 z _ bc bk bx bw bf2 B) (fun z bf2 => p0 z _ bc bk bx bw bf2 B)
  | succ d ih =>
    intro j n n0 bc bk bx bw bf hj hn h3 B Y
    obtain ⟨n, rfl⟩ : ∃ m, n = m + 1 := ⟨n - 1, by omega⟩
    have hrk := qa_rk_le (qa_on (-1) (K 1)) j
    obtain ⟨e1, e2, e3⟩ := (B 1 (by decide)).2 j (by omega)
    obtain ⟨b1, b2, b3⟩ := qa_W_b W (s := 1) (by decide) j (by omega)
    have hcl : (nI (24 + j)).toNatClampNeg = 1 * 24 + j := nI_clamp (by omega)
    have hin : vp_in (nI (24 + j)) 168 := vp_in_nI (by omega) (by omega)
    have hw := qa_W_3 W _ b1
    have h : qa_on (-1) (K 1) j = true := qa_on_t.mpr ((by decide : ∀ v, v < 3 → ((-1 : Int32) >>> (nI v &&& 31)) &&& 1 = 1) _ b1)
    refine br_f ?_ ⟨hin, hin, hin, ?_⟩
    · rw [(B 1 (by decide)).1, show (24 : Int32) + nI (c 1) = nI (24 + c 1) from nI_add 24 _]
      exact nI_ge (by omega) (by omega)
    · rw [hcl, e1, e2, e3]
      refine qy_vouch W B b1 (by omega) (by omega) (by omega) (by omega) Y (fun k x y => qa_FX_t h) (fun bc2 bk2 bx2 bw2 bf2 B2 Y2 => nm_r (qn_s _ _) ?_)
      have := ih (j + 1) n _ bc2 bk2 bx2 bw2 bf2 (by omega) (by omega) (by omega) B2 Y2
      rw [show 5 + 2 * qa_rk (qa_on (-1) (K 1)) (j + 1) = 5 + 2 * qa_rk (qa_on (-1) (K 1)) j + 2 by rw [qa_rk_t h]; omega] at this
      exact this
theorem qy_sound {post : Int32 → SY → Prop} (W : qa_W rl vw vl rm h0 h1 c K L R) (B : qa_A 24 c K L R bc bk bx bw)
    (p1 : qa_Mt (c 0) (K 0) (L 0) (R 0) (qa_FX c K L R (qa_on (-1) (K 1)) (K 1) (L 1) (R 1) (fun i => 5 + 2 * qa_rk (qa_on (-1) (K 1)) i) (c 1)) (5 + 2 * qa_rk (qa_on (-1) (K 1)) (c 1)) h0 h1 → ∀ yt2 bc2 bk2 bx2 bw2 bf2, qa_A 24 c K L R bc2 bk2 bx2 bw2 → post 1 (nI rl, nI vw, nI vl, nI rm, nI h0, nI h1, yt2, bc2, bk2, bx2, bw2, bf2, bg))
    (p0 : ¬ qa_Mt (c 0) (K 0) (L 0) (R 0) (qa_FX c K L R (qa_on (-1) (K 1)) (K 1) (L 1) (R 1) (fun i => 5 + 2 * qa_rk (qa_on (-1) (K 1)) i) (c 1)) (5 + 2 * qa_rk (qa_on (-1) (K 1)) (c 1)) h0 h1 → ∀ yt2 bc2 bk2 bx2 bw2 bf2, qa_A 24 c K L R bc2 bk2 bx2 bw2 → post 0 (nI rl, nI vw, nI vl, nI rm, nI h0, nI h1, yt2, bc2, bk2, bx2, bw2, bf2, bg)) :
    wpY_sound post (nI rl, nI vw, nI vl, nI rm, nI h0, nI h1, yt, bc, bk, bx, bw, bf, bg) := by
  refine nm_e ⟨c 1 + 1, ?_⟩
  exact qy_so16 W p1 p0 (c 1) 0 (c 1 + 1) 0 _ _ _ _ _ (by omega) (by omega) (by omega) (qa_A_c6 B) (qa_YF_0 pk_us (fun _ _ _ => qa_FX_0))
theorem qy_re15 {post : Int32 → SY → Prop} {mask : Int32} (W : qa_W rl vw vl rm h0 h1 c K L R)
    (p1 : qa_Mt (c 0) (K 0) (L 0) (R 0) (qa_FX c K L R (qa_on mask (fun i => i)) (fun i => i) (fun _ => 0) (fun _ => 0) (fun i => 1 + 2 * qa_rk (qa_on mask (fun i => i)) i) vw) (1 + 2 * qa_rk (qa_on mask (fun i => i)) vw) 0 0 → ∀ yt2 bc2 bk2 bx2 bw2 bf2, qa_A 24 c K L R bc2 bk2 bx2 bw2 → post 1 (nI rl, nI vw, nI vl, nI rm, nI h0, nI h1, yt2, bc2, bk2, bx2, bw2, bf2, bg))
    (p0 : ¬ qa_Mt (c 0) (K 0) (L 0) (R 0) (qa_FX c K L R (qa_on mask (fun i => i)) (fun i => i) (fun _ => 0) (fun _ => 0) (fun i => 1 + 2 * qa_rk (qa_on mask (fun i => i)) i) vw) (1 + 2 * qa_rk (qa_on mask (fun i => i)) vw) 0 0 → ∀ yt2 bc2 bk2 bx2 bw2 bf2, qa_A 24 c K L R bc2 bk2 bx2 bw2 → post 0 (nI rl, nI vw, nI vl, nI rm, nI h0, nI h1, yt2, bc2, bk2, bx2, bw2, bf2, bg)) :
    ∀ d j n n0 (bc bk bx bw bf : Nat → Int32), j + d = vw → d < n → n0 ≤ 3 * j → qa_A 24 c K L R bc bk bx bw → qa_YF bc bk bx bw n0 (qa_FX c K L R (qa_on mask (fun i => i)) (fun i => i) (fun _ => 0) (fun _ => 0) (fun i => 1 + 2 * qa_rk (qa_on mask (fun i => i)) i) j) →
      wY_rewritable_15 post mask n (nI j) (nI rl) (nI vw) (nI vl) (nI rm) (nI h0) (nI h1) (nI (1 + 2 * qa_rk (qa_on mask (fun i => i)) j)) bc bk bx bw bf bg := by
  have hv := W.2.1.2
  intro d
  induction d with
  | zero =>
    intro j n n0 bc bk bx bw bf hj hn h3 B Y
    obtain ⟨n, rfl⟩ : ∃ m, n = m + 1 := ⟨n - 1, by omega⟩
    have hrk := qa_rk_le (qa_on mask (fun i => i)) j
    have e : j = vw := by omega
    subst e
    refine br_t (nI_le (by omega) (by omega)) ?_
    exact qy_matches (p := 0) (q := 0) W B Y (by omega) (by omega) (by omega) (by omega) (fun z bf2 => p1 z _ bc bk bx bw bf2 B) (fun z bf2 => p0 z _ bc bk bx bw bf2 B)
  | succ d ih =>
    intro j n n0 bc bk bx bw bf hj hn h3 B Y
    obtain ⟨n, rfl⟩ : ∃ m, n = m + 1 := ⟨n - 1, by omega⟩
    have hrk := qa_rk_le (qa_on mask (fun i => i)) j
    have hw := qa_W_3 W j (by omega)
    refine br_f (nI_ge (by omega) (by omega)) ?_
    refine ek_if (qa_on_t (V := fun i => i) (i := j)).symm (fun h => ?_) (fun h => nm_r (nI_1 j) ?_)
    · refine qy_vouch (v := j) (p := 0) (q := 0) W B (by omega) (by omega) (by omega) (by omega) (by omega) Y (fun k x y => qa_FX_t h) (fun bc2 bk2 bx2 bw2 bf2 B2 Y2 => nm_r (nI_1 j) ?_)
      have := ih (j + 1) n _ bc2 bk2 bx2 bw2 bf2 (by omega) (by omega) (by omega) B2 Y2
      rw [show 1 + 2 * qa_rk (qa_on mask (fun i => i)) (j + 1) = 1 + 2 * qa_rk (qa_on mask (fun i => i)) j + 2 by rw [qa_rk_t h]; omega] at this
      exact this
    · have := ih (j + 1) n n0 bc bk bx bw bf (by omega) (by omega) (by omega) B (qa_YF_cg Y (fun k x y => qa_FX_f h))
      rw [qa_rk_f h] at this
      exact this
theorem qy_rewritable {post : Int32 → SY → Prop} {mask : Int32} (W : qa_W rl vw vl rm h0 h1 c K L R) (B : qa_A 24 c K L R bc bk bx bw)
    (p1 : qa_Mt (c 0) (K 0) (L 0) (R 0) (qa_FX c K L R (qa_on mask (fun i => i)) (fun i => i) (fun _ => 0) (fun _ => 0) (fun i => 1 + 2 * qa_rk (qa_on mask (fun i => i)) i) vw) (1 + 2 * qa_rk (qa_on mask (fun i => i)) vw) 0 0 → ∀ yt2 bc2 bk2 bx2 bw2 bf2, qa_A 24 c K L R bc2 bk2 bx2 bw2 → post 1 (nI rl, nI vw, nI vl, nI rm, nI h0, nI h1, yt2, bc2, bk2, bx2, bw2, bf2, bg))
    (p0 : ¬ qa_Mt (c 0) (K 0) (L 0) (R 0) (qa_FX c K L R (qa_on mask (fun i => i)) (fun i => i) (fun _ => 0) (fun _ => 0) (fun i => 1 + 2 * qa_rk (qa_on mask (fun i => i)) i) vw) (1 + 2 * qa_rk (qa_on mask (fun i => i)) vw) 0 0 → ∀ yt2 bc2 bk2 bx2 bw2 bf2, qa_A 24 c K L R bc2 bk2 bx2 bw2 → post 0 (nI rl, nI vw, nI vl, nI rm, nI h0, nI h1, yt2, bc2, bk2, bx2, bw2, bf2, bg)) :
    wpY_rewritable post (nI rl, nI vw, nI vl, nI rm, nI h0, nI h1, yt, bc, bk, bx, bw, bf, bg) mask := by
  refine nm_e ⟨vw + 1, ?_⟩
  exact qy_re15 W p1 p0 vw 0 (vw + 1) 0 _ _ _ _ _ (by omega) (by omega) (by omega) (qa_A_c6 B) (qa_YF_0 pk_us (fun _ _ _ => qa_FX_0))
/-! by codes -/
theorem qy_ch28 {post : Int32 → SY → Prop} {a b : Nat} (W : qa_W rl vw vl rm h0 h1 c K L R) (B : qa_A 24 c K L R bc bk bx bw) (ha : a < vl) (hb : b < vl) :
    ∀ d code n (bf bg : Nat → Int32), code + d = 3125 → d < n →
      ((∃ i, code ≤ i ∧ i < 3125 ∧ (qa_dg i h0 = a ∧ qa_dg i h1 = b ∧ qa_Ca (c 1) (K 1) (L 1) (R 1) (qa_In (c 2) (K 2) (L 2) (R 2)) (qa_dg i))) → ∀ bf2 bg2, post 1 (nI rl, nI vw, nI vl, nI rm, nI h0, nI h1, yt, bc, bk, bx, bw, bf2, bg2)) →
      ((¬ ∃ i, code ≤ i ∧ i < 3125 ∧ (qa_dg i h0 = a ∧ qa_dg i h1 = b ∧ qa_Ca (c 1) (K 1) (L 1) (R 1) (qa_In (c 2) (K 2) (L 2) (R 2)) (qa_dg i))) → ∀ bf2 bg2, post 0 (nI rl, nI vw, nI vl, nI rm, nI h0, nI h1, yt, bc, bk, bx, bw, bf2, bg2)) →
      wY_candidateHas_28 post (nI a) (nI b) n (nI code) (nI rl) (nI vw) (nI vl) (nI rm) (nI h0) (nI h1) yt bc bk bx bw bf bg := by
  have hl := W.2.2.1.2
  have hh0 := W.2.2.2.2.1
  have hh1 := W.2.2.2.2.2.1
  have hL : ∀ j, j < c 1 → L 1 j < 5 ∧ R 1 j < 5 := fun j hj => (qa_W_b W (by decide) j hj).2
  intro d
  induction d with
  | zero =>
    intro code n bf bg hi hn p1 p0
    obtain ⟨n, rfl⟩ : ∃ m, n = m + 1 := ⟨n - 1, by omega⟩
    exact br_t (nI_le (a := 3125) (by omega) (by omega)) (p0 (qa_ex_no (by omega)) bf bg)
  | succ d ih =>
    intro code n bf bg hi hn p1 p0
    obtain ⟨n, rfl⟩ : ∃ m, n = m + 1 := ⟨n - 1, by omega⟩
    have d0 := qa_dg_lt code h0
    have d1 := qa_dg_lt code h1
    have nxt : ∀ bf2 bg2, (¬ (qa_dg code h0 = a ∧ qa_dg code h1 = b ∧ qa_Ca (c 1) (K 1) (L 1) (R 1) (qa_In (c 2) (K 2) (L 2) (R 2)) (qa_dg code))) → wY_candidateHas_28 post (nI a) (nI b) n (nI (code + 1)) (nI rl) (nI vw) (nI vl) (nI rm) (nI h0) (nI h1) yt bc bk bx bw bf2 bg2 := fun bf2 bg2 z =>
      ih (code + 1) n bf2 bg2 (by omega) (by omega) (fun w => p1 ((qa_ex_s (by omega)).mpr (Or.inr w))) (fun w => p0 (fun y => ((qa_ex_s (by omega)).mp y).elim z w))
    refine br_f (nI_ge (b := 3125) (by omega) (by decide)) ?_
    refine qy_spread (by omega) (fun bf2 bg2 hg => ?_)
    refine ⟨vp_in_nI hh0 (by omega), pk_eq (qa_dg code h0) a (fun e0 => ⟨vp_in_nI hh1 (by omega), pk_eq (qa_dg code h1) b (fun e1 => ?_) (fun e1 => nm_r (nI_1 code) (nxt bf2 bg2 (fun z => e1 z.2.1))) (by rw [nI_clamp (by omega)]; exact (hg h1 hh1).1)⟩) (fun e0 => nm_r (nI_1 code) (nxt bf2 bg2 (fun z => e0 z.1))) (by rw [nI_clamp (by omega)]; exact (hg h0 hh0).1)⟩
    exact qy_carried (s := 1) (t := 2) (by decide) (by decide) (qa_S_A W B (by decide)) (qa_S_A W B (by decide)) (Nat.le_refl 5) hL (fun v hv => ⟨(hg v hv).1, Nat.lt_trans (qa_dg_lt code v) (by decide)⟩) (fun z => br_f qn_10 (p1 ⟨code, Nat.le_refl _, by omega, e0, e1, z⟩ bf2 bg2)) (fun z => br_t rfl (nm_r (nI_1 code) (nxt bf2 bg2 (fun w => z w.2.2))))
theorem qy_candidateHas {post : Int32 → SY → Prop} {a b : Nat} (W : qa_W rl vw vl rm h0 h1 c K L R) (B : qa_A 24 c K L R bc bk bx bw) (ha : a < vl) (hb : b < vl)
    (p1 : qa_Cd h0 h1 a b (c 1) (K 1) (L 1) (R 1) (qa_In (c 2) (K 2) (L 2) (R 2)) 5 → ∀ bf2 bg2, post 1 (nI rl, nI vw, nI vl, nI rm, nI h0, nI h1, yt, bc, bk, bx, bw, bf2, bg2)) (p0 : ¬ qa_Cd h0 h1 a b (c 1) (K 1) (L 1) (R 1) (qa_In (c 2) (K 2) (L 2) (R 2)) 5 → ∀ bf2 bg2, post 0 (nI rl, nI vw, nI vl, nI rm, nI h0, nI h1, yt, bc, bk, bx, bw, bf2, bg2)) :
    wpY_candidateHas post (nI rl, nI vw, nI vl, nI rm, nI h0, nI h1, yt, bc, bk, bx, bw, bf, bg) (nI a) (nI b) := by
  have hl := W.2.2.1.2
  have hL : ∀ j, j < c 1 → L 1 j < 5 ∧ R 1 j < 5 := fun j hj => (qa_W_b W (by decide) j hj).2
  have hcd := qa_Cd_code (a := a) (b := b) (m := c 1) (K := K 1) (F := qa_In (c 2) (K 2) (L 2) (R 2)) W.2.2.2.2.1 W.2.2.2.2.2.1 hL
  refine br_f (nI_pos (by omega)) (br_f (nI_ge ha (by omega)) (br_f (nI_pos (by omega)) (br_t (nI_lt hb (by omega)) ⟨3126, ?_⟩)))
  refine qy_ch28 W B ha hb 3125 0 3126 bf bg (by omega) (by omega) (fun z => p1 (hcd.mpr ?_)) (fun z => p0 (fun w => z ?_))
  · obtain ⟨i, _, h1, h2⟩ := z
    exact ⟨i, h1, h2⟩
  · obtain ⟨i, h1, h2⟩ := hcd.mp w
    exact ⟨i, Nat.zero_le _, h1, h2⟩
theorem qy_bf17 {post : Int32 → SY → Prop} {v p q : Nat} (W : qa_W rl vw vl rm h0 h1 c K L R) (B : qa_A 24 c K L R bc bk bx bw) (hv : v < 3) (hp : p < 5) (hq : q < 5) :
    ∀ d i n (bf : Nat → Int32), i + d = 25 → d < n → bf 0 = nI p → bf 1 = nI q →
      ((∃ i', i ≤ i' ∧ i' < 25 ∧ qa_Ca (c (3 + v)) (K (3 + v)) (L (3 + v)) (R (3 + v)) (qa_In (c 0) (K 0) (L 0) (R 0)) (qa_g5 p q (i' / 5) (i' % 5) 0)) → ∀ bf2, post 1 (yr, yv, yl, ym, y0, y1, yt, bc, bk, bx, bw, bf2, bg)) →
      ((¬ ∃ i', i ≤ i' ∧ i' < 25 ∧ qa_Ca (c (3 + v)) (K (3 + v)) (L (3 + v)) (R (3 + v)) (qa_In (c 0) (K 0) (L 0) (R 0)) (qa_g5 p q (i' / 5) (i' % 5) 0)) → ∀ bf2, post 0 (yr, yv, yl, ym, y0, y1, yt, bc, bk, bx, bw, bf2, bg)) →
      wY_bodyFits_17 post (nI v) yr yv yl ym y0 y1 yt n (nI i) bc bk bx bw bf bg := by
  have h5 : ¬ (5 : Int32) = 0 := by decide
  intro d
  induction d with
  | zero =>
    intro i n bf hi hn i0 i1 p1 p0
    obtain ⟨n, rfl⟩ : ∃ m, n = m + 1 := ⟨n - 1, by omega⟩
    exact br_t (nI_le (a := 25) (by omega) (by omega)) (p0 (qa_ex_no (by omega)) bf)
  | succ d ih =>
    intro i n bf hi hn i0 i1 p1 p0
    obtain ⟨n, rfl⟩ : ∃ m, n = m + 1 := ⟨n - 1, by omega⟩
    have k0 : upd (upd bf 2 (nI (i / 5))) 3 (nI (i % 5)) 0 = nI p := by rw [pk_un (by decide), pk_un (by decide)]; exact i0
    have k1 : upd (upd bf 2 (nI (i / 5))) 3 (nI (i % 5)) 1 = nI q := by rw [pk_un (by decide), pk_un (by decide)]; exact i1
    have k2 : upd (upd bf 2 (nI (i / 5))) 3 (nI (i % 5)) 2 = nI (i / 5) := by rw [pk_un (by decide), pk_us]
    have hg : ∀ w, w < 4 → upd (upd bf 2 (nI (i / 5))) 3 (nI (i % 5)) w = nI (qa_g5 p q (i / 5) (i % 5) 0 w) ∧ qa_g5 p q (i / 5) (i % 5) 0 w < 1000 := fun w hw =>
      match w, hw with
      | 0, _ => ⟨k0, (by omega : p < 1000)⟩
      | 1, _ => ⟨k1, (by omega : q < 1000)⟩
      | 2, _ => ⟨k2, (by omega : i / 5 < 1000)⟩
      | 3, _ => ⟨pk_us, (by omega : i % 5 < 1000)⟩
    refine br_f (nI_ge (b := 25) (by omega) (by decide)) ⟨h5, nm_r (e' := upd bf 2 (nI (i / 5))) (by rw [show nI i / 5 = nI (i / 5) from pk_div (d := 5) (by omega) (by decide) (by decide)]) ⟨h5, nm_r (e' := upd (upd bf 2 (nI (i / 5))) 3 (nI (i % 5))) (by rw [show nI i - nI i / 5 * 5 = nI (i % 5) from pk_rem (d := 5) (by omega) (by decide) (by decide)]) ?_⟩⟩
    rw [qn_3]
    refine qy_carried (s := 3 + v) (t := 0) (by omega) (by decide) (qa_S_A W B (by omega)) (qa_S_A W B (by decide)) (T := 4) (by decide) (fun j hj => (qa_W_v W v hv j hj).2) hg (fun z => br_f qn_10 (p1 ⟨i, Nat.le_refl _, by omega, z⟩ _)) (fun z => br_t rfl (nm_r (nI_1 i) (ih (i + 1) n _ (by omega) (by omega) k0 k1 (fun w => p1 ((qa_ex_s (by omega)).mpr (Or.inr w))) (fun w => p0 (fun y => ((qa_ex_s (by omega)).mp y).elim z w)))))
theorem qy_bodyFits {post : Int32 → SY → Prop} {v p q : Nat} (W : qa_W rl vw vl rm h0 h1 c K L R) (B : qa_A 24 c K L R bc bk bx bw) (hv : v < 3) (hp : p < 5) (hq : q < 5)
    (p1 : qa_Vg c K L R v p q → ∀ bf2, post 1 (yr, yv, yl, ym, y0, y1, yt, bc, bk, bx, bw, bf2, bg)) (p0 : ¬ qa_Vg c K L R v p q → ∀ bf2, post 0 (yr, yv, yl, ym, y0, y1, yt, bc, bk, bx, bw, bf2, bg)) : wpY_bodyFits post (yr, yv, yl, ym, y0, y1, yt, bc, bk, bx, bw, bf, bg) (nI v) (nI p) (nI q) := by
  refine nm_e (nm_e ⟨26, ?_⟩)
  exact qy_bf17 W B hv hp hq 25 0 26 _ (by omega) (by omega) ((pk_un (by decide)).trans pk_us) pk_us (fun z => p1 (qa_Vg_n.mpr z)) (fun z => p0 (fun w => z (qa_Vg_n.mp w)))
theorem qy_co48 {post : Int32 → SY → Prop} {J2 : _} {code : Nat} {g : Nat → Nat} (W : qa_W rl vw vl rm h0 h1 c K L R) (B : qa_A 24 c K L R bc bk bx bw) (hg : ∀ v, v < 5 → bg v = nI (g v) ∧ g v < 5) :
    ∀ d j n (bf : Nat → Int32), j + d = c 1 → d < n →
      ((∀ i, j ≤ i → i < c 1 → qa_Vg c K L R (K 1 i) (g (L 1 i)) (g (R 1 i))) → ∀ bf2, post 1 (yr, yv, yl, ym, y0, y1, yt, bc, bk, bx, bw, bf2, bg)) →
      ((¬ ∀ i, j ≤ i → i < c 1 → qa_Vg c K L R (K 1 i) (g (L 1 i)) (g (R 1 i))) → ∀ bf2, J2 (nI (code + 1)) yr yv yl ym y0 y1 yt bc bk bx bw bf2 bg) →
      wY_complete_48 post J2 (nI code) n 1 (nI (24 + j)) yr yv yl ym y0 y1 yt bc bk bx bw bf bg := by
  have h8 := qa_W_8 W 1 (by decide)
  intro d
  induction d with
  | zero =>
    intro j n bf hj hn p1 p0
    obtain ⟨n, rfl⟩ : ∃ m, n = m + 1 := ⟨n - 1, by omega⟩
    refine br_f qn_10 (br_t ?_ (br_f qn_10 (p1 (fun i q1 q2 => absurd q1 (by omega)) bf)))
    rw [(B 1 (by decide)).1, show (24 : Int32) + nI (c 1) = nI (24 + c 1) from nI_add 24 _]
    exact nI_le (by omega) (by omega)
  | succ d ih =>
    intro j n bf hj hn p1 p0
    obtain ⟨n, rfl⟩ : ∃ m, n = m + 1 := ⟨n - 1, by omega⟩
    obtain ⟨e1, e2, e3⟩ := (B 1 (by decide)).2 j (by omega)
    obtain ⟨b1, b2, b3⟩ := qa_W_b W (s := 1) (by decide) j (by omega)
    obtain ⟨g1, g2⟩ := hg _ b2
    obtain ⟨g3, g4⟩ := hg _ b3
    have hcl : (nI (24 + j)).toNatClampNeg = 1 * 24 + j := nI_clamp (by omega)
    have hin : vp_in (nI (24 + j)) 168 := vp_in_nI (by omega) (by omega)
    refine br_f qn_10 (br_f ?_ ⟨hin, hin, ?_⟩)
    · rw [(B 1 (by decide)).1, show (24 : Int32) + nI (c 1) = nI (24 + c 1) from nI_add 24 _]
      exact nI_ge (by omega) (by omega)
    · rw [hcl, e1, e2, e3, nI_clamp (show L 1 j < 2 ^ 31 by omega), nI_clamp (show R 1 j < 2 ^ 31 by omega), g1, g3]
      refine ⟨vp_in_nI (by omega) (by omega), hin, vp_in_nI (by omega) (by omega), ?_⟩
      refine qy_bodyFits W B b1 g2 g4 (fun z bf2 => nm_r (qn_s _ _) (ih (j + 1) n bf2 (by omega) (by omega) (fun w => p1 (fun i q1 q2 => ?_)) (fun w => p0 (fun q => w (fun i q1 q2 => q i (by omega) q2))))) (fun z bf2 => nm_r (qn_s _ _) ?_)
      · by_cases e : i = j
        · subst e; exact z
        · exact w i (by omega) q2
      · obtain ⟨n, rfl⟩ : ∃ m, n = m + 1 := ⟨n - 1, by omega⟩
        exact br_t rfl (br_t rfl (nm_r (nI_1 code) (p0 (fun q => z (q j (by omega) (by omega))) bf2)))
theorem qy_co2 {post : Int32 → SY → Prop} (W : qa_W rl vw vl rm h0 h1 c K L R) (B : qa_A 24 c K L R bc bk bx bw) :
    ∀ d code n (bf bg : Nat → Int32), code + d = 3125 → d < n →
      ((∃ i, code ≤ i ∧ i < 3125 ∧ (qa_dg i h0 = 0 ∧ qa_dg i h1 = 1 ∧ ∀ j, j < c 1 → qa_Vg c K L R (K 1 j) (qa_dg i (L 1 j)) (qa_dg i (R 1 j)))) → ∀ bf2 bg2, post 1 (nI rl, nI vw, nI vl, nI rm, nI h0, nI h1, yt, bc, bk, bx, bw, bf2, bg2)) →
      ((¬ ∃ i, code ≤ i ∧ i < 3125 ∧ (qa_dg i h0 = 0 ∧ qa_dg i h1 = 1 ∧ ∀ j, j < c 1 → qa_Vg c K L R (K 1 j) (qa_dg i (L 1 j)) (qa_dg i (R 1 j)))) → ∀ bf2 bg2, post 0 (nI rl, nI vw, nI vl, nI rm, nI h0, nI h1, yt, bc, bk, bx, bw, bf2, bg2)) →
      wY_complete_2 post n (nI code) (nI rl) (nI vw) (nI vl) (nI rm) (nI h0) (nI h1) yt bc bk bx bw bf bg := by
  have hh0 := W.2.2.2.2.1
  have hh1 := W.2.2.2.2.2.1
  intro d
  induction d with
  | zero =>
    intro code n bf bg hi hn p1 p0
    obtain ⟨n, rfl⟩ : ∃ m, n = m + 1 := ⟨n - 1, by omega⟩
    exact br_t (nI_le (a := 3125) (by omega) (by omega)) (p0 (qa_ex_no (by omega)) bf bg)
  | succ d ih =>
    intro code n bf bg hi hn p1 p0
    obtain ⟨n, rfl⟩ : ∃ m, n = m + 1 := ⟨n - 1, by omega⟩
    have d0 := qa_dg_lt code h0
    have d1 := qa_dg_lt code h1
    have nxt : ∀ bf2 bg2, (¬ (qa_dg code h0 = 0 ∧ qa_dg code h1 = 1 ∧ ∀ j, j < c 1 → qa_Vg c K L R (K 1 j) (qa_dg code (L 1 j)) (qa_dg code (R 1 j)))) → wY_complete_2 post n (nI (code + 1)) (nI rl) (nI vw) (nI vl) (nI rm) (nI h0) (nI h1) yt bc bk bx bw bf2 bg2 := fun bf2 bg2 z =>
      ih (code + 1) n bf2 bg2 (by omega) (by omega) (fun w => p1 ((qa_ex_s (by omega)).mpr (Or.inr w))) (fun w => p0 (fun y => ((qa_ex_s (by omega)).mp y).elim z w))
    have z48 : ∀ bf2 bg2, (¬ (qa_dg code h0 = 0 ∧ qa_dg code h1 = 1 ∧ ∀ j, j < c 1 → qa_Vg c K L R (K 1 j) (qa_dg code (L 1 j)) (qa_dg code (R 1 j)))) → ∃ n48, wY_complete_48 post (wY_complete_2 post n) (nI code) n48 0 24 (nI rl) (nI vw) (nI vl) (nI rm) (nI h0) (nI h1) yt bc bk bx bw bf2 bg2 := fun bf2 bg2 z =>
      ⟨1, br_t rfl (br_t rfl (nm_r (nI_1 code) (nxt bf2 bg2 z)))⟩
    refine br_f (nI_ge (b := 3125) (by omega) (by decide)) ?_
    refine qy_spread (by omega) (fun bf2 bg2 hg => ?_)
    refine ⟨vp_in_nI hh0 (by omega), pk_eq (qa_dg code h0) 0 (fun e0 => ⟨vp_in_nI hh1 (by omega), pk_eq (qa_dg code h1) 1 (fun e1 => ?_) (fun e1 => z48 bf2 bg2 (fun z => e1 z.2.1)) (by rw [nI_clamp (by omega)]; exact (hg h1 hh1).2)⟩) (fun e0 => z48 bf2 bg2 (fun z => e0 z.1)) (by rw [nI_clamp (by omega)]; exact (hg h0 hh0).2)⟩
    refine ⟨c 1 + 1, qy_co48 W B (fun v hv => ⟨(hg v hv).2, qa_dg_lt code v⟩) (c 1) 0 (c 1 + 1) bf2 (by omega) (by omega) (fun z bf3 => p1 ⟨code, Nat.le_refl _, by omega, e0, e1, fun j hj => z j (Nat.zero_le _) hj⟩ bf3 bg2) (fun z bf3 => nxt bf3 bg2 (fun w => z (fun i _ h2 => w.2.2 i h2)))⟩
theorem qy_complete {post : Int32 → SY → Prop} (W : qa_W rl vw vl rm h0 h1 c K L R) (B : qa_A 24 c K L R bc bk bx bw)
    (p1 : (∃ i, i < 3125 ∧ (qa_dg i h0 = 0 ∧ qa_dg i h1 = 1 ∧ ∀ j, j < c 1 → qa_Vg c K L R (K 1 j) (qa_dg i (L 1 j)) (qa_dg i (R 1 j)))) → ∀ bf2 bg2, post 1 (nI rl, nI vw, nI vl, nI rm, nI h0, nI h1, yt, bc, bk, bx, bw, bf2, bg2))
    (p0 : (¬ ∃ i, i < 3125 ∧ (qa_dg i h0 = 0 ∧ qa_dg i h1 = 1 ∧ ∀ j, j < c 1 → qa_Vg c K L R (K 1 j) (qa_dg i (L 1 j)) (qa_dg i (R 1 j)))) → ∀ bf2 bg2, post 0 (nI rl, nI vw, nI vl, nI rm, nI h0, nI h1, yt, bc, bk, bx, bw, bf2, bg2)) : wpY_complete post (nI rl, nI vw, nI vl, nI rm, nI h0, nI h1, yt, bc, bk, bx, bw, bf, bg) := by
  refine ⟨3126, qy_co2 W B 3125 0 3126 bf bg (by omega) (by omega) (fun z => p1 ?_) (fun z => p0 (fun w => z ?_))⟩
  · obtain ⟨i, _, h1, h2⟩ := z
    exact ⟨i, h1, h2⟩
  · obtain ⟨i, h1, h2⟩ := w
    exact ⟨i, Nat.zero_le _, h1, h2⟩
end
end
section
/-! the reference's coreSize -/
def qa_Dy (code x y z : Nat) : Prop := x < 5 ∧ y < 5 ∧ z < 5 ∧ qa_cd (qa_gg x y z) < code
theorem qa_gg_lt {x y z : Nat} (hx : x < 5) (hy : y < 5) (hz : z < 5) : ∀ v, v < 5 → qa_gg x y z v < 5 := qa_5 (by decide : 0 < 5) (by decide : 1 < 5) hx hy hz
theorem qa_Dy_s {code x y z : Nat} (h : qa_Dy (code + 1) x y z) : qa_Dy code x y z ∨ (qa_dg code 0 = 0 ∧ qa_dg code 1 = 1 ∧ x = qa_dg code 2 ∧ y = qa_dg code 3 ∧ z = qa_dg code 4) := by
  obtain ⟨hx, hy, hz, h⟩ := h
  by_cases e : qa_cd (qa_gg x y z) < code
  · exact Or.inl ⟨hx, hy, hz, e⟩
  · have e2 : qa_cd (qa_gg x y z) = code := by omega
    have hd := qa_dg_cd (qa_gg_lt hx hy hz)
    rw [e2] at hd
    exact Or.inr ⟨hd 0 (by decide), hd 1 (by decide), (hd 2 (by decide)).symm, (hd 3 (by decide)).symm, (hd 4 (by decide)).symm⟩
section
variable {rl vw vl rm h0 h1 : Nat} {c : Nat → Nat} {K L R : Nat → Nat → Nat} {yr yv yl ym y0 y1 yt : Int32} {bc bk bx bw bf bg : Nat → Int32}
theorem qy_cs29 {post : Int32 → SY → Prop} {J9 : _} {code r : Nat} (W : qa_W rl vw vl rm h0 h1 c K L R) (B : qa_A 24 c K L R bc bk bx bw) (hg : ∀ v, v < 5 → bf v = nI (qa_dg code v)) (I : qa_Iv (c 0) (K 0) (L 0) (R 0) (qa_Dy code) r)
    (pp : ∀ r2, qa_Iv (c 0) (K 0) (L 0) (R 0) (qa_Dy (code + 1)) r2 → J9 (nI r2) (nI (code + 1)) yr yv yl ym y0 y1 yt bc bk bx bw bf bg) :
    ∀ d j n (x4 : Int32), j + d = c 0 → d < n → (∀ t, t < 8 → (bt x4 t = true ↔ (qa_sn (qa_tg (c 0) (K 0) (L 0) (R 0) (qa_dg code)) j).1 t = true)) →
      wY_coreSize_29 post J9 (nI r) (nI code) yr yv yl ym y0 y1 yt bc bk bx bw bf bg n (nI (qa_sn (qa_tg (c 0) (K 0) (L 0) (R 0) (qa_dg code)) j).2) x4 (nI j) := by
  have h8 := qa_W_8 W 0 (by decide)
  have hr := I.1
  have hL : ∀ j, j < c 0 → L 0 j < 5 ∧ R 0 j < 5 := fun j hj => (qa_W_b W (by decide) j hj).2
  have hsame : ¬ (qa_dg code 0 = 0 ∧ qa_dg code 1 = 1) → qa_Iv (c 0) (K 0) (L 0) (R 0) (qa_Dy (code + 1)) r := fun z =>
    qa_Iv_w (fun x y w h => (qa_Dy_s h).elim id (fun q => absurd ⟨q.1, q.2.1⟩ z)) I
  have hD : ∀ x y z, qa_Dy (code + 1) x y z → qa_Dy code x y z ∨ (x = qa_dg code 2 ∧ y = qa_dg code 3 ∧ z = qa_dg code 4) := fun x y z h => (qa_Dy_s h).elim Or.inl (fun q => Or.inr q.2.2)
  intro d
  induction d with
  | zero =>
    intro j n x4 hj hn hs
    obtain ⟨n, rfl⟩ : ∃ m, n = m + 1 := ⟨n - 1, by omega⟩
    have e : j = c 0 := by omega
    subst e
    have d0 := qa_dg_lt code 0
    have d1 := qa_dg_lt code 1
    have hsn := qa_sn_le (qa_tg (c 0) (K 0) (L 0) (R 0) (qa_dg code)) (c 0)
    refine br_t (by rw [(B 0 (by decide)).1]; exact nI_le (by omega) (by omega)) ?_
    refine pk_eq (qa_dg code 0) 0 (fun e0 => pk_eq (qa_dg code 1) 1 (fun e1 => ?_) (fun e1 => nm_r (nI_1 code) (pp r (hsame (fun z => e1 z.2)))) (hg 1 (by decide))) (fun e0 => nm_r (nI_1 code) (pp r (hsame (fun z => e0 z.1)))) (hg 0 (by decide))
    have hgg := qa_gg_dg e0 e1
    have eS : (qa_sn (qa_tg (c 0) (K 0) (L 0) (R 0) (qa_dg code)) (c 0)).2 = (qa_sn (qa_tg (c 0) (K 0) (L 0) (R 0) (qa_gg (qa_dg code 2) (qa_dg code 3) (qa_dg code 4))) (c 0)).2 := by rw [qa_sn_cg (c 0) (qa_tg_cg hL hgg)]
    refine pk_le r _ (fun h => nm_r (nI_1 code) (pp r (qa_Iv_ge hD (fun _ => by rw [← eS]; exact h) I))) (fun h => ?_)
    refine qy_carried (s := 0) (t := 0) (by decide) (by decide) (qa_S_A W B (by decide)) (qa_S_A W B (by decide)) (Nat.le_refl 5) hL (fun v hv => ⟨hg v hv, Nat.lt_trans (qa_dg_lt code v) (by decide)⟩) (fun z => br_f qn_10 (nm_r (nI_1 code) (pp _ ?_))) (fun z => br_t rfl (nm_r (nI_1 code) (pp r (qa_Iv_ge hD (fun w => absurd (qa_gd_cg hL (fun v hv => (hgg v hv).symm) w) z) I))))
    rw [eS]
    rw [eS] at h
    exact qa_Iv_lo (qa_dg_lt _ _) (qa_dg_lt _ _) (qa_dg_lt _ _) hD (qa_gd_cg hL hgg z) h I
  | succ d ih =>
    intro j n x4 hj hn hs
    obtain ⟨n, rfl⟩ : ∃ m, n = m + 1 := ⟨n - 1, by omega⟩
    obtain ⟨e1, e2, e3⟩ := (B 0 (by decide)).2 j (by omega)
    rw [show 0 * 24 + j = j by omega] at e1 e2 e3
    obtain ⟨b1, b2, b3⟩ := qa_W_b W (s := 0) (by decide) j (by omega)
    have g1 := hg _ b2
    have g3 := hg _ b3
    have g2 := qa_dg_lt code (L 0 j)
    have g4 := qa_dg_lt code (R 0 j)
    have hcl : (nI j).toNatClampNeg = j := nI_clamp (by omega)
    have hin : vp_in (nI j) 168 := vp_in_nI (by omega) (by omega)
    have S := qa_S_A W B (s := 0) (by decide)
    refine br_f (by rw [(B 0 (by decide)).1]; exact nI_ge (by omega) (by omega)) ⟨hin, hin, ?_⟩
    rw [hcl, e1, e2, e3, nI_clamp (show L 0 j < 2 ^ 31 by omega), nI_clamp (show R 0 j < 2 ^ 31 by omega), g1, g3]
    refine ⟨vp_in_nI (by omega) (by omega), hin, vp_in_nI (by omega) (by omega), ?_⟩
    refine qy_find (s := 0) (by decide) S.2.1 S.1 (fun j hj => (S.2.2 j hj).1) (fun j hj => (S.2.2 j hj).2) (by omega) (by omega) (by omega) (fun i hi => ?_) (fun hn => br_t (by decide) (nm_r (nI_1 j) ?_))
    · have hic := (qa_fd_some _ _ _ hi).2.1
      have htg : qa_tg (c 0) (K 0) (L 0) (R 0) (qa_dg code) j = some i := hi
      rw [show 0 * 24 + i = i by omega]
      refine br_f (nI_pos (by omega)) (ek_if (qb_t0 x4 (by omega)) (fun z => ?_) (fun z => ?_))
      · have hz : ¬ (qa_sn (qa_tg (c 0) (K 0) (L 0) (R 0) (qa_dg code)) j).1 i = true := fun w => z ((hs i (by omega)).mpr w)
        have es := qa_sn_f htg hz
        refine nm_r (e' := nI (qa_sn (qa_tg (c 0) (K 0) (L 0) (R 0) (qa_dg code)) (j + 1)).2) (by rw [es]; exact nI_1 _) (nm_e (nm_r (nI_1 j) (ih (j + 1) n _ (by omega) (by omega) (fun t ht => ?_))))
        rw [es, qb_or x4 (by omega) (by omega), hs t ht]
        show _ ↔ (if t = i then true else (qa_sn (qa_tg (c 0) (K 0) (L 0) (R 0) (qa_dg code)) j).1 t) = true
        by_cases e : t = i
        · rw [if_pos e]; exact ⟨fun _ => rfl, fun _ => Or.inr e⟩
        · rw [if_neg e]; exact ⟨fun w => w.elim id (fun w => absurd w e), Or.inl⟩
      · have hz : (qa_sn (qa_tg (c 0) (K 0) (L 0) (R 0) (qa_dg code)) j).1 i = true := (hs i (by omega)).mp (Classical.byContradiction z)
        have es := qa_sn_t htg hz
        refine nm_r (nI_1 j) ?_
        have := ih (j + 1) n x4 (by omega) (by omega) (by rw [es]; exact hs)
        rw [es] at this
        exact this
    · have htg : qa_tg (c 0) (K 0) (L 0) (R 0) (qa_dg code) j = none := hn
      have es := qa_sn_n htg
      have := ih (j + 1) n x4 (by omega) (by omega) (by rw [es]; exact hs)
      rw [es] at this
      exact this
theorem qy_cs9 {post : Int32 → SY → Prop} (W : qa_W rl vw vl rm h0 h1 c K L R) (B : qa_A 24 c K L R bc bk bx bw)
    (pp : ∀ r bf2 bg2, qa_Iv (c 0) (K 0) (L 0) (R 0) (qa_Dy 3125) r → post (nI r) (yr, yv, yl, ym, y0, y1, yt, bc, bk, bx, bw, bf2, bg2)) :
    ∀ d code n r (bf bg : Nat → Int32), code + d = 3125 → d < n → qa_Iv (c 0) (K 0) (L 0) (R 0) (qa_Dy code) r → wY_coreSize_9 post n (nI r) (nI code) yr yv yl ym y0 y1 yt bc bk bx bw bf bg := by
  intro d
  induction d with
  | zero =>
    intro code n r bf bg hi hn I
    obtain ⟨n, rfl⟩ : ∃ m, n = m + 1 := ⟨n - 1, by omega⟩
    have e : code = 3125 := by omega
    subst e
    exact br_t (nI_le (a := 3125) (by omega) (by omega)) (pp r bf bg I)
  | succ d ih =>
    intro code n r bf bg hi hn I
    obtain ⟨n, rfl⟩ : ∃ m, n = m + 1 := ⟨n - 1, by omega⟩
    refine br_f (nI_ge (b := 3125) (by omega) (by decide)) ?_
    refine qy_spread (by omega) (fun bf2 bg2 hg => ⟨c 0 + 1, ?_⟩)
    exact qy_cs29 W B (fun v hv => (hg v hv).1) I (fun r2 I2 => ih (code + 1) n r2 bf2 bg2 (by omega) (by omega) I2) (c 0) 0 (c 0 + 1) 0 (by omega) (by omega) (fun t _ => by rw [b_0]; exact Iff.rfl)
theorem qy_coreSize {post : Int32 → SY → Prop} (W : qa_W rl vw vl rm h0 h1 c K L R) (B : qa_A 24 c K L R bc bk bx bw)
    (pp : ∀ r bf2 bg2, qa_Iv (c 0) (K 0) (L 0) (R 0) (qa_Dy 3125) r → post (nI r) (yr, yv, yl, ym, y0, y1, yt, bc, bk, bx, bw, bf2, bg2)) : wpY_coreSize post (yr, yv, yl, ym, y0, y1, yt, bc, bk, bx, bw, bf, bg) := by
  refine nm_r (e' := nI (c 0)) (B 0 (by decide)).1 ⟨3126, ?_⟩
  exact qy_cs9 W B pp 3125 0 3126 (c 0) bf bg (by omega) (by omega) (qa_Iv_0 (fun x y z h => absurd h.2.2.2 (Nat.not_lt_zero _)))
end
end
section
/-! the questions, answer by answer -/
theorem qz_2 {x y : Int32} {n : Nat} (hn : n < 2 ^ 31) : (∃ a b : Nat, x = nI a ∧ y = nI b ∧ a < n ∧ b < n) ∨ ((¬ ∃ j, j < n ∧ x = nI j) ∧ (x < 0 ∨ (¬ x < 0 ∧ nI n ≤ x))) ∨ (∃ a : Nat, x = nI a ∧ a < n ∧ (¬ ∃ j, j < n ∧ y = nI j) ∧ (y < 0 ∨ (¬ y < 0 ∧ nI n ≤ y))) := by
  rcases qa_in_or x hn with ⟨a, ha, rfl⟩ | h
  · rcases qa_in_or y hn with ⟨b, hb, rfl⟩ | h
    · exact Or.inl ⟨a, b, rfl, rfl, ha, hb⟩
    · exact Or.inr (Or.inr ⟨a, rfl, ha, h⟩)
  · exact Or.inr (Or.inl h)
theorem i_vc_certain {k : Nat} {u : SX} {v : SY} (I : i_Rel k u v) (hk : k + 5 ≤ 2564) (v1 : Int32) (v2 : Int32) (v3 : Int32) : wpX_certain (fun r u' => wpY_certain (fun r' v' => r' = r ∧ i_Rel (k + 5) u' v') v v1 v2 v3) u v1 v2 v3 := by
  obtain ⟨rl, vw, vl, rm, h0, h1, c, K, L, R, ac, ak, al, ar, lk, im, le, gr, yt, bc, bk, bx, bw, bf, bg, rfl, rfl, W, A, B⟩ := I
  have hl := W.2.2.1.2
  rcases qz_2 (x := v2) (y := v3) (n := vl) (by omega) with ⟨a, b, rfl, rfl, ha, hb⟩ | ⟨hno, h⟩ | ⟨a, rfl, ha, hno, h⟩
  · have hxy := qa_xy (c := c) (K := K) (L := L) (R := R) (on := qa_on v1 (K 2)) (V := K 2) (P := L 2) (Q := R 2) (m := c 2) (base := vl) (p := a) (q := b) (n := c 0) (Kq := K 0) (Lq := L 0) (Rq := R 0) (qa_W_8 W 2 (by decide)) (by omega)
      (fun i hi j hj => (qa_W_v W _ (qa_W_b W (s := 2) (by decide) i hi).1 j hj).2) (fun i hi => ((W.2.2.2.2.2.2 2 (by decide)).2 i hi).2) ha hb
    refine qx_certain W A ha hb (fun z lk2 im2 le2 gr2 => ?_) (fun z lk2 im2 le2 gr2 => ?_)
    · exact qy_certain W B ha hb (fun _ _ _ _ _ _ _ B2 => ⟨rfl, qi_mk W A B2⟩) (fun w => absurd (hxy.mp z) w)
    · exact qy_certain W B ha hb (fun w => absurd (hxy.mpr w) z) (fun _ _ _ _ _ _ _ B2 => ⟨rfl, qi_mk W A B2⟩)
  · unfold wpX_certain
    refine qx_below (n := vl) (by omega) (fun j hj ej => absurd ⟨j, hj, ej⟩ hno) (fun _ => br_t rfl ?_)
    rcases h with h | ⟨h, h'⟩
    · exact br_t h ⟨rfl, qi_mk W A B⟩
    · exact br_f h (br_t h' ⟨rfl, qi_mk W A B⟩)
  · unfold wpX_certain
    refine qx_below (n := vl) (by omega) (fun _ _ _ => br_f qn_10 ?_) (fun z => absurd ⟨a, ha, rfl⟩ z)
    refine qx_below (n := vl) (by omega) (fun j hj ej => absurd ⟨j, hj, ej⟩ hno) (fun _ => br_t rfl ?_)
    refine br_f (nI_pos (by omega)) (br_f (nI_ge ha (by omega)) ?_)
    rcases h with h | ⟨h, h'⟩
    · exact br_t h ⟨rfl, qi_mk W A B⟩
    · exact br_f h (br_f (Int32.not_lt.mpr h') ⟨rfl, qi_mk W A B⟩)
theorem i_vc_rewritable {k : Nat} {u : SX} {v : SY} (I : i_Rel k u v) (hk : k + 5 ≤ 2564) (v1 : Int32) : wpX_rewritable (fun r u' => wpY_rewritable (fun r' v' => r' = r ∧ i_Rel (k + 5) u' v') v v1) u v1 := by
  obtain ⟨rl, vw, vl, rm, h0, h1, c, K, L, R, ac, ak, al, ar, lk, im, le, gr, yt, bc, bk, bx, bw, bf, bg, rfl, rfl, W, A, B⟩ := I
  have hv := W.2.1.2
  have hxy := qa_xy (c := c) (K := K) (L := L) (R := R) (on := qa_on v1 (fun i => i)) (V := fun i => i) (P := fun _ => 0) (Q := fun _ => 0) (m := vw) (base := 1) (p := 0) (q := 0) (n := c 0) (Kq := K 0) (Lq := L 0) (Rq := R 0) (by omega) (by omega)
    (fun i hi j hj => (qa_W_v W i (by omega) j hj).2) (fun i hi => ⟨by decide, by decide⟩) (by decide) (by decide)
  refine qx_rewritable W A (fun z lk2 im2 le2 gr2 => ?_) (fun z lk2 im2 le2 gr2 => ?_)
  · exact qy_rewritable W B (fun _ _ _ _ _ _ _ B2 => ⟨rfl, qi_mk W A B2⟩) (fun w => absurd (hxy.mp z) w)
  · exact qy_rewritable W B (fun w => absurd (hxy.mpr w) z) (fun _ _ _ _ _ _ _ B2 => ⟨rfl, qi_mk W A B2⟩)
theorem i_vc_candidateHas {k : Nat} {u : SX} {v : SY} (I : i_Rel k u v) (hk : k + 5 ≤ 2564) (v1 : Int32) (v2 : Int32) : wpX_candidateHas (fun r u' => wpY_candidateHas (fun r' v' => r' = r ∧ i_Rel (k + 5) u' v') v v1 v2) u v1 v2 := by
  obtain ⟨rl, vw, vl, rm, h0, h1, c, K, L, R, ac, ak, al, ar, lk, im, le, gr, yt, bc, bk, bx, bw, bf, bg, rfl, rfl, W, A, B⟩ := I
  have hl := W.2.2.1.2
  rcases qz_2 (x := v1) (y := v2) (n := vl) (by omega) with ⟨a, b, rfl, rfl, ha, hb⟩ | ⟨hno, h⟩ | ⟨a, rfl, ha, hno, h⟩
  · have h5 := qa_Cd_5 (h0 := h0) (h1 := h1) (a := a) (b := b) (m := c 1) (K := K 1) (L := L 1) (R := R 1) (F := qa_In (c 2) (K 2) (L 2) (R 2)) (T := vl) (by omega) (by omega) ha hb (fun k x y ⟨j, hj, _, e2, e3⟩ => by
      have := ((W.2.2.2.2.2.2 2 (by decide)).2 j hj).2
      rw [e2, e3] at this
      exact this)
    refine qx_candidateHas W A ha hb (fun z lk2 im2 le2 gr2 => ?_) (fun z lk2 im2 le2 gr2 => ?_)
    · exact qy_candidateHas W B ha hb (fun _ _ _ => ⟨rfl, qi_mk W A B⟩) (fun w => absurd (h5.mp z) w)
    · exact qy_candidateHas W B ha hb (fun w => absurd (h5.mpr w) z) (fun _ _ _ => ⟨rfl, qi_mk W A B⟩)
  · unfold wpX_candidateHas
    refine qx_below (n := vl) (by omega) (fun j hj ej => absurd ⟨j, hj, ej⟩ hno) (fun _ => br_t rfl ?_)
    rcases h with h | ⟨h, h'⟩
    · exact br_t h ⟨rfl, qi_mk W A B⟩
    · exact br_f h (br_t h' ⟨rfl, qi_mk W A B⟩)
  · unfold wpX_candidateHas
    refine qx_below (n := vl) (by omega) (fun _ _ _ => br_f qn_10 ?_) (fun z => absurd ⟨a, ha, rfl⟩ z)
    refine qx_below (n := vl) (by omega) (fun j hj ej => absurd ⟨j, hj, ej⟩ hno) (fun _ => br_t rfl ?_)
    refine br_f (nI_pos (by omega)) (br_f (nI_ge ha (by omega)) ?_)
    rcases h with h | ⟨h, h'⟩
    · exact br_t h ⟨rfl, qi_mk W A B⟩
    · exact br_f h (br_f (Int32.not_lt.mpr h') ⟨rfl, qi_mk W A B⟩)
theorem i_vc_sound {k : Nat} {u : SX} {v : SY} (I : i_Rel k u v) (hk : k + 5 ≤ 2564) : wpX_sound (fun r u' => wpY_sound (fun r' v' => r' = r ∧ i_Rel (k + 5) u' v') v) u := by
  obtain ⟨rl, vw, vl, rm, h0, h1, c, K, L, R, ac, ak, al, ar, lk, im, le, gr, yt, bc, bk, bx, bw, bf, bg, rfl, rfl, W, A, B⟩ := I
  have hxy := qa_xy (c := c) (K := K) (L := L) (R := R) (on := qa_on (-1) (K 1)) (V := K 1) (P := L 1) (Q := R 1) (m := c 1) (base := 5) (p := h0) (q := h1) (n := c 0) (Kq := K 0) (Lq := L 0) (Rq := R 0) (qa_W_8 W 1 (by decide)) (by omega)
      (fun i hi j hj => (qa_W_v W _ (qa_W_b W (s := 1) (by decide) i hi).1 j hj).2) (fun i hi => (qa_W_b W (s := 1) (by decide) i hi).2) W.2.2.2.2.1 W.2.2.2.2.2.1
  refine qx_sound W A (fun z lk2 im2 le2 gr2 => ?_) (fun z lk2 im2 le2 gr2 => ?_)
  · exact qy_sound W B (fun _ _ _ _ _ _ _ B2 => ⟨rfl, qi_mk W A B2⟩) (fun w => absurd (hxy.mp z) w)
  · exact qy_sound W B (fun w => absurd (hxy.mpr w) z) (fun _ _ _ _ _ _ _ B2 => ⟨rfl, qi_mk W A B2⟩)
theorem i_vc_complete {k : Nat} {u : SX} {v : SY} (I : i_Rel k u v) (hk : k + 5 ≤ 2564) : wpX_complete (fun r u' => wpY_complete (fun r' v' => r' = r ∧ i_Rel (k + 5) u' v') v) u := by
  obtain ⟨rl, vw, vl, rm, h0, h1, c, K, L, R, ac, ak, al, ar, lk, im, le, gr, yt, bc, bk, bx, bw, bf, bg, rfl, rfl, W, A, B⟩ := I
  have hL : ∀ j, j < c 1 → L 1 j < 5 ∧ R 1 j < 5 := fun j hj => (qa_W_b W (by decide) j hj).2
  have hcd := qa_Cd_code (a := 0) (b := 1) (m := c 1) (K := K 1) (F := fun v p q => v < vw ∧ p < 5 ∧ q < 5 ∧ qa_Vg c K L R v p q) W.2.2.2.2.1 W.2.2.2.2.2.1 hL
  have hkv : ∀ j, j < c 1 → K 1 j < vw := fun j hj => ((W.2.2.2.2.2.2 1 (by decide)).2 j hj).1
  have e : qa_Cd h0 h1 0 1 (c 1) (K 1) (L 1) (R 1) (fun v p q => v < vw ∧ p < 5 ∧ q < 5 ∧ qa_Vg c K L R v p q) 5 ↔ ∃ i, i < 3125 ∧ (qa_dg i h0 = 0 ∧ qa_dg i h1 = 1 ∧ ∀ j, j < c 1 → qa_Vg c K L R (K 1 j) (qa_dg i (L 1 j)) (qa_dg i (R 1 j))) := by
    refine hcd.trans ⟨?_, ?_⟩
    · rintro ⟨i, h1, h2, h3, h4⟩
      exact ⟨i, h1, h2, h3, fun j hj => (h4 j hj).2.2.2⟩
    · rintro ⟨i, h1, h2, h3, h4⟩
      exact ⟨i, h1, h2, h3, fun j hj => ⟨hkv j hj, qa_dg_lt _ _, qa_dg_lt _ _, h4 j hj⟩⟩
  refine qx_complete W A (fun z lk2 im2 le2 gr2 => ?_) (fun z lk2 im2 le2 gr2 => ?_)
  · exact qy_complete W B (fun _ _ _ => ⟨rfl, qi_mk W A B⟩) (fun w => absurd (e.mp z) w)
  · exact qy_complete W B (fun w => absurd (e.mpr w) z) (fun _ _ _ => ⟨rfl, qi_mk W A B⟩)
theorem i_vc_coreSize {k : Nat} {u : SX} {v : SY} (I : i_Rel k u v) (hk : k + 5 ≤ 2564) : wpX_coreSize (fun r u' => wpY_coreSize (fun r' v' => r' = r ∧ i_Rel (k + 5) u' v') v) u := by
  obtain ⟨rl, vw, vl, rm, h0, h1, c, K, L, R, ac, ak, al, ar, lk, im, le, gr, yt, bc, bk, bx, bw, bf, bg, rfl, rfl, W, A, B⟩ := I
  refine qx_coreSize W A (fun r im2 I1 => qy_coreSize W B (fun r2 bf2 bg2 I2 => ⟨?_, qi_mk W A B⟩))
  have h1 : ∀ a b e, a < 5 → b < 5 → e < 5 → qa_Dx 5 0 0 a b e := fun a b e ha hb he => ⟨ha, hb, he, Or.inl ha⟩
  have h2 : ∀ a b e, a < 5 → b < 5 → e < 5 → qa_Dy 3125 a b e := fun a b e ha hb he => ⟨ha, hb, he, qa_cd_lt (qa_gg_lt ha hb he)⟩
  exact congrArg nI (Nat.le_antisymm (qa_Iv_le h2 I2 I1) (qa_Iv_le h1 I1 I2))
end
