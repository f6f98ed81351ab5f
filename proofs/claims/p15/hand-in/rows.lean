section
/-! ===== Int32 by its bits: bt x i ===== -/
def bt (x : Int32) (i : Nat) : Bool := x.toBitVec.getLsbD i
theorem b_ext {x y : Int32} (h : ∀ i, i < 32 → bt x i = bt y i) : x = y := Int32.toBitVec_inj.mp (BitVec.eq_of_getLsbD_eq (fun i hi => h i hi))
theorem b_or (x y : Int32) (i : Nat) : bt (x ||| y) i = (bt x i || bt y i) := by unfold bt; rw [Int32.toBitVec_or, BitVec.getLsbD_or]
theorem b_and (x y : Int32) (i : Nat) : bt (x &&& y) i = (bt x i && bt y i) := by unfold bt; rw [Int32.toBitVec_and, BitVec.getLsbD_and]
theorem b_xor (x y : Int32) (i : Nat) : bt (x ^^^ y) i = (bt x i ^^ bt y i) := by unfold bt; rw [Int32.toBitVec_xor, BitVec.getLsbD_xor]
theorem b_big {x : Int32} {i : Nat} (h : 32 ≤ i) : bt x i = false := BitVec.getLsbD_of_ge _ _ h
theorem b_255 (i : Nat) : bt 255 i = decide (i < 8) := by
  rcases Nat.lt_or_ge i 32 with h | h
  · exact (by decide +kernel : ∀ i, i < 32 → bt 255 i = decide (i < 8)) i h
  · rw [b_big h, decide_eq_false (by omega)]
theorem b_65535 (i : Nat) : bt 65535 i = decide (i < 16) := by
  rcases Nat.lt_or_ge i 32 with h | h
  · exact (by decide +kernel : ∀ i, i < 32 → bt 65535 i = decide (i < 16)) i h
  · rw [b_big h, decide_eq_false (by omega)]
theorem b_m1 : ∀ i, i < 32 → bt (-1) i = true := by decide +kernel
theorem b_0 (i : Nat) : bt 0 i = false := BitVec.getLsbD_zero
theorem s_l : ∀ n, n < 32 → ((nI n &&& 31).toBitVec.smod 32).toNat = n := by decide +kernel
theorem s_u : ∀ n, n < 32 → (((nI n).toUInt32 &&& Int32.toUInt32 31).toBitVec % 32).toNat = n := by decide +kernel
theorem b_shl (n : Nat) (hn : n < 32) (x : Int32) {i : Nat} (hi : i < 32) : bt (x <<< (nI n &&& 31)) i = (decide (n ≤ i) && bt x (i - n)) := by
  unfold bt
  rw [Int32.toBitVec_shiftLeft]
  show (x.toBitVec <<< ((nI n &&& 31).toBitVec.smod 32).toNat).getLsbD i = _
  rw [s_l n hn, BitVec.getLsbD_shiftLeft]
  rcases Nat.lt_or_ge i n with h | h
  · simp [h, Nat.not_le.mpr h]
  · simp [hi, h, Nat.not_lt.mpr h]
theorem b_ushr (n : Nat) (hn : n < 32) (x : Int32) (i : Nat) : bt ((x.toUInt32 >>> ((nI n).toUInt32 &&& Int32.toUInt32 31)).toInt32) i = bt x (n + i) := by
  show (x.toUInt32 >>> ((nI n).toUInt32 &&& Int32.toUInt32 31)).toBitVec.getLsbD i = x.toUInt32.toBitVec.getLsbD (n + i)
  rw [UInt32.toBitVec_shiftRight]
  show (x.toUInt32.toBitVec >>> (((nI n).toUInt32 &&& Int32.toUInt32 31).toBitVec % 32).toNat).getLsbD i = _
  rw [s_u n hn, BitVec.getLsbD_ushiftRight]
theorem b_sshr (n : Nat) (hn : n < 32) (x : Int32) {i : Nat} (hi : i < 32) : bt (x >>> (nI n &&& 31)) i = if n + i < 32 then bt x (n + i) else bt x 31 := by
  unfold bt
  rw [Int32.toBitVec_shiftRight]
  show (x.toBitVec.sshiftRight ((nI n &&& 31).toBitVec.smod 32).toNat).getLsbD i = _
  rw [s_l n hn, BitVec.getLsbD_sshiftRight, BitVec.msb_eq_getLsbD_last]
  simp [hi]
theorem b_shl8 (x : Int32) {i : Nat} (hi : i < 32) : bt (x <<< ((8 : Int32) &&& 31)) i = (decide (8 ≤ i) && bt x (i - 8)) := b_shl 8 (by omega) x hi
theorem b_shl16 (x : Int32) {i : Nat} (hi : i < 32) : bt (x <<< ((16 : Int32) &&& 31)) i = (decide (16 ≤ i) && bt x (i - 16)) := b_shl 16 (by omega) x hi
theorem b_shl24 (x : Int32) {i : Nat} (hi : i < 32) : bt (x <<< ((24 : Int32) &&& 31)) i = (decide (24 ≤ i) && bt x (i - 24)) := b_shl 24 (by omega) x hi
theorem b_sshr8 (x : Int32) {i : Nat} (hi : i < 32) : bt (x >>> ((8 : Int32) &&& 31)) i = if 8 + i < 32 then bt x (8 + i) else bt x 31 := b_sshr 8 (by omega) x hi
/-! ===== lN n to 2^64: shifts, and, or, masks, one bit ===== -/
theorem wb_tb (n : Nat) : (lN n).toBitVec = BitVec.ofNat 64 n := rfl
theorem wb_inj {a b : Int64} (h : a.toBitVec = b.toBitVec) : a = b := Int64.toBitVec_inj.mp h
theorem wb_tn {n : Nat} (h : n < 2 ^ 64) : (lN n).toBitVec.toNat = n := by rw [wb_tb, BitVec.toNat_ofNat, Nat.mod_eq_of_lt h]
theorem wb_of (x : Int64) : ∃ n, n < 2 ^ 64 ∧ x = lN n := ⟨x.toBitVec.toNat, x.toBitVec.isLt, wb_inj (by rw [wb_tb]; simp)⟩
theorem wb_of32 (x : Int32) : ∃ n, n < 2 ^ 32 ∧ x = nI n := ⟨x.toBitVec.toNat, x.toBitVec.isLt, Int32.toBitVec_inj.mp (by show _ = BitVec.ofNat 32 _; simp)⟩
theorem wb_c : ∀ k, k < 64 → ((nI k).toInt64 &&& 63) = lN k := by decide +kernel
theorem wb_cu : ∀ k, k < 64 → ((nI k).toInt64.toUInt64 &&& Int64.toUInt64 63) = UInt64.ofNat k := by decide +kernel
theorem wb_sm : ∀ k, k < 64 → (BitVec.ofNat 64 k).smod 64 = BitVec.ofNat 64 k := by decide +kernel
theorem wb_pw {a b : Nat} (h : a ≤ b) : 2 ^ b = 2 ^ a * 2 ^ (b - a) := by rw [← Nat.pow_add]; congr 1; omega
theorem wb_lt2 {a b : Nat} (h : a < b) : 2 ^ a < 2 ^ b := Nat.pow_lt_pow_right (by decide) h
theorem wb_mod (n : Nat) : lN n = lN (n % 2 ^ 64) := wb_inj (by rw [wb_tb, wb_tb]; apply BitVec.eq_of_toNat_eq; rw [BitVec.toNat_ofNat, BitVec.toNat_ofNat, Nat.mod_mod])
theorem wb_shr {n k : Nat} (hn : n < 2 ^ 64) (hk : k < 64) : ((lN n).toUInt64 >>> ((nI k).toInt64.toUInt64 &&& Int64.toUInt64 63)).toInt64 = lN (n / 2 ^ k) := by
  rw [wb_cu k hk]
  apply wb_inj
  apply BitVec.eq_of_toNat_eq
  show ((lN n).toUInt64 >>> UInt64.ofNat k).toNat = (BitVec.ofNat 64 _).toNat
  have h1 : (UInt64.ofNat k).toNat = k := by
    show (BitVec.ofNat 64 k).toNat = k
    rw [BitVec.toNat_ofNat, Nat.mod_eq_of_lt (by omega)]
  have h2 : (lN n).toUInt64.toNat = n := wb_tn hn
  rw [UInt64.toNat_shiftRight, h1, h2, Nat.mod_eq_of_lt hk, Nat.shiftRight_eq_div_pow, BitVec.toNat_ofNat, Nat.mod_eq_of_lt (Nat.lt_of_le_of_lt (Nat.div_le_self _ _) hn)]
theorem wb_shl (n : Nat) {k : Nat} (hk : k < 64) : lN n <<< ((nI k).toInt64 &&& 63) = lN (n * 2 ^ k) := by
  rw [wb_c k hk]
  apply wb_inj
  rw [Int64.toBitVec_shiftLeft, wb_tb, wb_tb, wb_tb, wb_sm k hk]
  apply BitVec.eq_of_toNat_eq
  rw [BitVec.shiftLeft_eq', BitVec.toNat_shiftLeft, BitVec.toNat_ofNat, BitVec.toNat_ofNat, BitVec.toNat_ofNat, Nat.mod_eq_of_lt (show k < 2 ^ 64 by omega), Nat.shiftLeft_eq, Nat.mul_mod, Nat.mod_mod, ← Nat.mul_mod]
theorem wb_and {a b : Nat} (ha : a < 2 ^ 64) (hb : b < 2 ^ 64) : lN a &&& lN b = lN (a &&& b) := by
  apply wb_inj
  rw [Int64.toBitVec_and, wb_tb, wb_tb, wb_tb]
  apply BitVec.eq_of_toNat_eq
  rw [BitVec.toNat_and, BitVec.toNat_ofNat, BitVec.toNat_ofNat, BitVec.toNat_ofNat, Nat.mod_eq_of_lt ha, Nat.mod_eq_of_lt hb, Nat.mod_eq_of_lt (Nat.and_lt_two_pow _ hb)]
theorem wb_or {a b : Nat} (ha : a < 2 ^ 64) (hb : b < 2 ^ 64) : lN a ||| lN b = lN (a ||| b) := by
  apply wb_inj
  rw [Int64.toBitVec_or, wb_tb, wb_tb, wb_tb]
  apply BitVec.eq_of_toNat_eq
  rw [BitVec.toNat_or, BitVec.toNat_ofNat, BitVec.toNat_ofNat, BitVec.toNat_ofNat, Nat.mod_eq_of_lt ha, Nat.mod_eq_of_lt hb, Nat.mod_eq_of_lt (Nat.or_lt_two_pow ha hb)]
theorem wb_mask {n k : Nat} (hn : n < 2 ^ 64) (hk : k < 64) : lN n &&& lN (2 ^ k - 1) = lN (n % 2 ^ k) := by
  rw [wb_and hn (by have := wb_lt2 hk; omega), Nat.and_two_pow_sub_one_eq_mod]
theorem wb_a1 {n : Nat} (hn : n < 2 ^ 64) : lN n &&& 1 = lN (n % 2) := wb_mask (k := 1) hn (by decide)
theorem wb_bit {n k : Nat} (hn : n < 2 ^ 64) (hk : k < 64) : ((lN n).toUInt64 >>> ((nI k).toInt64.toUInt64 &&& Int64.toUInt64 63)).toInt64 &&& 1 = lN (n / 2 ^ k % 2) := by
  rw [wb_shr hn hk, wb_a1 (Nat.lt_of_le_of_lt (Nat.div_le_self _ _) hn)]
theorem wb_xor {q k : Nat} (hk : k < 63) (h : 2 ^ k ≤ q) (h2 : q < 2 ^ (k + 1)) : lN q ^^^ lN (2 ^ k) = lN (q - 2 ^ k) := by
  obtain ⟨r, rfl⟩ : ∃ r, q = 2 ^ k + r := ⟨q - 2 ^ k, by omega⟩
  have hr : r < 2 ^ k := by rw [Nat.pow_succ] at h2; omega
  have hx : (2 ^ k + r) ^^^ 2 ^ k = r := by
    apply Nat.eq_of_testBit_eq
    intro i
    rw [Nat.testBit_xor, Nat.testBit_two_pow]
    rcases Nat.lt_trichotomy i k with h | h | h
    · rw [Nat.testBit_two_pow_add_gt h]
      simp [show ¬ k = i by omega]
    · subst h
      rw [Nat.testBit_two_pow_add_eq]
      simp
    · have a1 : 2 ^ (k + 1) ≤ 2 ^ i := Nat.pow_le_pow_right (by decide) h
      rw [Nat.testBit_lt_two_pow (show 2 ^ k + r < 2 ^ i by omega), Nat.testBit_lt_two_pow (show r < 2 ^ i by omega)]
      simp [show ¬ k = i by omega]
  have b1 := wb_lt2 (show k + 1 < 64 by omega)
  have b2 := wb_lt2 (show k < 64 by omega)
  apply wb_inj
  rw [Int64.toBitVec_xor, wb_tb, wb_tb, wb_tb]
  apply BitVec.eq_of_toNat_eq
  rw [BitVec.toNat_xor, BitVec.toNat_ofNat, BitVec.toNat_ofNat, BitVec.toNat_ofNat, Nat.mod_eq_of_lt (by omega : 2 ^ k + r < 2 ^ 64), Nat.mod_eq_of_lt b2, hx, Nat.add_sub_cancel_left, Nat.mod_eq_of_lt (by omega)]
/-! ===== lN: masks, 'or' of parts that don't overlap is a sum ===== -/
theorem u_tn {n : Nat} (h : n < 2 ^ 64) : (UInt64.ofNat n).toNat = n := Nat.mod_eq_of_lt h
theorem g_and {a b c : Nat} (ha : a < 2 ^ 64) (hb : b < 2 ^ 64) (hc : a &&& b = c) : lN a &&& lN b = lN c := by
  subst hc
  have h : UInt64.ofNat a &&& UInt64.ofNat b = UInt64.ofNat (a &&& b) := UInt64.toNat_inj.mp (by rw [UInt64.toNat_and, u_tn ha, u_tn hb, u_tn (Nat.and_lt_two_pow a hb)])
  have h2 := congrArg UInt64.toInt64 h
  exact h2
theorem g_and1 {a : Nat} (ha : a < 2 ^ 64) : lN a &&& 1 = lN (a % 2) := g_and (b := 1) ha (by decide) (Nat.and_two_pow_sub_one_eq_mod a 1)
theorem g_mask {a s p : Nat} (hp : 2 ^ s = p) (hs : s < 64) (ha : a < 2 ^ 64) : lN a &&& lN (p - 1) = lN (a % p) := by
  subst hp
  have := Nat.pow_lt_pow_right (show 1 < 2 by decide) hs
  exact g_and ha (by omega) (Nat.and_two_pow_sub_one_eq_mod a s)
theorem g_or {k p a b : Nat} (hp : 2 ^ k = p) (ha : a < p) (h : b * p + a < 2 ^ 64) : lN (b * p) ||| lN a = lN (b * p + a) := by
  subst hp
  have h1 : b * 2 ^ k ||| a = b * 2 ^ k + a := by rw [← Nat.shiftLeft_eq, Nat.shiftLeft_add_eq_or_of_lt ha]
  have h3 : UInt64.ofNat (b * 2 ^ k) ||| UInt64.ofNat a = UInt64.ofNat (b * 2 ^ k + a) := UInt64.toNat_inj.mp (by rw [UInt64.toNat_or, u_tn (by omega), u_tn (by omega), u_tn h, h1])
  have h2 := congrArg UInt64.toInt64 h3
  exact h2
theorem g_or' {k p a b : Nat} (hp : 2 ^ k = p) (ha : a < p) (h : a + b * p < 2 ^ 64) : lN a ||| lN (b * p) = lN (a + b * p) := by
  rw [Int64.or_comm, g_or hp ha (by omega), Nat.add_comm]
theorem g_ushr {a k p : Nat} {y : UInt64} (hy : y = UInt64.ofNat k) (hk : k < 64) (hp : 2 ^ k = p) (ha : a < 2 ^ 64) : ((lN a).toUInt64 >>> y).toInt64 = lN (a / p) := by
  subst hy hp
  have h : UInt64.ofNat a >>> UInt64.ofNat k = UInt64.ofNat (a / 2 ^ k) := UInt64.toNat_inj.mp (by rw [UInt64.toNat_shiftRight, u_tn ha, u_tn (by omega), u_tn (Nat.lt_of_le_of_lt (Nat.div_le_self _ _) ha), Nat.mod_eq_of_lt hk, Nat.shiftRight_eq_div_pow])
  have h2 := congrArg UInt64.toInt64 h
  exact h2
theorem g_shl {a k p : Nat} {y : Int64} (hy : y.toBitVec.smod 64 = BitVec.ofNat 64 k) (hk : k < 64) (hp : 2 ^ k = p) (ha : a < 2 ^ 64) : lN a <<< y = lN (a * p) := by
  subst hp
  apply Int64.toBitVec_inj.mp
  rw [Int64.toBitVec_shiftLeft, hy]
  apply BitVec.eq_of_toNat_eq
  have hb : (lN a).toBitVec.toNat = a := Nat.mod_eq_of_lt ha
  have hk' : (BitVec.ofNat 64 k).toNat = k := Nat.mod_eq_of_lt (by omega)
  have h : ((lN a).toBitVec <<< BitVec.ofNat 64 k).toNat = (a * 2 ^ k) % 2 ^ 64 := by simp only [BitVec.shiftLeft_eq', BitVec.toNat_shiftLeft, hb, hk', Nat.shiftLeft_eq]
  exact h
end
section
/-! the first slot that holds a triple -/
def qa_fd (K L R : Nat → Nat) (k x y : Nat) : Nat → Nat → Option Nat
  | 0, _ => none
  | d + 1, j => if K j = k ∧ L j = x ∧ R j = y then some j else qa_fd K L R k x y d (j + 1)
theorem qa_fd_none {K L R : Nat → Nat} {k x y : Nat} : ∀ d j, qa_fd K L R k x y d j = none → ∀ i, j ≤ i → i < j + d → ¬ (K i = k ∧ L i = x ∧ R i = y) := by
  intro d
  induction d with
  | zero => intro j _ i h1 h2; omega
  | succ d ih =>
    intro j h i h1 h2
    by_cases hc : K j = k ∧ L j = x ∧ R j = y
    · rw [qa_fd, if_pos hc] at h
      exact absurd h (by simp)
    · rw [qa_fd, if_neg hc] at h
      by_cases e : i = j
      · rw [e]; exact hc
      · exact ih (j + 1) h i (by omega) (by omega)
theorem qa_fd_some {K L R : Nat → Nat} {k x y : Nat} : ∀ d j i, qa_fd K L R k x y d j = some i → j ≤ i ∧ i < j + d ∧ K i = k ∧ L i = x ∧ R i = y := by
  intro d
  induction d with
  | zero => intro j i h; rw [qa_fd] at h; exact absurd h (by simp)
  | succ d ih =>
    intro j i h
    by_cases hc : K j = k ∧ L j = x ∧ R j = y
    · rw [qa_fd, if_pos hc] at h
      have e : j = i := Option.some.inj h
      subst e
      exact ⟨Nat.le_refl _, by omega, hc⟩
    · rw [qa_fd, if_neg hc] at h
      obtain ⟨a, b, q⟩ := ih (j + 1) i h
      exact ⟨by omega, by omega, q⟩
/-- the set of the triples of a section -/
def qa_In (m : Nat) (K L R : Nat → Nat) (k x y : Nat) : Prop := ∃ j, j < m ∧ K j = k ∧ L j = x ∧ R j = y
theorem qa_fd_in {K L R : Nat → Nat} {m k x y : Nat} (h : qa_In m K L R k x y) : ∃ j, qa_fd K L R k x y m 0 = some j := by
  cases e : qa_fd K L R k x y m 0 with
  | some j => exact ⟨j, rfl⟩
  | none =>
    obtain ⟨i, hi, hk⟩ := h
    exact absurd hk (qa_fd_none m 0 e i (by omega) (by omega))
theorem qa_in_fd {K L R : Nat → Nat} {m k x y j : Nat} (h : qa_fd K L R k x y m 0 = some j) : qa_In m K L R k x y := by
  obtain ⟨-, b, q⟩ := qa_fd_some m 0 j h
  exact ⟨j, by omega, q⟩
theorem qa_fd_nin {K L R : Nat → Nat} {m k x y : Nat} (h : qa_fd K L R k x y m 0 = none) : ¬ qa_In m K L R k x y := by
  intro q
  obtain ⟨j, e⟩ := qa_fd_in q
  rw [h] at e
  exact absurd e (by simp)
theorem qa_fd_cg {K L R K' L' R' : Nat → Nat} {k x y : Nat} : ∀ d j, (∀ i, j ≤ i → i < j + d → K i = K' i ∧ L i = L' i ∧ R i = R' i) → qa_fd K L R k x y d j = qa_fd K' L' R' k x y d j := by
  intro d
  induction d with
  | zero => intro j _; rfl
  | succ d ih =>
    intro j h
    obtain ⟨a, b, c⟩ := h j (by omega) (by omega)
    rw [qa_fd, qa_fd, a, b, c, ih (j + 1) (fun i h1 h2 => h i (by omega) (by omega))]
/-! vouching: an owner's facts, the owners' facts, ranks -/
def qa_tf (p q b x : Nat) : Nat := if x = 0 then p else if x = 1 then q else b + (x - 2)
theorem qa_tf0 {p q b : Nat} : qa_tf p q b 0 = p := rfl
theorem qa_tf1 {p q b : Nat} : qa_tf p q b 1 = q := rfl
theorem qa_tf2 {p q b x : Nat} (h : 2 ≤ x) : qa_tf p q b x = b + (x - 2) := by
  rw [qa_tf, if_neg (by omega), if_neg (by omega)]
theorem qa_tf_lt {p q b x T : Nat} (hp : p < T) (hq : q < T) (hb : b + 2 ≤ T) (hx : x < 4) : qa_tf p q b x < T := by
  unfold qa_tf
  split
  · exact hp
  · split
    · exact hq
    · omega
def qa_G (m : Nat) (K L R : Nat → Nat) (p q b : Nat) (k x y : Nat) : Prop := ∃ j, j < m ∧ K j = k ∧ qa_tf p q b (L j) = x ∧ qa_tf p q b (R j) = y
def qa_FX (c : Nat → Nat) (K L R : Nat → Nat → Nat) (on : Nat → Bool) (V P Q B : Nat → Nat) (m : Nat) (k x y : Nat) : Prop :=
  ∃ i, i < m ∧ on i = true ∧ qa_G (c (3 + V i)) (K (3 + V i)) (L (3 + V i)) (R (3 + V i)) (P i) (Q i) (B i) k x y
theorem qa_FX_0 {c : Nat → Nat} {K L R : Nat → Nat → Nat} {on : Nat → Bool} {V P Q B : Nat → Nat} {k x y : Nat} : ¬ qa_FX c K L R on V P Q B 0 k x y := fun ⟨i, h, _⟩ => absurd h (Nat.not_lt_zero i)
theorem qa_FX_t {c : Nat → Nat} {K L R : Nat → Nat → Nat} {on : Nat → Bool} {V P Q B : Nat → Nat} {m k x y : Nat} (h : on m = true) :
    qa_FX c K L R on V P Q B (m + 1) k x y ↔ (qa_FX c K L R on V P Q B m k x y ∨ qa_G (c (3 + V m)) (K (3 + V m)) (L (3 + V m)) (R (3 + V m)) (P m) (Q m) (B m) k x y) := by
  constructor
  · rintro ⟨i, hi, ho, hg⟩
    by_cases e : i = m
    · subst e; exact Or.inr hg
    · exact Or.inl ⟨i, by omega, ho, hg⟩
  · rintro (⟨i, hi, ho, hg⟩ | hg)
    · exact ⟨i, by omega, ho, hg⟩
    · exact ⟨m, by omega, h, hg⟩
theorem qa_FX_f {c : Nat → Nat} {K L R : Nat → Nat → Nat} {on : Nat → Bool} {V P Q B : Nat → Nat} {m k x y : Nat} (h : ¬ on m = true) :
    qa_FX c K L R on V P Q B (m + 1) k x y ↔ qa_FX c K L R on V P Q B m k x y := by
  constructor
  · rintro ⟨i, hi, ho, hg⟩
    by_cases e : i = m
    · subst e; exact absurd ho h
    · exact ⟨i, by omega, ho, hg⟩
  · rintro ⟨i, hi, ho, hg⟩
    exact ⟨i, by omega, ho, hg⟩
def qa_rk (on : Nat → Bool) : Nat → Nat
  | 0 => 0
  | i + 1 => qa_rk on i + (if on i = true then 1 else 0)
theorem qa_rk_t {on : Nat → Bool} {i : Nat} (h : on i = true) : qa_rk on (i + 1) = qa_rk on i + 1 := by rw [qa_rk, if_pos h]
theorem qa_rk_f {on : Nat → Bool} {i : Nat} (h : ¬ on i = true) : qa_rk on (i + 1) = qa_rk on i := by
  rw [qa_rk, if_neg h]
  rfl
theorem qa_rk_s (on : Nat → Bool) (i : Nat) : qa_rk on i ≤ qa_rk on (i + 1) := by rw [qa_rk]; omega
theorem qa_rk_mono (on : Nat → Bool) : ∀ d i, qa_rk on i ≤ qa_rk on (i + d) := by
  intro d
  induction d with
  | zero => intro i; exact Nat.le_refl _
  | succ d ih => intro i; exact Nat.le_trans (ih i) (qa_rk_s on (i + d))
theorem qa_rk_le (on : Nat → Bool) : ∀ i, qa_rk on i ≤ i := by
  intro i
  induction i with
  | zero => exact Nat.le_refl _
  | succ i ih => rw [qa_rk]; split <;> omega
theorem qa_rk_lt {on : Nat → Bool} {i j : Nat} (h : i < j) (ho : on i = true) : qa_rk on i + 1 ≤ qa_rk on j := by
  have := qa_rk_mono on (j - (i + 1)) (i + 1)
  rw [show i + 1 + (j - (i + 1)) = j by omega, qa_rk_t ho] at this
  exact this
theorem qa_rk_inj {on : Nat → Bool} {i j : Nat} (hi : on i = true) (hj : on j = true) (h : qa_rk on i = qa_rk on j) : i = j := by
  rcases Nat.lt_trichotomy i j with a | a | a
  · have := qa_rk_lt a hi; omega
  · exact a
  · have := qa_rk_lt a hj; omega
/-- a map that carries an owner's terms carries the owners' facts -/
theorem qa_FX_map {c : Nat → Nat} {K L R : Nat → Nat → Nat} {on : Nat → Bool} {V P Q B B' : Nat → Nat} {m : Nat} (e : Nat → Nat)
    (hL : ∀ i, i < m → ∀ j, j < c (3 + V i) → L (3 + V i) j < 4 ∧ R (3 + V i) j < 4)
    (he : ∀ i x, i < m → on i = true → x < 4 → e (qa_tf (P i) (Q i) (B i) x) = qa_tf (P i) (Q i) (B' i) x) {k x y : Nat}
    (h : qa_FX c K L R on V P Q B m k x y) : qa_FX c K L R on V P Q B' m k (e x) (e y) := by
  obtain ⟨i, hi, ho, j, hj, hk, rfl, rfl⟩ := h
  obtain ⟨a, b⟩ := hL i hi j hj
  exact ⟨i, hi, ho, j, hj, hk, (he i _ hi ho a).symm, (he i _ hi ho b).symm⟩
def qa_Mt (n : Nat) (K L R : Nat → Nat) (F : Nat → Nat → Nat → Prop) (T p q : Nat) : Prop :=
  ∃ g : Nat → Nat, g 0 = p ∧ g 1 = q ∧ (∀ v, v < 5 → g v < T) ∧ ∀ j, j < n → F (K j) (g (L j)) (g (R j))
theorem qa_Mt_map {n : Nat} {K L R : Nat → Nat} {F F' : Nat → Nat → Nat → Prop} {T T' p q : Nat} (e : Nat → Nat) (hT : ∀ t, t < T → e t < T') (hp : e p = p) (hq : e q = q)
    (hF : ∀ k x y, F k x y → F' k (e x) (e y)) (h : qa_Mt n K L R F T p q) : qa_Mt n K L R F' T' p q := by
  obtain ⟨g, h0, h1, h2, h3⟩ := h
  exact ⟨fun v => e (g v), by show e (g 0) = p; rw [h0, hp], by show e (g 1) = q; rw [h1, hq], fun v hv => hT _ (h2 v hv), fun j hj => hF _ _ _ (h3 j hj)⟩
noncomputable def qa_dc (on : Nat → Bool) (base m t : Nat) : Nat :=
  @dite Nat (∃ i, i < m ∧ on i = true ∧ qa_rk on i = (t - base) / 2) (Classical.propDecidable _) (fun h => if t < base then t else 5 + 2 * h.choose + (t - base) % 2) (fun _ => if t < base then t else 0)
theorem qa_dc_lo {on : Nat → Bool} {base m t : Nat} (h : t < base) : qa_dc on base m t = t := by
  unfold qa_dc
  split
  · first | rfl | rw [if_pos h]
  · first | rfl | rw [if_pos h]
theorem qa_dc_hi {on : Nat → Bool} {base m i s : Nat} (hi : i < m) (ho : on i = true) (hs : s < 2) : qa_dc on base m (base + 2 * qa_rk on i + s) = 5 + 2 * i + s := by
  have hd : (base + 2 * qa_rk on i + s - base) / 2 = qa_rk on i := by omega
  have hm : (base + 2 * qa_rk on i + s - base) % 2 = s := by omega
  have hx : ∃ j, j < m ∧ on j = true ∧ qa_rk on j = (base + 2 * qa_rk on i + s - base) / 2 := ⟨i, hi, ho, hd.symm⟩
  unfold qa_dc
  rw [dif_pos hx, if_neg (by omega), hm]
  have hc := hx.choose_spec
  rw [qa_rk_inj hc.2.1 ho (hc.2.2.trans hd)]
theorem qa_dc_lt {on : Nat → Bool} {base m t : Nat} (hb : base ≤ 5) (hm : m ≤ 8) : qa_dc on base m t < 21 := by
  unfold qa_dc
  split
  · rename_i h
    have := h.choose_spec.1
    split
    · omega
    · omega
  · split <;> omega
def qa_ec (on : Nat → Bool) (base m t : Nat) : Nat :=
  if t < base then t else if 5 ≤ t ∧ (t - 5) / 2 < m ∧ on ((t - 5) / 2) = true then base + 2 * qa_rk on ((t - 5) / 2) + (t - 5) % 2 else 0
theorem qa_ec_lo {on : Nat → Bool} {base m t : Nat} (h : t < base) : qa_ec on base m t = t := by rw [qa_ec, if_pos h]
theorem qa_ec_hi {on : Nat → Bool} {base m i s : Nat} (hb : base ≤ 5) (hi : i < m) (ho : on i = true) (hs : s < 2) : qa_ec on base m (5 + 2 * i + s) = base + 2 * qa_rk on i + s := by
  have hd : (5 + 2 * i + s - 5) / 2 = i := by omega
  have hm : (5 + 2 * i + s - 5) % 2 = s := by omega
  rw [qa_ec, if_neg (by omega), hd, hm, if_pos ⟨by omega, hi, ho⟩]
theorem qa_ec_lt {on : Nat → Bool} {base m t : Nat} (hb : 0 < base) : qa_ec on base m t < base + 2 * qa_rk on m := by
  unfold qa_ec
  split
  · omega
  · split
    · rename_i h
      have := qa_rk_lt h.2.1 h.2.2
      omega
    · omega
theorem qa_tf_map {e : Nat → Nat} {p q b b' base x : Nat} (hp : p < base) (hq : q < base) (hlo : ∀ t, t < base → e t = t) (hhi : ∀ s, s < 2 → e (b + s) = b' + s) (hx : x < 4) :
    e (qa_tf p q b x) = qa_tf p q b' x := by
  by_cases h0 : x = 0
  · subst h0; rw [qa_tf0, qa_tf0]; exact hlo p hp
  · by_cases h1 : x = 1
    · subst h1; rw [qa_tf1, qa_tf1]; exact hlo q hq
    · rw [qa_tf2 (by omega), qa_tf2 (by omega)]; exact hhi _ (by omega)
/-- the two numberings of the unknown terms give the same matches -/
theorem qa_xy {c : Nat → Nat} {K L R : Nat → Nat → Nat} {on : Nat → Bool} {V P Q : Nat → Nat} {m base p q n : Nat} {Kq Lq Rq : Nat → Nat}
    (hm : m ≤ 8) (hb : base ≤ 5) (hL : ∀ i, i < m → ∀ j, j < c (3 + V i) → L (3 + V i) j < 4 ∧ R (3 + V i) j < 4)
    (hP : ∀ i, i < m → P i < base ∧ Q i < base) (hp : p < base) (hq : q < base) :
    qa_Mt n Kq Lq Rq (qa_FX c K L R on V P Q (fun i => 5 + 2 * i) m) 21 p q ↔ qa_Mt n Kq Lq Rq (qa_FX c K L R on V P Q (fun i => base + 2 * qa_rk on i) m) (base + 2 * qa_rk on m) p q := by
  constructor
  · refine qa_Mt_map (qa_ec on base m) (fun t _ => qa_ec_lt (by omega)) (qa_ec_lo hp) (qa_ec_lo hq) (fun k x y h => ?_)
    exact qa_FX_map _ hL (fun i x hi ho hx => qa_tf_map (hP i hi).1 (hP i hi).2 (fun t ht => qa_ec_lo ht) (fun s hs => qa_ec_hi hb hi ho hs) hx) h
  · refine qa_Mt_map (qa_dc on base m) (fun t _ => qa_dc_lt hb hm) (qa_dc_lo hp) (qa_dc_lo hq) (fun k x y h => ?_)
    exact qa_FX_map _ hL (fun i x hi ho hx => qa_tf_map (hP i hi).1 (hP i hi).2 (fun t ht => qa_dc_lo ht) (fun s hs => qa_dc_hi hi ho hs) hx) h
end
section
/-! the search: images given in the order of the variables -/
def qa_Ok (m : Nat) (K L R : Nat → Nat) (F : Nat → Nat → Nat → Prop) (lo hi : Nat → Nat) (n : Nat) (g : Nat → Nat) : Prop :=
  (∀ v, v < n → lo v ≤ g v ∧ g v ≤ hi v) ∧ ∀ j, j < m → L j < n → R j < n → F (K j) (g (L j)) (g (R j))
def qa_due (l r n : Nat) : Prop := (r < l ∧ l = n) ∨ (l ≤ r ∧ r = n)
def qa_set (g : Nat → Nat) (n t v : Nat) : Nat := if v = n then t else g v
theorem qa_set_s {g : Nat → Nat} {n t : Nat} : qa_set g n t n = t := if_pos rfl
theorem qa_set_n {g : Nat → Nat} {n t v : Nat} (h : v ≠ n) : qa_set g n t v = g v := if_neg h
theorem qa_Ok_cg {m : Nat} {K L R : Nat → Nat} {F : Nat → Nat → Nat → Prop} {lo hi : Nat → Nat} {n : Nat} {g g' : Nat → Nat} (h : ∀ v, v < n → g' v = g v)
    (H : qa_Ok m K L R F lo hi n g) : qa_Ok m K L R F lo hi n g' := by
  refine ⟨fun v hv => ?_, fun j hj hl hr => ?_⟩
  · rw [h v hv]; exact H.1 v hv
  · rw [h _ hl, h _ hr]; exact H.2 j hj hl hr
theorem qa_Ok_0 {m : Nat} {K L R : Nat → Nat} {F : Nat → Nat → Nat → Prop} {lo hi : Nat → Nat} {g : Nat → Nat} : qa_Ok m K L R F lo hi 0 g :=
  ⟨fun v h => absurd h (Nat.not_lt_zero v), fun j _ h => absurd h (Nat.not_lt_zero _)⟩
theorem qa_Ok_s {m : Nat} {K L R : Nat → Nat} {F : Nat → Nat → Nat → Prop} {lo hi : Nat → Nat} {n : Nat} {g : Nat → Nat} (H : qa_Ok m K L R F lo hi n g)
    (hr : lo n ≤ g n ∧ g n ≤ hi n) (hd : ∀ j, j < m → qa_due (L j) (R j) n → F (K j) (g (L j)) (g (R j))) : qa_Ok m K L R F lo hi (n + 1) g := by
  refine ⟨fun v hv => ?_, fun j hj hl hr => ?_⟩
  · by_cases e : v = n
    · rw [e]; exact hr
    · exact H.1 v (by omega)
  · by_cases e : qa_due (L j) (R j) n
    · exact hd j hj e
    · unfold qa_due at e
      exact H.2 j hj (by omega) (by omega)
theorem qa_Ok_p {m : Nat} {K L R : Nat → Nat} {F : Nat → Nat → Nat → Prop} {lo hi : Nat → Nat} {n n' : Nat} {g : Nat → Nat} (h : n ≤ n') (H : qa_Ok m K L R F lo hi n' g) : qa_Ok m K L R F lo hi n g :=
  ⟨fun v hv => H.1 v (by omega), fun j hj hl hr => H.2 j hj (by omega) (by omega)⟩
theorem qa_Ok_due {m : Nat} {K L R : Nat → Nat} {F : Nat → Nat → Nat → Prop} {lo hi : Nat → Nat} {n : Nat} {g : Nat → Nat} (H : qa_Ok m K L R F lo hi (n + 1) g) :
    ∀ j, j < m → qa_due (L j) (R j) n → F (K j) (g (L j)) (g (R j)) := fun j hj e => by
  unfold qa_due at e
  exact H.2 j hj (by omega) (by omega)
/-- an image that goes on from g below n, with a term at n that is t or beyond -/
def qa_Ex (m : Nat) (K L R : Nat → Nat) (F : Nat → Nat → Nat → Prop) (lo hi : Nat → Nat) (n : Nat) (g : Nat → Nat) (t : Nat) : Prop :=
  ∃ g' : Nat → Nat, (∀ v, v < n → g' v = g v) ∧ t ≤ g' n ∧ qa_Ok m K L R F lo hi 5 g'
theorem qa_Ex_s {m : Nat} {K L R : Nat → Nat} {F : Nat → Nat → Nat → Prop} {lo hi : Nat → Nat} {n : Nat} {g : Nat → Nat} {t : Nat} (h : qa_Ex m K L R F lo hi n g (t + 1)) : qa_Ex m K L R F lo hi n g t := by
  obtain ⟨g', a, b, c⟩ := h
  exact ⟨g', a, by omega, c⟩
theorem qa_Ex_in {m : Nat} {K L R : Nat → Nat} {F : Nat → Nat → Nat → Prop} {lo hi : Nat → Nat} {n : Nat} {g : Nat → Nat} {t : Nat} (h : qa_Ex m K L R F lo hi (n + 1) (qa_set g n t) 0) : qa_Ex m K L R F lo hi n g t := by
  obtain ⟨g', a, b, c⟩ := h
  refine ⟨g', fun v hv => ?_, ?_, c⟩
  · rw [a v (by omega), qa_set_n (by omega)]
  · rw [a n (by omega), qa_set_s]; exact Nat.le_refl _
theorem qa_Ex_c {m : Nat} {K L R : Nat → Nat} {F : Nat → Nat → Nat → Prop} {lo hi : Nat → Nat} {n : Nat} {g : Nat → Nat} {t : Nat} (h : qa_Ex m K L R F lo hi n g t) (h1 : ¬ qa_Ex m K L R F lo hi n g (t + 1)) :
    qa_Ex m K L R F lo hi (n + 1) (qa_set g n t) 0 := by
  obtain ⟨g', a, b, c⟩ := h
  have e : g' n = t := by
    rcases Nat.lt_or_ge t (g' n) with z | z
    · exact absurd ⟨g', a, z, c⟩ h1
    · omega
  refine ⟨g', fun v hv => ?_, Nat.zero_le _, c⟩
  by_cases q : v = n
  · rw [q, qa_set_s]; exact e
  · rw [qa_set_n q]; exact a v (by omega)
theorem qa_Ex_Ok {m : Nat} {K L R : Nat → Nat} {F : Nat → Nat → Nat → Prop} {lo hi : Nat → Nat} {n : Nat} {g : Nat → Nat} (hn : n ≤ 5) (h : qa_Ex m K L R F lo hi n g 0) : qa_Ok m K L R F lo hi n g := by
  obtain ⟨g', a, b, c⟩ := h
  exact qa_Ok_cg (fun v hv => (a v hv).symm) (qa_Ok_p hn c)
theorem qa_Ex_5 {m : Nat} {K L R : Nat → Nat} {F : Nat → Nat → Nat → Prop} {lo hi : Nat → Nat} {g : Nat → Nat} (h : qa_Ok m K L R F lo hi 5 g) : qa_Ex m K L R F lo hi 5 g 0 := ⟨g, fun _ _ => rfl, Nat.zero_le _, h⟩
theorem qa_Ex_no {m : Nat} {K L R : Nat → Nat} {F : Nat → Nat → Nat → Prop} {lo hi : Nat → Nat} {n : Nat} {g : Nat → Nat} {t : Nat} (hn : n < 5) (ht : hi n < t) : ¬ qa_Ex m K L R F lo hi n g t := by
  rintro ⟨g', a, b, c⟩
  have := (c.1 n hn).2
  omega
/-- if g with t at n can't stand, an image from t on begins beyond t -/
theorem qa_Ex_no1 {m : Nat} {K L R : Nat → Nat} {F : Nat → Nat → Nat → Prop} {lo hi : Nat → Nat} {n : Nat} {g : Nat → Nat} {t : Nat} (hn : n < 5) (h : ¬ qa_Ok m K L R F lo hi (n + 1) (qa_set g n t))
    (h1 : qa_Ex m K L R F lo hi n g t) : qa_Ex m K L R F lo hi n g (t + 1) := by
  apply Classical.byContradiction
  intro z
  exact h (qa_Ex_Ok (by omega) (qa_Ex_c h1 z))
def qa_Im (m : Nat) (K L R : Nat → Nat) (F : Nat → Nat → Nat → Prop) (lo hi : Nat → Nat) : Prop := ∃ g : Nat → Nat, (∀ v, v < 5 → lo v ≤ g v ∧ g v ≤ hi v) ∧ ∀ j, j < m → F (K j) (g (L j)) (g (R j))
theorem qa_Im_Ex {m : Nat} {K L R : Nat → Nat} {F : Nat → Nat → Nat → Prop} {lo hi : Nat → Nat} (hL : ∀ j, j < m → L j < 5 ∧ R j < 5) (g : Nat → Nat) : qa_Im m K L R F lo hi ↔ qa_Ex m K L R F lo hi 0 g 0 := by
  constructor
  · rintro ⟨f, a, b⟩
    exact ⟨f, fun v hv => absurd hv (Nat.not_lt_zero v), Nat.zero_le _, a, fun j hj _ _ => b j hj⟩
  · rintro ⟨f, _, _, a, b⟩
    exact ⟨f, a, fun j hj => b j hj (hL j hj).1 (hL j hj).2⟩
/-! from intervals to heads -/
def qa_lo (p q h0 h1 v : Nat) : Nat := if v = h1 then q else if v = h0 then p else 0
def qa_hi (p q h0 h1 T v : Nat) : Nat := if v = h1 then q else if v = h0 then p else T
theorem qa_Im_head {m : Nat} {K L R : Nat → Nat} {F : Nat → Nat → Nat → Prop} {p q h0 h1 T : Nat} (hh : h0 < 5) (hh1 : h1 < 5) (hp : p ≤ T) (hq : q ≤ T) (hpq : h0 = h1 → p = q) :
    qa_Im m K L R F (qa_lo p q h0 h1) (qa_hi p q h0 h1 T) ↔ ∃ g : Nat → Nat, g h0 = p ∧ g h1 = q ∧ (∀ v, v < 5 → g v < T + 1) ∧ ∀ j, j < m → F (K j) (g (L j)) (g (R j)) := by
  constructor
  · rintro ⟨g, a, b⟩
    have e1 : g h1 = q := by
      have := a h1 hh1
      rw [qa_lo, qa_hi, if_pos rfl, if_pos rfl] at this
      omega
    have e0 : g h0 = p := by
      by_cases e : h0 = h1
      · rw [e, e1, hpq e]
      · have := a h0 hh
        rw [qa_lo, qa_hi, if_neg e, if_neg e, if_pos rfl, if_pos rfl] at this
        omega
    refine ⟨g, e0, e1, fun v hv => ?_, b⟩
    have := (a v hv).2
    unfold qa_hi at this
    split at this
    · omega
    · split at this <;> omega
  · rintro ⟨g, e0, e1, a, b⟩
    refine ⟨g, fun v hv => ?_, b⟩
    have := a v hv
    unfold qa_lo qa_hi
    by_cases z1 : v = h1
    · rw [if_pos z1, if_pos z1, z1, e1]; omega
    · rw [if_neg z1, if_neg z1]
      by_cases z0 : v = h0
      · rw [if_pos z0, if_pos z0, z0, e0]; omega
      · rw [if_neg z0, if_neg z0]; omega
/-! codes: five digits to the base five -/
def qa_dg (code v : Nat) : Nat := code / 5 ^ v % 5
theorem qa_dg_lt (code v : Nat) : qa_dg code v < 5 := Nat.mod_lt _ (by decide)
def qa_cd (g : Nat → Nat) : Nat := g 0 + 5 * (g 1 + 5 * (g 2 + 5 * (g 3 + 5 * g 4)))
theorem qa_cd_lt {g : Nat → Nat} (h : ∀ v, v < 5 → g v < 5) : qa_cd g < 3125 := by
  have a := h 0 (by decide); have b := h 1 (by decide); have c := h 2 (by decide); have d := h 3 (by decide); have e := h 4 (by decide)
  unfold qa_cd
  omega
theorem qa_dg_0 (n : Nat) : qa_dg n 0 = n % 5 := by unfold qa_dg; rw [Nat.pow_zero, Nat.div_one]
theorem qa_dg_s (n v : Nat) : qa_dg n (v + 1) = qa_dg (n / 5) v := by unfold qa_dg; rw [Nat.pow_succ, Nat.mul_comm, Nat.div_div_eq_div_mul]
theorem qa_dg_c {a b : Nat} (h : a < 5) : qa_dg (a + 5 * b) 0 = a ∧ (a + 5 * b) / 5 = b := by
  rw [qa_dg_0]
  omega
theorem qa_dg_cd {g : Nat → Nat} (h : ∀ v, v < 5 → g v < 5) : ∀ v, v < 5 → qa_dg (qa_cd g) v = g v := by
  have a := h 0 (by decide); have b := h 1 (by decide); have c := h 2 (by decide); have d := h 3 (by decide); have e := h 4 (by decide)
  intro v hv
  unfold qa_cd
  match v, hv with
  | 0, _ => exact (qa_dg_c a).1
  | 1, _ => rw [qa_dg_s, (qa_dg_c a).2]; exact (qa_dg_c b).1
  | 2, _ => rw [qa_dg_s, (qa_dg_c a).2, qa_dg_s, (qa_dg_c b).2]; exact (qa_dg_c c).1
  | 3, _ => rw [qa_dg_s, (qa_dg_c a).2, qa_dg_s, (qa_dg_c b).2, qa_dg_s, (qa_dg_c c).2]; exact (qa_dg_c d).1
  | 4, _ =>
    rw [qa_dg_s, (qa_dg_c a).2, qa_dg_s, (qa_dg_c b).2, qa_dg_s, (qa_dg_c c).2, qa_dg_s, (qa_dg_c d).2, qa_dg_0]
    omega
/-! the candidate over the rows: terms below vl, or any of five -/
def qa_Cd (h0 h1 a b : Nat) (m : Nat) (K L R : Nat → Nat) (F : Nat → Nat → Nat → Prop) (T : Nat) : Prop := ∃ g : Nat → Nat, g h0 = a ∧ g h1 = b ∧ (∀ v, v < 5 → g v < T) ∧ ∀ j, j < m → F (K j) (g (L j)) (g (R j))
theorem qa_Cd_5 {h0 h1 a b m : Nat} {K L R : Nat → Nat} {F : Nat → Nat → Nat → Prop} {T : Nat} (hT : T ≤ 5) (h0T : 0 < T) (ha : a < T) (hb : b < T) (hF : ∀ k x y, F k x y → x < T ∧ y < T) :
    qa_Cd h0 h1 a b m K L R F T ↔ qa_Cd h0 h1 a b m K L R F 5 := by
  constructor
  · rintro ⟨g, x, y, z, w⟩
    exact ⟨g, x, y, fun v hv => Nat.lt_of_lt_of_le (z v hv) hT, w⟩
  · rintro ⟨g, x, y, z, w⟩
    refine ⟨fun v => if g v < T then g v else 0, ?_, ?_, fun v _ => ?_, fun j hj => ?_⟩
    · show (if g h0 < T then g h0 else 0) = a
      rw [x, if_pos ha]
    · show (if g h1 < T then g h1 else 0) = b
      rw [y, if_pos hb]
    · show (if g v < T then g v else 0) < T
      split <;> omega
    · have q := hF _ _ _ (w j hj)
      show F (K j) (if g (L j) < T then g (L j) else 0) (if g (R j) < T then g (R j) else 0)
      rw [if_pos q.1, if_pos q.2]
      exact w j hj
theorem qa_Cd_code {h0 h1 a b m : Nat} {K L R : Nat → Nat} {F : Nat → Nat → Nat → Prop} (hh : h0 < 5) (hh1 : h1 < 5) (hL : ∀ j, j < m → L j < 5 ∧ R j < 5) :
    qa_Cd h0 h1 a b m K L R F 5 ↔ ∃ n, n < 3125 ∧ qa_dg n h0 = a ∧ qa_dg n h1 = b ∧ ∀ j, j < m → F (K j) (qa_dg n (L j)) (qa_dg n (R j)) := by
  constructor
  · rintro ⟨g, x, y, z, w⟩
    refine ⟨qa_cd g, qa_cd_lt z, ?_, ?_, fun j hj => ?_⟩
    · rw [qa_dg_cd z _ hh, x]
    · rw [qa_dg_cd z _ hh1, y]
    · rw [qa_dg_cd z _ (hL j hj).1, qa_dg_cd z _ (hL j hj).2]
      exact w j hj
  · rintro ⟨n, _, x, y, w⟩
    exact ⟨qa_dg n, x, y, fun v _ => qa_dg_lt n v, w⟩
/-! the number of the slots that an image reaches -/
def qa_sn (tg : Nat → Option Nat) : Nat → (Nat → Bool) × Nat
  | 0 => (fun _ => false, 0)
  | j + 1 => match tg j with
    | none => qa_sn tg j
    | some t => if (qa_sn tg j).1 t = true then qa_sn tg j else (fun v => if v = t then true else (qa_sn tg j).1 v, (qa_sn tg j).2 + 1)
theorem qa_sn_n {tg : Nat → Option Nat} {j : Nat} (h : tg j = none) : qa_sn tg (j + 1) = qa_sn tg j := by simp only [qa_sn, h]
theorem qa_sn_t {tg : Nat → Option Nat} {j t : Nat} (h : tg j = some t) (hs : (qa_sn tg j).1 t = true) : qa_sn tg (j + 1) = qa_sn tg j := by
  rw [qa_sn, h]
  exact if_pos hs
theorem qa_sn_f {tg : Nat → Option Nat} {j t : Nat} (h : tg j = some t) (hs : ¬ (qa_sn tg j).1 t = true) : qa_sn tg (j + 1) = (fun v => if v = t then true else (qa_sn tg j).1 v, (qa_sn tg j).2 + 1) := by
  rw [qa_sn, h]
  exact if_neg hs
theorem qa_sn_le (tg : Nat → Option Nat) : ∀ j, (qa_sn tg j).2 ≤ j := by
  intro j
  induction j with
  | zero => exact Nat.le_refl _
  | succ j ih =>
    cases e : tg j with
    | none => rw [qa_sn_n e]; omega
    | some t =>
      by_cases hs : (qa_sn tg j).1 t = true
      · rw [qa_sn_t e hs]; omega
      · rw [qa_sn_f e hs]; show (qa_sn tg j).2 + 1 ≤ j + 1; omega
theorem qa_sn_cg {tg tg' : Nat → Option Nat} : ∀ m, (∀ j, j < m → tg j = tg' j) → qa_sn tg m = qa_sn tg' m := by
  intro m
  induction m with
  | zero => intro _; rfl
  | succ m ih =>
    intro h
    rw [qa_sn, qa_sn, h m (by omega), ih (fun j hj => h j (by omega))]
def qa_tg (m : Nat) (K L R : Nat → Nat) (g : Nat → Nat) (j : Nat) : Option Nat := qa_fd K L R (K j) (g (L j)) (g (R j)) m 0
def qa_gg (a b e v : Nat) : Nat := if v = 0 then 0 else if v = 1 then 1 else if v = 2 then a else if v = 3 then b else e
def qa_gd (m : Nat) (K L R : Nat → Nat) (g : Nat → Nat) : Prop := ∀ j, j < m → qa_In m K L R (K j) (g (L j)) (g (R j))
def qa_Iv (m : Nat) (K L R : Nat → Nat) (D : Nat → Nat → Nat → Prop) (r : Nat) : Prop :=
  r ≤ m ∧ (∀ a b e, D a b e → qa_gd m K L R (qa_gg a b e) → r ≤ (qa_sn (qa_tg m K L R (qa_gg a b e)) m).2) ∧
  (r = m ∨ ∃ a b e, a < 5 ∧ b < 5 ∧ e < 5 ∧ qa_gd m K L R (qa_gg a b e) ∧ (qa_sn (qa_tg m K L R (qa_gg a b e)) m).2 = r)
theorem qa_Iv_0 {m : Nat} {K L R : Nat → Nat} {D : Nat → Nat → Nat → Prop} (h : ∀ a b e, ¬ D a b e) : qa_Iv m K L R D m := ⟨Nat.le_refl _, fun a b e d => absurd d (h a b e), Or.inl rfl⟩
theorem qa_Iv_w {m : Nat} {K L R : Nat → Nat} {D D' : Nat → Nat → Nat → Prop} {r : Nat} (h : ∀ a b e, D' a b e → D a b e) (H : qa_Iv m K L R D r) : qa_Iv m K L R D' r := ⟨H.1, fun a b e d => H.2.1 a b e (h a b e d), H.2.2⟩
theorem qa_Iv_lo {m : Nat} {K L R : Nat → Nat} {D D' : Nat → Nat → Nat → Prop} {r a b e : Nat} (ha : a < 5) (hb : b < 5) (he : e < 5) (h : ∀ x y z, D' x y z → D x y z ∨ (x = a ∧ y = b ∧ z = e)) (hg : qa_gd m K L R (qa_gg a b e))
    (hl : (qa_sn (qa_tg m K L R (qa_gg a b e)) m).2 < r) (H : qa_Iv m K L R D r) : qa_Iv m K L R D' (qa_sn (qa_tg m K L R (qa_gg a b e)) m).2 := by
  refine ⟨qa_sn_le _ _, fun x y z d g => ?_, Or.inr ⟨a, b, e, ha, hb, he, hg, rfl⟩⟩
  rcases h x y z d with d | ⟨rfl, rfl, rfl⟩
  · have := H.2.1 x y z d g; omega
  · exact Nat.le_refl _
theorem qa_Iv_ge {m : Nat} {K L R : Nat → Nat} {D D' : Nat → Nat → Nat → Prop} {r a b e : Nat} (h : ∀ x y z, D' x y z → D x y z ∨ (x = a ∧ y = b ∧ z = e))
    (hl : qa_gd m K L R (qa_gg a b e) → r ≤ (qa_sn (qa_tg m K L R (qa_gg a b e)) m).2) (H : qa_Iv m K L R D r) : qa_Iv m K L R D' r := by
  refine ⟨H.1, fun x y z d g => ?_, H.2.2⟩
  rcases h x y z d with d | ⟨rfl, rfl, rfl⟩
  · exact H.2.1 x y z d g
  · exact hl g
theorem qa_Iv_le {m : Nat} {K L R : Nat → Nat} {D D' : Nat → Nat → Nat → Prop} {r r' : Nat} (h : ∀ a b e, a < 5 → b < 5 → e < 5 → D a b e) (H : qa_Iv m K L R D r) (H' : qa_Iv m K L R D' r') : r ≤ r' := by
  rcases H'.2.2 with e | ⟨a, b, e, ha, hb, he, hg, hs⟩
  · rw [e]; exact H.1
  · rw [← hs]; exact H.2.1 a b e (h a b e ha hb he) hg
theorem qa_gg_dg {n : Nat} (h0 : qa_dg n 0 = 0) (h1 : qa_dg n 1 = 1) : ∀ v, v < 5 → qa_dg n v = qa_gg (qa_dg n 2) (qa_dg n 3) (qa_dg n 4) v := by
  intro v hv
  match v, hv with
  | 0, _ => exact h0
  | 1, _ => exact h1
  | 2, _ => rfl
  | 3, _ => rfl
  | 4, _ => rfl
theorem qa_tg_cg {m : Nat} {K L R : Nat → Nat} {g g' : Nat → Nat} (hL : ∀ j, j < m → L j < 5 ∧ R j < 5) (h : ∀ v, v < 5 → g v = g' v) : ∀ j, j < m → qa_tg m K L R g j = qa_tg m K L R g' j := by
  intro j hj
  unfold qa_tg
  rw [h _ (hL j hj).1, h _ (hL j hj).2]
theorem qa_gd_cg {m : Nat} {K L R : Nat → Nat} {g g' : Nat → Nat} (hL : ∀ j, j < m → L j < 5 ∧ R j < 5) (h : ∀ v, v < 5 → g v = g' v) (H : qa_gd m K L R g) : qa_gd m K L R g' := by
  intro j hj
  rw [← h _ (hL j hj).1, ← h _ (hL j hj).2]
  exact H j hj
end
section
/-! bits -/
theorem qb_a1 (y : Int32) : (y &&& 1 = 1) ↔ bt y 0 = true := by
  have e : bt y 0 = decide (y.toBitVec.toNat % 2 = 1) := Nat.testBit_zero _
  rw [pk_and y 1 (by decide), e, decide_eq_true_iff]
  show nI (y.toBitVec.toNat % 2) = nI 1 ↔ _
  rw [nI_eq (by omega) (by omega)]
theorem qb_a0 (y : Int32) : (y &&& 1 = 0) ↔ ¬ bt y 0 = true := by
  have e : bt y 0 = decide (y.toBitVec.toNat % 2 = 1) := Nat.testBit_zero _
  rw [pk_and y 1 (by decide), e, decide_eq_true_iff]
  show nI (y.toBitVec.toNat % 2) = nI 0 ↔ _
  rw [nI_eq (by omega) (by omega)]
  omega
theorem qb_t1 (x : Int32) {r : Nat} (h : r < 32) : ((x >>> (nI r &&& 31)) &&& 1 = 1) ↔ bt x r = true := by
  rw [qb_a1, b_sshr r h x (by decide), if_pos (by omega)]
  rfl
theorem qb_t0 (x : Int32) {r : Nat} (h : r < 32) : ((x >>> (nI r &&& 31)) &&& 1 = 0) ↔ ¬ bt x r = true := by
  rw [qb_a0, b_sshr r h x (by decide), if_pos (by omega)]
  rfl
theorem qb_1 : ∀ j, j < 32 → bt 1 j = decide (j = 0) := by decide +kernel
theorem qb_bit {r i : Nat} (h : r < 32) (hi : i < 32) : bt ((1 : Int32) <<< (nI r &&& 31)) i = decide (i = r) := by
  rw [b_shl r h 1 hi]
  by_cases e : r ≤ i
  · rw [qb_1 _ (by omega), decide_eq_true e, Bool.true_and]
    by_cases z : i = r
    · rw [decide_eq_true z, decide_eq_true (by omega)]
    · rw [decide_eq_false z, decide_eq_false (by omega)]
  · rw [decide_eq_false e, Bool.false_and, decide_eq_false (by omega)]
theorem qb_or (x : Int32) {r i : Nat} (h : r < 32) (hi : i < 32) : bt (x ||| ((1 : Int32) <<< (nI r &&& 31))) i = true ↔ (bt x i = true ∨ i = r) := by
  rw [b_or, qb_bit h hi, Bool.or_eq_true, decide_eq_true_iff]
theorem qb_and0 (x : Int32) {r : Nat} (h : r < 32) : (x &&& ((1 : Int32) <<< (nI r &&& 31)) = 0) ↔ ¬ bt x r = true := by
  constructor
  · intro z q
    have e : bt (x &&& ((1 : Int32) <<< (nI r &&& 31))) r = true := by rw [b_and, qb_bit h h, q, decide_eq_true rfl]; rfl
    rw [z, b_0] at e
    exact absurd e (by decide)
  · intro q
    apply b_ext
    intro i hi
    rw [b_and, qb_bit h hi, b_0]
    by_cases z : i = r
    · rw [z, Bool.eq_false_iff.mpr q]; rfl
    · rw [decide_eq_false z, Bool.and_false]
/-! links as sets -/
def qa_LK (lk : Nat → Int32) (F : Nat → Nat → Nat → Prop) : Prop := ∀ k l r, k < 3 → l < 21 → r < 21 → (bt (lk (k * 21 + l)) r = true ↔ F k l r)
theorem qa_LK_0 {lk : Nat → Int32} {F : Nat → Nat → Nat → Prop} (h : ∀ j, j < 63 → lk j = 0) (hF : ∀ k x y, ¬ F k x y) : qa_LK lk F := by
  intro k l r hk hl hr
  rw [h _ (by omega), b_0]
  exact ⟨fun z => absurd z (by decide), fun z => absurd z (hF k l r)⟩
theorem qa_LK_up {lk : Nat → Int32} {F F' : Nat → Nat → Nat → Prop} {k l r : Nat} (hk : k < 3) (hl : l < 21) (hr : r < 21) (H : qa_LK lk F) (hF : ∀ a b c, F' a b c ↔ (F a b c ∨ (a = k ∧ b = l ∧ c = r))) :
    qa_LK (upd lk (k * 21 + l) (lk (k * 21 + l) ||| ((1 : Int32) <<< (nI r &&& 31)))) F' := by
  intro k' l' r' hk' hl' hr'
  rw [hF]
  by_cases e : k' * 21 + l' = k * 21 + l
  · have ek : k' = k := by omega
    have el : l' = l := by omega
    subst ek el
    rw [pk_us, qb_or _ (by omega) (by omega), H k' l' r' hk' hl' hr']
    constructor
    · rintro (z | z)
      · exact Or.inl z
      · exact Or.inr ⟨rfl, rfl, z⟩
    · rintro (z | z)
      · exact Or.inl z
      · exact Or.inr z.2.2
  · rw [pk_un e, H k' l' r' hk' hl' hr']
    constructor
    · exact Or.inl
    · rintro (z | z)
      · exact z
      · exact absurd (by rw [z.1, z.2.1]) e
theorem qa_LK_cg {lk : Nat → Int32} {F F' : Nat → Nat → Nat → Prop} (H : qa_LK lk F) (h : ∀ k l r, F' k l r ↔ F k l r) : qa_LK lk F' := fun k l r a b c => (H k l r a b c).trans (h k l r).symm
/-! sections -/
def qa_A (w : Nat) (c : Nat → Nat) (K L R : Nat → Nat → Nat) (ac ak al ar : Nat → Int32) : Prop :=
  ∀ s, s < 6 → ac s = nI (c s) ∧ ∀ j, j < c s → ak (s * w + j) = nI (K s j) ∧ al (s * w + j) = nI (L s j) ∧ ar (s * w + j) = nI (R s j)
def qa_kd (rl vw s : Nat) : Nat := if s = 1 ∨ s = 2 then vw else rl
def qa_tm (vl s : Nat) : Nat := if s = 2 then vl else if 3 ≤ s then 4 else 5
def qa_lm (rm s : Nat) : Nat := if s = 2 then rm else if 3 ≤ s then 3 else 4
def qa_W (rl vw vl rm h0 h1 : Nat) (c : Nat → Nat) (K L R : Nat → Nat → Nat) : Prop :=
  (1 ≤ rl ∧ rl ≤ 3) ∧ (1 ≤ vw ∧ vw ≤ 3) ∧ (1 ≤ vl ∧ vl ≤ 4) ∧ (1 ≤ rm ∧ rm ≤ 8) ∧ h0 < 5 ∧ h1 < 5 ∧
  ∀ s, s < 6 → c s ≤ qa_lm rm s ∧ ∀ j, j < c s → K s j < qa_kd rl vw s ∧ L s j < qa_tm vl s ∧ R s j < qa_tm vl s
def qa_up2 (K : Nat → Nat → Nat) (s i v s' j' : Nat) : Nat := if s' = s ∧ j' = i then v else K s' j'
theorem qa_up2_s {K : Nat → Nat → Nat} {s i v : Nat} : qa_up2 K s i v s i = v := if_pos ⟨rfl, rfl⟩
theorem qa_up2_n {K : Nat → Nat → Nat} {s i v s' j' : Nat} (h : ¬ (s' = s ∧ j' = i)) : qa_up2 K s i v s' j' = K s' j' := if_neg h
theorem qa_lm_le {rm s : Nat} (h : rm ≤ 8) : qa_lm rm s ≤ 8 := by
  unfold qa_lm
  split
  · exact h
  · split <;> omega
theorem qa_W_c {rl vw vl rm h0 h1 : Nat} {c : Nat → Nat} {K L R : Nat → Nat → Nat} (H : qa_W rl vw vl rm h0 h1 c K L R) {s : Nat} (hs : s < 6) : c s ≤ 8 := Nat.le_trans (H.2.2.2.2.2.2 s hs).1 (qa_lm_le H.2.2.2.1.2)
theorem qa_ix {w s s' j j' : Nat} (hw : w = 8 ∨ w = 24) (hj : j < 8) (hj' : j' < 8) (h : s * w + j = s' * w + j') : s = s' ∧ j = j' := by
  rcases hw with rfl | rfl
  · omega
  · omega
theorem qa_A_set {w : Nat} {c : Nat → Nat} {K L R : Nat → Nat → Nat} {ac ak al ar : Nat → Int32} {s i n k x y : Nat} (hw : w = 8 ∨ w = 24) (hc : ∀ s, s < 6 → c s ≤ 8) (hi : i < 8) (hn : n ≤ 8) (hin : n ≤ c s ∨ (n = c s + 1 ∧ i = c s))
    (H : qa_A w c K L R ac ak al ar) :
    qa_A w (qa_set c s n) (qa_up2 K s i k) (qa_up2 L s i x) (qa_up2 R s i y) (upd ac s (nI n)) (upd ak (s * w + i) (nI k)) (upd al (s * w + i) (nI x)) (upd ar (s * w + i) (nI y)) := by
  intro s' hs'
  have h8 := hc s' hs'
  by_cases e : s' = s
  · subst e
    rw [qa_set_s, pk_us]
    refine ⟨rfl, fun j hj => ?_⟩
    by_cases z : j = i
    · subst z
      rw [pk_us, pk_us, pk_us, qa_up2_s, qa_up2_s, qa_up2_s]
      exact ⟨rfl, rfl, rfl⟩
    · have q : s' * w + j ≠ s' * w + i := by omega
      rw [pk_un q, pk_un q, pk_un q, qa_up2_n (fun h => z h.2), qa_up2_n (fun h => z h.2), qa_up2_n (fun h => z h.2)]
      exact (H s' hs').2 j (by omega)
  · rw [qa_set_n e, pk_un e]
    refine ⟨(H s' hs').1, fun j hj => ?_⟩
    have q : s' * w + j ≠ s * w + i := fun h => e (qa_ix hw (by omega) hi h).1
    rw [pk_un q, pk_un q, pk_un q, qa_up2_n (fun h => e h.1), qa_up2_n (fun h => e h.1), qa_up2_n (fun h => e h.1)]
    exact (H s' hs').2 j hj
theorem qa_W_set {rl vw vl rm h0 h1 : Nat} {c : Nat → Nat} {K L R : Nat → Nat → Nat} {s i n k x y : Nat} (hn : n ≤ qa_lm rm s) (hin : n ≤ c s ∨ (n = c s + 1 ∧ i = c s)) (hk : k < qa_kd rl vw s) (hx : x < qa_tm vl s) (hy : y < qa_tm vl s)
    (H : qa_W rl vw vl rm h0 h1 c K L R) : qa_W rl vw vl rm h0 h1 (qa_set c s n) (qa_up2 K s i k) (qa_up2 L s i x) (qa_up2 R s i y) := by
  obtain ⟨a1, a2, a3, a4, a5, a6, a7⟩ := H
  refine ⟨a1, a2, a3, a4, a5, a6, fun s' hs' => ?_⟩
  by_cases e : s' = s
  · subst e
    rw [qa_set_s]
    refine ⟨hn, fun j hj => ?_⟩
    by_cases z : j = i
    · subst z
      rw [qa_up2_s, qa_up2_s, qa_up2_s]
      exact ⟨hk, hx, hy⟩
    · rw [qa_up2_n (fun h => z h.2), qa_up2_n (fun h => z h.2), qa_up2_n (fun h => z h.2)]
      exact (a7 s' hs').2 j (by omega)
  · rw [qa_set_n e]
    refine ⟨(a7 s' hs').1, fun j hj => ?_⟩
    rw [qa_up2_n (fun h => e h.1), qa_up2_n (fun h => e h.1), qa_up2_n (fun h => e h.1)]
    exact (a7 s' hs').2 j hj
theorem qa_A_cut {w : Nat} {c : Nat → Nat} {K L R : Nat → Nat → Nat} {ac ak al ar : Nat → Int32} {s n : Nat} (hn : n ≤ c s) (H : qa_A w c K L R ac ak al ar) : qa_A w (qa_set c s n) K L R (upd ac s (nI n)) ak al ar := by
  intro s' hs'
  by_cases e : s' = s
  · subst e
    rw [qa_set_s, pk_us]
    exact ⟨rfl, fun j hj => (H s' hs').2 j (by omega)⟩
  · rw [qa_set_n e, pk_un e]
    exact H s' hs'
theorem qa_W_cut {rl vw vl rm h0 h1 : Nat} {c : Nat → Nat} {K L R : Nat → Nat → Nat} {s n : Nat} (hn : n ≤ c s) (H : qa_W rl vw vl rm h0 h1 c K L R) : qa_W rl vw vl rm h0 h1 (qa_set c s n) K L R := by
  obtain ⟨a1, a2, a3, a4, a5, a6, a7⟩ := H
  refine ⟨a1, a2, a3, a4, a5, a6, fun s' hs' => ?_⟩
  by_cases e : s' = s
  · subst e
    rw [qa_set_s]
    exact ⟨Nat.le_trans hn (a7 s' hs').1, fun j hj => (a7 s' hs').2 j (by omega)⟩
  · rw [qa_set_n e]
    exact a7 s' hs'
theorem qa_W_head {rl vw vl rm h0 h1 x y : Nat} {c : Nat → Nat} {K L R : Nat → Nat → Nat} (hx : x < 5) (hy : y < 5) (H : qa_W rl vw vl rm h0 h1 c K L R) : qa_W rl vw vl rm x y c K L R := by
  obtain ⟨a1, a2, a3, a4, a5, a6, a7⟩ := H
  exact ⟨a1, a2, a3, a4, hx, hy, a7⟩
/-! the reference's own section of facts -/
def qa_YF (ac ak ax ay : Nat → Int32) (n : Nat) (F : Nat → Nat → Nat → Prop) : Prop :=
  ac 6 = nI n ∧ ∃ K L R : Nat → Nat, (∀ j, j < n → ak (144 + j) = nI (K j) ∧ ax (144 + j) = nI (L j) ∧ ay (144 + j) = nI (R j) ∧ K j < 1000 ∧ L j < 1000 ∧ R j < 1000) ∧ ∀ k x y, F k x y ↔ qa_In n K L R k x y
theorem qa_YF_0 {ac ak ax ay : Nat → Int32} {F : Nat → Nat → Nat → Prop} (h : ac 6 = 0) (hF : ∀ k x y, ¬ F k x y) : qa_YF ac ak ax ay 0 F :=
  ⟨h, fun _ => 0, fun _ => 0, fun _ => 0, fun j hj => absurd hj (Nat.not_lt_zero j), fun k x y => ⟨fun z => absurd z (hF k x y), fun ⟨j, hj, _⟩ => absurd hj (Nat.not_lt_zero j)⟩⟩
theorem qa_YF_cg {ac ak ax ay : Nat → Int32} {n : Nat} {F F' : Nat → Nat → Nat → Prop} (H : qa_YF ac ak ax ay n F) (h : ∀ k x y, F' k x y ↔ F k x y) : qa_YF ac ak ax ay n F' := by
  obtain ⟨a, K, L, R, b, d⟩ := H
  exact ⟨a, K, L, R, b, fun k x y => (h k x y).trans (d k x y)⟩
theorem qa_YF_add {ac ak ax ay : Nat → Int32} {n k x y : Nat} {F F' : Nat → Nat → Nat → Prop} (hk : k < 1000) (hx : x < 1000) (hy : y < 1000) (H : qa_YF ac ak ax ay n F)
    (hF : ∀ a b c, F' a b c ↔ (F a b c ∨ (a = k ∧ b = x ∧ c = y))) :
    qa_YF (upd ac 6 (nI (n + 1))) (upd ak (144 + n) (nI k)) (upd ax (144 + n) (nI x)) (upd ay (144 + n) (nI y)) (n + 1) F' := by
  obtain ⟨a, K, L, R, b, d⟩ := H
  refine ⟨pk_us, qa_set K n k, qa_set L n x, qa_set R n y, fun j hj => ?_, fun k' x' y' => ?_⟩
  · by_cases e : j = n
    · subst e
      rw [pk_us, pk_us, pk_us, qa_set_s, qa_set_s, qa_set_s]
      exact ⟨rfl, rfl, rfl, hk, hx, hy⟩
    · have q : 144 + j ≠ 144 + n := by omega
      rw [pk_un q, pk_un q, pk_un q, qa_set_n e, qa_set_n e, qa_set_n e]
      exact b j (by omega)
  · rw [hF, d]
    constructor
    · rintro (⟨j, hj, z1, z2, z3⟩ | ⟨z1, z2, z3⟩)
      · have e : j ≠ n := by omega
        exact ⟨j, by omega, by rw [qa_set_n e]; exact z1, by rw [qa_set_n e]; exact z2, by rw [qa_set_n e]; exact z3⟩
      · exact ⟨n, by omega, by rw [qa_set_s]; exact z1.symm, by rw [qa_set_s]; exact z2.symm, by rw [qa_set_s]; exact z3.symm⟩
    · rintro ⟨j, hj, z1, z2, z3⟩
      by_cases e : j = n
      · subst e
        rw [qa_set_s] at z1 z2 z3
        exact Or.inr ⟨z1.symm, z2.symm, z3.symm⟩
      · rw [qa_set_n e] at z1 z2 z3
        exact Or.inl ⟨j, by omega, z1, z2, z3⟩
theorem qa_A_6 {c : Nat → Nat} {K L R : Nat → Nat → Nat} {ac ak al ar : Nat → Int32} {n : Nat} {v k x y : Int32} (hc : ∀ s, s < 6 → c s ≤ 8) (H : qa_A 24 c K L R ac ak al ar) :
    qa_A 24 c K L R (upd ac 6 v) (upd ak (144 + n) k) (upd al (144 + n) x) (upd ar (144 + n) y) := by
  intro s hs
  have h8 := hc s hs
  rw [pk_un (show s ≠ 6 by omega)]
  refine ⟨(H s hs).1, fun j hj => ?_⟩
  have q : s * 24 + j ≠ 144 + n := by omega
  rw [pk_un q, pk_un q, pk_un q]
  exact (H s hs).2 j hj
theorem qa_A_c6 {c : Nat → Nat} {K L R : Nat → Nat → Nat} {ac ak al ar : Nat → Int32} {v : Int32} (H : qa_A 24 c K L R ac ak al ar) : qa_A 24 c K L R (upd ac 6 v) ak al ar := by
  intro s hs
  rw [pk_un (show s ≠ 6 by omega)]
  exact H s hs
end
section
/-! five images by name -/
def qa_g5 (p q a b e v : Nat) : Nat := if v = 0 then p else if v = 1 then q else if v = 2 then a else if v = 3 then b else e
theorem qa_g5_0 {p q a b e : Nat} : qa_g5 p q a b e 0 = p := rfl
theorem qa_g5_1 {p q a b e : Nat} : qa_g5 p q a b e 1 = q := rfl
theorem qa_g5_2 {p q a b e : Nat} : qa_g5 p q a b e 2 = a := rfl
theorem qa_g5_3 {p q a b e : Nat} : qa_g5 p q a b e 3 = b := rfl
theorem qa_g5_4 {p q a b e : Nat} : qa_g5 p q a b e 4 = e := rfl
theorem qa_5 {P : Nat → Prop} (h0 : P 0) (h1 : P 1) (h2 : P 2) (h3 : P 3) (h4 : P 4) : ∀ v, v < 5 → P v := fun v hv =>
  match v, hv with
  | 0, _ => h0
  | 1, _ => h1
  | 2, _ => h2
  | 3, _ => h3
  | 4, _ => h4
theorem qa_g5_e (g : Nat → Nat) : ∀ v, v < 5 → qa_g5 (g 0) (g 1) (g 2) (g 3) (g 4) v = g v := qa_5 rfl rfl rfl rfl rfl
theorem qa_g5_lt {p q a b e T : Nat} (hp : p < T) (hq : q < T) (ha : a < T) (hb : b < T) (he : e < T) : ∀ v, v < 5 → qa_g5 p q a b e v < T := qa_5 hp hq ha hb he
/-- a section carried by g into the set F -/
def qa_Ca (m : Nat) (K L R : Nat → Nat) (F : Nat → Nat → Nat → Prop) (g : Nat → Nat) : Prop := ∀ j, j < m → F (K j) (g (L j)) (g (R j))
theorem qa_Ca_cg {m : Nat} {K L R : Nat → Nat} {F : Nat → Nat → Nat → Prop} {g g' : Nat → Nat} {T : Nat} (hL : ∀ j, j < m → L j < T ∧ R j < T) (h : ∀ v, v < T → g v = g' v) (H : qa_Ca m K L R F g) : qa_Ca m K L R F g' := by
  intro j hj
  rw [← h _ (hL j hj).1, ← h _ (hL j hj).2]
  exact H j hj
def qa_E3 (Q : Nat → Nat → Nat → Prop) (T a b e : Nat) : Prop := ∃ e', e ≤ e' ∧ e' < T ∧ Q a b e'
def qa_E2 (Q : Nat → Nat → Nat → Prop) (T a b : Nat) : Prop := ∃ b', b ≤ b' ∧ b' < T ∧ qa_E3 Q T a b' 0
def qa_E1 (Q : Nat → Nat → Nat → Prop) (T a : Nat) : Prop := ∃ a', a ≤ a' ∧ a' < T ∧ qa_E2 Q T a' 0
theorem qa_ex_s {P : Nat → Prop} {T a : Nat} (h : a < T) : (∃ x, a ≤ x ∧ x < T ∧ P x) ↔ (P a ∨ ∃ x, a + 1 ≤ x ∧ x < T ∧ P x) := by
  constructor
  · rintro ⟨x, h1, h2, h3⟩
    by_cases e : x = a
    · subst e; exact Or.inl h3
    · exact Or.inr ⟨x, by omega, h2, h3⟩
  · rintro (h3 | ⟨x, h1, h2, h3⟩)
    · exact ⟨a, Nat.le_refl _, h, h3⟩
    · exact ⟨x, by omega, h2, h3⟩
theorem qa_ex_no {P : Nat → Prop} {T a : Nat} (h : T ≤ a) : ¬ ∃ x, a ≤ x ∧ x < T ∧ P x := by
  rintro ⟨x, h1, h2, _⟩
  omega
theorem qa_M3 {n : Nat} {K L R : Nat → Nat} {F : Nat → Nat → Nat → Prop} {T p q : Nat} (hL : ∀ j, j < n → L j < 5 ∧ R j < 5) (hp : p < T) (hq : q < T) :
    qa_Mt n K L R F T p q ↔ qa_E1 (fun a b e => qa_Ca n K L R F (qa_g5 p q a b e)) T 0 := by
  constructor
  · rintro ⟨g, h0, h1, h2, h3⟩
    refine ⟨g 2, Nat.zero_le _, h2 2 (by decide), g 3, Nat.zero_le _, h2 3 (by decide), g 4, Nat.zero_le _, h2 4 (by decide), ?_⟩
    refine qa_Ca_cg hL (fun v hv => ?_) h3
    rw [← h0, ← h1]
    exact (qa_g5_e g v hv).symm
  · rintro ⟨a, _, ha, b, _, hb, e, _, he, h⟩
    exact ⟨qa_g5 p q a b e, rfl, rfl, qa_g5_lt hp hq ha hb he, h⟩
/-! what a view gives over the query -/
def qa_Vg (c : Nat → Nat) (K L R : Nat → Nat → Nat) (v p q : Nat) : Prop :=
  ∃ a, a < 5 ∧ ∃ b, b < 5 ∧ qa_Ca (c (3 + v)) (K (3 + v)) (L (3 + v)) (R (3 + v)) (qa_In (c 0) (K 0) (L 0) (R 0)) (qa_g5 p q a b 0)
theorem qa_Vg_n {c : Nat → Nat} {K L R : Nat → Nat → Nat} {v p q : Nat} : qa_Vg c K L R v p q ↔ ∃ n, 0 ≤ n ∧ n < 25 ∧ qa_Ca (c (3 + v)) (K (3 + v)) (L (3 + v)) (R (3 + v)) (qa_In (c 0) (K 0) (L 0) (R 0)) (qa_g5 p q (n / 5) (n % 5) 0) := by
  constructor
  · rintro ⟨a, ha, b, hb, h⟩
    refine ⟨5 * a + b, Nat.zero_le _, by omega, ?_⟩
    rw [show (5 * a + b) / 5 = a by omega, show (5 * a + b) % 5 = b by omega]
    exact h
  · rintro ⟨n, _, hn, h⟩
    exact ⟨n / 5, by omega, n % 5, by omega, h⟩
/-! triples, as the arguments come -/
def qa_T (rl vw vl : Nat) (s k x y : Int32) : Prop := ∃ s' k' x' y' : Nat, s = nI s' ∧ k = nI k' ∧ x = nI x' ∧ y = nI y' ∧ s' < 3 + vw ∧ k' < qa_kd rl vw s' ∧ x' < qa_tm vl s' ∧ y' < qa_tm vl s'
theorem qa_in_or (x : Int32) {n : Nat} (hn : n < 2 ^ 31) : (∃ j, j < n ∧ x = nI j) ∨ (¬ ∃ j, j < n ∧ x = nI j) ∧ (x < 0 ∨ (¬ x < 0 ∧ nI n ≤ x)) := by
  by_cases h0 : x < 0
  · refine Or.inr ⟨?_, Or.inl h0⟩
    rintro ⟨j, hj, rfl⟩
    exact nI_pos (by omega) h0
  · obtain ⟨j, hj, rfl⟩ := nI_of h0
    by_cases h : j < n
    · exact Or.inl ⟨j, h, rfl⟩
    · refine Or.inr ⟨?_, Or.inr ⟨h0, nI_le (by omega) hj⟩⟩
      rintro ⟨i, hi, e⟩
      rw [nI_eq hj (by omega)] at e
      omega
end
section
/-! the component's small methods -/
theorem qn_10 : ¬ (1 : Int32) = 0 := by decide
theorem qn_s (a j : Nat) : nI (a + j) + 1 = nI (a + (j + 1)) := nI_1 _
theorem qn_m1 {n : Nat} (h : n < 2 ^ 31) : ¬ nI n = (-1) := by
  intro e
  have z : ¬ nI n < 0 := nI_pos h
  rw [e] at z
  exact z (by decide)
theorem qn_3 (n : Nat) : (3 : Int32) + nI n = nI (3 + n) := nI_add 3 n
theorem qn_2 (n : Nat) : (2 : Int32) + nI n = nI (2 + n) := nI_add 2 n
theorem qx_below {post : Int32 → Prop} {x : Int32} {n : Nat} (hn : n < 2 ^ 31) (h1 : ∀ j, j < n → x = nI j → post 1) (h0 : (¬ ∃ j, j < n ∧ x = nI j) → post 0) : wpX_isBelow post () x (nI n) := by
  rcases qa_in_or x hn with ⟨j, hj, rfl⟩ | ⟨hno, h | ⟨h, h'⟩⟩
  · exact br_f (nI_pos (by omega)) (br_f (nI_ge hj hn) (h1 j hj rfl))
  · exact br_t h (h0 hno)
  · exact br_f h (br_t h' (h0 hno))
section
variable {rl vw vl rm h0 h1 : Nat} {c : Nat → Nat} {K L R : Nat → Nat → Nat} {fr fv fl fm f0 f1 : Int32} {ac ak al ar lk im le gr : Nat → Int32}
theorem qx_section {post : Int32 → Prop} {x : Int32} (hv : vw ≤ 3) (p1 : ∀ j, j < 3 + vw → x = nI j → post 1) (p0 : (¬ ∃ j, j < 3 + vw ∧ x = nI j) → post 0) : wpX_isSection post (fr, nI vw, fl, fm, f0, f1, ac, ak, al, ar, lk, im, le, gr) x := by
  rcases qa_in_or x (n := 3 + vw) (by omega) with ⟨j, hj, rfl⟩ | ⟨hno, h | ⟨h, h'⟩⟩
  · exact br_f (nI_pos (by omega)) (br_f (by rw [qn_3]; exact nI_ge hj (by omega)) (p1 j hj rfl))
  · exact br_t h (p0 hno)
  · exact br_f h (br_t (by rw [qn_3]; exact h') (p0 hno))
theorem qa_tm_0 : qa_tm vl 0 = 5 := rfl
theorem qa_tm_1 : qa_tm vl 1 = 5 := rfl
theorem qa_tm_2 : qa_tm vl 2 = vl := rfl
theorem qa_tm_3 {s : Nat} (h : 3 ≤ s) : qa_tm vl s = 4 := by rw [qa_tm, if_neg (by omega), if_pos h]
theorem qa_lm_0 : qa_lm rm 0 = 4 := rfl
theorem qa_lm_1 : qa_lm rm 1 = 4 := rfl
theorem qa_lm_2 : qa_lm rm 2 = rm := rfl
theorem qa_lm_3 {s : Nat} (h : 3 ≤ s) : qa_lm rm s = 3 := by rw [qa_lm, if_neg (by omega), if_pos h]
theorem qx_termsIn {post : Int32 → Prop} {s : Nat} (hs : s < 6) (hp : post (nI (qa_tm vl s))) : wpX_termsIn post (fr, fv, nI vl, fm, f0, f1, ac, ak, al, ar, lk, im, le, gr) (nI s) := by
  refine br_f (nI_pos (by omega)) (pk_lt 2 s (fun h => ?_) (fun h => pk_eq s 0 (fun e => ?_) (fun e0 => pk_eq s 1 (fun e => ?_) (fun e1 => pk_eq s 2 (fun e => ?_) (fun e => trivial)))))
  · rw [qa_tm_3 (by omega)] at hp; exact hp
  · subst e; exact hp
  · subst e; exact hp
  · subst e; exact hp
theorem qx_limit {post : Int32 → Prop} {s : Nat} (hs : s < 6) (hp : post (nI (qa_lm rm s))) : wpX_limit post (fr, fv, fl, nI rm, f0, f1, ac, ak, al, ar, lk, im, le, gr) (nI s) := by
  refine br_f (nI_pos (by omega)) (pk_lt 2 s (fun h => ?_) (fun h => pk_eq s 0 (fun e => ?_) (fun e0 => pk_eq s 1 (fun e => ?_) (fun e1 => pk_eq s 2 (fun e => ?_) (fun e => trivial)))))
  · rw [qa_lm_3 (by omega)] at hp; exact hp
  · subst e; exact hp
  · subst e; exact hp
  · subst e; exact hp
theorem qa_tm_le {s : Nat} (h : vl ≤ 4) : qa_tm vl s ≤ 5 := by
  unfold qa_tm
  split
  · omega
  · split <;> omega
theorem qx_tr31 {post : Int32 → Prop} {n s : Nat} {k x y : Int32} (hn : n < 2 ^ 31) (hs : s < 6) (hl : vl ≤ 4)
    (p1 : ∀ k' x' y' : Nat, k = nI k' → x = nI x' → y = nI y' → k' < n → x' < qa_tm vl s → y' < qa_tm vl s → post 1)
    (p0 : (¬ ∃ k' x' y' : Nat, k = nI k' ∧ x = nI x' ∧ y = nI y' ∧ k' < n ∧ x' < qa_tm vl s ∧ y' < qa_tm vl s) → post 0) :
    wX_isTriple_31 post (nI s) k x y (nI n) fr fv (nI vl) fm f0 f1 ac ak al ar lk im le gr := by
  have h5 : qa_tm vl s < 2 ^ 31 := by have := qa_tm_le (s := s) hl; omega
  unfold wX_isTriple_31
  refine qx_termsIn hs ?_
  refine qx_below hn (fun k' hk ek => br_f qn_10 ?_) (fun z => br_t rfl (p0 ?_))
  · refine qx_below h5 (fun x' hx ex => br_f qn_10 ?_) (fun z => br_t rfl (p0 ?_))
    · refine qx_below h5 (fun y' hy ey => br_f qn_10 (p1 k' x' y' ek ex ey hk hx hy)) (fun z => br_t rfl (p0 ?_))
      rintro ⟨k', x', y', e1, e2, e3, b1, b2, b3⟩
      exact z ⟨y', b3, e3⟩
    · rintro ⟨k', x', y', e1, e2, e3, b1, b2, b3⟩
      exact z ⟨x', b2, e2⟩
  · rintro ⟨k', x', y', e1, e2, e3, b1, b2, b3⟩
    exact z ⟨k', b1, e1⟩
theorem qx_isTriple {post : Int32 → Prop} {s k x y : Int32} (hr : rl ≤ 3) (hv : vw ≤ 3) (hl : vl ≤ 4)
    (p1 : ∀ s' k' x' y' : Nat, s = nI s' → k = nI k' → x = nI x' → y = nI y' → s' < 3 + vw → k' < qa_kd rl vw s' → x' < qa_tm vl s' → y' < qa_tm vl s' → post 1)
    (p0 : ¬ qa_T rl vw vl s k x y → post 0) : wpX_isTriple post (nI rl, nI vw, nI vl, fm, f0, f1, ac, ak, al, ar, lk, im, le, gr) s k x y := by
  unfold wpX_isTriple
  refine qx_section hv (fun j hj ej => br_f qn_10 ?_) (fun z => br_t rfl (p0 ?_))
  · subst ej
    have q1 : ∀ n, qa_kd rl vw j = n → wX_isTriple_31 post (nI j) k x y (nI n) (nI rl) (nI vw) (nI vl) fm f0 f1 ac ak al ar lk im le gr := by
      intro n en
      refine qx_tr31 ?_ (by omega) hl (fun k' x' y' e1 e2 e3 b1 b2 b3 => p1 j k' x' y' rfl e1 e2 e3 hj (by rw [en]; exact b1) b2 b3) (fun z => p0 ?_)
      · rw [← en]; unfold qa_kd; split <;> omega
      · rintro ⟨s', k', x', y', e0, e1, e2, e3, b0, b1, b2, b3⟩
        rw [nI_eq (by omega) (by omega)] at e0
        subst e0
        exact z ⟨k', x', y', e1, e2, e3, by rw [← en]; exact b1, b2, b3⟩
    refine pk_eq j 1 (fun e => ?_) (fun e1 => pk_eq j 2 (fun e => ?_) (fun e => ?_))
    · exact q1 vw (if_pos (Or.inl e))
    · exact q1 vw (if_pos (Or.inr e))
    · exact q1 rl (if_neg (by omega))
  · rintro ⟨s', k', x', y', e0, e1, e2, e3, b0, b1, b2, b3⟩
    exact z ⟨s', b0, e0⟩
theorem qx_pl21 {post : Int32 → Prop} {s k x y : Nat} (hA : qa_A 8 c K L R ac ak al ar) (hs : s < 6) (hc : c s ≤ 8) (hb : ∀ j, j < c s → K s j < 100 ∧ L s j < 100 ∧ R s j < 100) (hk : k < 100) (hx : x < 100) (hy : y < 100) :
    ∀ d j n, j + d = c s → d < n → (∀ i, qa_fd (K s) (L s) (R s) k x y d j = some i → post (nI (s * 8 + i))) → (qa_fd (K s) (L s) (R s) k x y d j = none → post (-1)) →
      wX_place_21 post (nI k) (nI x) (nI y) (nI (s * 8 + c s)) fr fv fl fm f0 f1 ac ak al ar lk im le gr n (nI (s * 8 + j)) := by
  intro d
  induction d with
  | zero =>
    intro j n hj hn p1 p0
    obtain ⟨n, rfl⟩ : ∃ m, n = m + 1 := ⟨n - 1, by omega⟩
    exact br_t (nI_le (by omega) (by omega)) (p0 rfl)
  | succ d ih =>
    intro j n hj hn p1 p0
    obtain ⟨n, rfl⟩ : ∃ m, n = m + 1 := ⟨n - 1, by omega⟩
    obtain ⟨e1, e2, e3⟩ := (hA s hs).2 j (by omega)
    obtain ⟨b1, b2, b3⟩ := hb j (by omega)
    have hcl : (nI (s * 8 + j)).toNatClampNeg = s * 8 + j := nI_clamp (by omega)
    have hin : vp_in (nI (s * 8 + j)) 48 := vp_in_nI (by omega) (by omega)
    have hnx : ¬ (K s j = k ∧ L s j = x ∧ R s j = y) → wX_place_21 post (nI k) (nI x) (nI y) (nI (s * 8 + c s)) fr fv fl fm f0 f1 ac ak al ar lk im le gr n (nI (s * 8 + (j + 1))) := fun z =>
      ih (j + 1) n (by omega) (by omega) (fun i hi => p1 i (by rw [qa_fd, if_neg z]; exact hi)) (fun hi => p0 (by rw [qa_fd, if_neg z]; exact hi))
    refine br_f (nI_ge (by omega) (by omega)) ⟨hin, pk_eq (K s j) k (fun q1 => ⟨hin, pk_eq (L s j) x (fun q2 => ⟨hin, pk_eq (R s j) y (fun q3 => ?_) (fun q3 => ?_) (by rw [hcl]; exact e3)⟩) (fun q2 => ?_) (by rw [hcl]; exact e2)⟩) (fun q1 => ?_) (by rw [hcl]; exact e1)⟩
    · exact p1 j (by rw [qa_fd, if_pos ⟨q1, q2, q3⟩])
    · exact nm_r (qn_s _ _) (hnx (fun z => q3 z.2.2))
    · exact nm_r (qn_s _ _) (hnx (fun z => q2 z.2.1))
    · exact nm_r (qn_s _ _) (hnx (fun z => q1 z.1))
theorem qx_place {post : Int32 → Prop} {s k x y : Nat} (hA : qa_A 8 c K L R ac ak al ar) (hs : s < 6) (hc : c s ≤ 8) (hb : ∀ j, j < c s → K s j < 100 ∧ L s j < 100 ∧ R s j < 100) (hk : k < 100) (hx : x < 100) (hy : y < 100)
    (p1 : ∀ i, qa_fd (K s) (L s) (R s) k x y (c s) 0 = some i → post (nI (s * 8 + i))) (p0 : qa_fd (K s) (L s) (R s) k x y (c s) 0 = none → post (-1)) :
    wpX_place post (fr, fv, fl, fm, f0, f1, ac, ak, al, ar, lk, im, le, gr) (nI s) (nI k) (nI x) (nI y) := by
  refine nm_r (pk_mul s 8) ⟨vp_in_nI (by omega) (by omega), nm_r (e' := nI (s * 8 + c s)) (by rw [nI_clamp (by omega), (hA s hs).1, nI_add]) ⟨c s + 1, ?_⟩⟩
  exact qx_pl21 hA hs hc hb hk hx hy (c s) 0 (c s + 1) (by omega) (by omega) p1 p0
end
end
section
/-! the component's sections -/
section
variable {rl vw vl rm h0 h1 : Nat} {c : Nat → Nat} {K L R : Nat → Nat → Nat} {ac ak al ar lk im le gr : Nat → Int32}
theorem qa_kd_le (hr : rl ≤ 3) (hv : vw ≤ 3) {s : Nat} : qa_kd rl vw s ≤ 3 := by unfold qa_kd; split <;> omega
theorem qa_W_b (W : qa_W rl vw vl rm h0 h1 c K L R) {s : Nat} (hs : s < 6) : ∀ j, j < c s → K s j < 3 ∧ L s j < 5 ∧ R s j < 5 := by
  intro j hj
  obtain ⟨a, b, d⟩ := (W.2.2.2.2.2.2 s hs).2 j hj
  have e1 := qa_kd_le (s := s) W.1.2 W.2.1.2
  have e2 := qa_tm_le (s := s) W.2.2.1.2
  omega
theorem qa_W_100 (W : qa_W rl vw vl rm h0 h1 c K L R) {s : Nat} (hs : s < 6) : ∀ j, j < c s → K s j < 100 ∧ L s j < 100 ∧ R s j < 100 := by
  intro j hj
  have := qa_W_b W hs j hj
  omega
theorem qx_triT {post : Int32 → Prop} {s k x y : Nat} (W : qa_W rl vw vl rm h0 h1 c K L R) (hs : s < 3 + vw) (hk : k < qa_kd rl vw s) (hx : x < qa_tm vl s) (hy : y < qa_tm vl s) (hp : post 1) : wpX_isTriple post (nI rl, nI vw, nI vl, nI rm, nI h0, nI h1, ac, ak, al, ar, lk, im, le, gr) (nI s) (nI k) (nI x) (nI y) :=
  qx_isTriple W.1.2 W.2.1.2 W.2.2.1.2 (fun _ _ _ _ _ _ _ _ _ _ _ _ => hp) (fun z => absurd ⟨s, k, x, y, rfl, rfl, rfl, rfl, hs, hk, hx, hy⟩ z)
theorem qx_triF {post : Int32 → Prop} {s k x y : Int32} (W : qa_W rl vw vl rm h0 h1 c K L R) (hT : ¬ qa_T rl vw vl s k x y) (hp : post 0) : wpX_isTriple post (nI rl, nI vw, nI vl, nI rm, nI h0, nI h1, ac, ak, al, ar, lk, im, le, gr) s k x y :=
  qx_isTriple W.1.2 W.2.1.2 W.2.2.1.2 (fun s' k' x' y' e1 e2 e3 e4 b1 b2 b3 b4 => absurd ⟨s', k', x', y', e1, e2, e3, e4, b1, b2, b3, b4⟩ hT) (fun _ => hp)
theorem qx_put {post : Int32 → St2 → Prop} {s k x y : Nat} (W : qa_W rl vw vl rm h0 h1 c K L R) (A : qa_A 8 c K L R ac ak al ar) (hs : s < 3 + vw) (hk : k < qa_kd rl vw s) (hx : x < qa_tm vl s) (hy : y < qa_tm vl s)
    (p0 : ∀ i, qa_fd (K s) (L s) (R s) k x y (c s) 0 = some i → post 0 (nI rl, nI vw, nI vl, nI rm, nI h0, nI h1, ac, ak, al, ar, lk, im, le, gr)) (p2 : qa_fd (K s) (L s) (R s) k x y (c s) 0 = none → qa_lm rm s ≤ c s → post (-2) (nI rl, nI vw, nI vl, nI rm, nI h0, nI h1, ac, ak, al, ar, lk, im, le, gr))
    (p1 : qa_fd (K s) (L s) (R s) k x y (c s) 0 = none → c s < qa_lm rm s → post 1 (nI rl, nI vw, nI vl, nI rm, nI h0, nI h1, upd ac s (nI (c s + 1)), upd ak (s * 8 + c s) (nI k), upd al (s * 8 + c s) (nI x), upd ar (s * 8 + c s) (nI y), lk, im, le, gr)) :
    wpX_put post (nI rl, nI vw, nI vl, nI rm, nI h0, nI h1, ac, ak, al, ar, lk, im, le, gr) (nI s) (nI k) (nI x) (nI y) := by
  have hv := W.2.1.2
  have hs6 : s < 6 := by omega
  have h8 := qa_W_c W hs6
  have hl8 := qa_lm_le (s := s) W.2.2.2.1.2
  have hk3 := qa_kd_le (s := s) W.1.2 W.2.1.2
  have ht5 := qa_tm_le (s := s) W.2.2.1.2
  have hins : vp_in (nI s) 6 := vp_in_nI (by omega) (by omega)
  have hcs : (nI s).toNatClampNeg = s := nI_clamp (by omega)
  unfold wpX_put
  refine qx_triT W hs hk hx hy (br_f qn_10 ?_)
  refine qx_place A hs6 h8 (qa_W_100 W hs6) (by omega) (by omega) (by omega) (fun i hi => br_f (qn_m1 ?_) (p0 i hi)) (fun hn => br_t rfl ⟨hins, ?_⟩)
  · have := (qa_fd_some _ _ _ hi).2.1
    omega
  · refine qx_limit hs6 (pk_lt (c s) (qa_lm rm s) (fun h => ?_) (fun h => p2 hn h) (by rw [hcs]; exact (A s hs6).1))
    have hin : vp_in (nI (s * 8 + c s)) 48 := vp_in_nI (by omega) (by omega)
    have hcl : (nI (s * 8 + c s)).toNatClampNeg = s * 8 + c s := nI_clamp (by omega)
    refine ⟨hins, nm_r (e' := nI (s * 8 + c s)) (by rw [hcs, (A s hs6).1, show nI s * 8 = nI (s * 8) from pk_mul s 8, nI_add]) ⟨hin, nm_r (by rw [hcl]) ⟨hin, nm_r (by rw [hcl]) ⟨hin, nm_r (by rw [hcl]) ⟨hins, hins, nm_r (e' := upd ac s (nI (c s + 1))) (by rw [hcs, (A s hs6).1, nI_1]) (p1 hn h)⟩⟩⟩⟩⟩
theorem qx_drop {post : Int32 → St2 → Prop} {s k x y : Nat} (W : qa_W rl vw vl rm h0 h1 c K L R) (A : qa_A 8 c K L R ac ak al ar) (hs : s < 3 + vw) (hk : k < qa_kd rl vw s) (hx : x < qa_tm vl s) (hy : y < qa_tm vl s)
    (p0 : qa_fd (K s) (L s) (R s) k x y (c s) 0 = none → post 0 (nI rl, nI vw, nI vl, nI rm, nI h0, nI h1, ac, ak, al, ar, lk, im, le, gr))
    (p1 : ∀ i, qa_fd (K s) (L s) (R s) k x y (c s) 0 = some i → i < c s → post 1 (nI rl, nI vw, nI vl, nI rm, nI h0, nI h1, upd ac s (nI (c s - 1)), upd ak (s * 8 + i) (nI (K s (c s - 1))), upd al (s * 8 + i) (nI (L s (c s - 1))), upd ar (s * 8 + i) (nI (R s (c s - 1))), lk, im, le, gr)) :
    wpX_drop post (nI rl, nI vw, nI vl, nI rm, nI h0, nI h1, ac, ak, al, ar, lk, im, le, gr) (nI s) (nI k) (nI x) (nI y) := by
  have hv := W.2.1.2
  have hs6 : s < 6 := by omega
  have h8 := qa_W_c W hs6
  have hk3 := qa_kd_le (s := s) W.1.2 W.2.1.2
  have ht5 := qa_tm_le (s := s) W.2.2.1.2
  have hins : vp_in (nI s) 6 := vp_in_nI (by omega) (by omega)
  have hcs : (nI s).toNatClampNeg = s := nI_clamp (by omega)
  unfold wpX_drop
  refine qx_triT W hs hk hx hy (br_f qn_10 ?_)
  refine qx_place A hs6 h8 (qa_W_100 W hs6) (by omega) (by omega) (by omega) (fun i hi => ?_) (fun hn => br_t rfl (p0 hn))
  have hic := (qa_fd_some _ _ _ hi).2.1
  obtain ⟨e1, e2, e3⟩ := (A s hs6).2 (c s - 1) (by omega)
  have hin : vp_in (nI (s * 8 + (c s - 1))) 48 := vp_in_nI (by omega) (by omega)
  have hcl : (nI (s * 8 + (c s - 1))).toNatClampNeg = s * 8 + (c s - 1) := nI_clamp (by omega)
  have hi8 : vp_in (nI (s * 8 + i)) 48 := vp_in_nI (by omega) (by omega)
  have hci : (nI (s * 8 + i)).toNatClampNeg = s * 8 + i := nI_clamp (by omega)
  refine br_f (qn_m1 (by omega)) ⟨hins, hins, nm_r (e' := upd ac s (nI (c s - 1))) (by rw [hcs, (A s hs6).1, show (1 : Int32) = nI 1 from rfl, pk_sub (by omega)]) ⟨hins, nm_r (e' := nI (s * 8 + (c s - 1))) (by rw [hcs, pk_us, show nI s * 8 = nI (s * 8) from pk_mul s 8, nI_add]) ⟨hin, hi8, ?_⟩⟩⟩
  refine nm_r (e' := upd ak (s * 8 + i) (nI (K s (c s - 1)))) (by rw [hcl, hci, e1]) ⟨hin, hi8, nm_r (e' := upd al (s * 8 + i) (nI (L s (c s - 1)))) (by rw [hcl, hci, e2]) ⟨hin, hi8, nm_r (e' := upd ar (s * 8 + i) (nI (R s (c s - 1)))) (by rw [hcl, hci, e3]) (p1 i hi (by omega))⟩⟩
end
end
section
/-! the component's links -/
section
variable {rl vw vl rm h0 h1 : Nat} {c : Nat → Nat} {K L R : Nat → Nat → Nat} {fr fv fl fm f0 f1 : Int32} {ac ak al ar lk im le gr : Nat → Int32}
theorem qx_un2 {post : St2 → Prop} (hp : ∀ lk', (∀ j, j < 63 → lk' j = 0) → post (fr, fv, fl, fm, f0, f1, ac, ak, al, ar, lk', im, le, gr)) :
    ∀ d i n (lk : Nat → Int32), i + d = 63 → d < n → (∀ j, j < i → lk j = 0) → wX_unlinkAll_2 post fr fv fl fm f0 f1 n (nI i) ac ak al ar lk im le gr := by
  intro d
  induction d with
  | zero =>
    intro i n lk hi hn hz
    obtain ⟨n, rfl⟩ : ∃ m, n = m + 1 := ⟨n - 1, by omega⟩
    exact br_t (nI_le (a := 63) (by omega) (by omega)) (hp lk (fun j hj => hz j (by omega)))
  | succ d ih =>
    intro i n lk hi hn hz
    obtain ⟨n, rfl⟩ : ∃ m, n = m + 1 := ⟨n - 1, by omega⟩
    refine br_f (nI_ge (b := 63) (by omega) (by decide)) ⟨vp_in_nI (by omega) (by omega), nm_r (e' := upd lk i 0) (by rw [nI_clamp (by omega)]) (nm_r (nI_1 i) (ih (i + 1) n _ (by omega) (by omega) (fun j hj => ?_)))⟩
    by_cases e : j = i
    · subst e; exact pk_us
    · rw [pk_un e]; exact hz j (by omega)
theorem qx_unlinkAll {post : St2 → Prop} (hp : ∀ lk', (∀ j, j < 63 → lk' j = 0) → post (fr, fv, fl, fm, f0, f1, ac, ak, al, ar, lk', im, le, gr)) : wpX_unlinkAll post (fr, fv, fl, fm, f0, f1, ac, ak, al, ar, lk, im, le, gr) :=
  ⟨64, qx_un2 hp 63 0 64 lk (by omega) (by omega) (fun j hj => absurd hj (Nat.not_lt_zero j))⟩
theorem qx_termFor {post : Int32 → Prop} {x p q o : Nat} (hx : x < 4) (hp : post (nI (qa_tf p q (5 + 2 * o) x))) : wpX_termFor post () (nI x) (nI p) (nI q) (nI o) := by
  refine pk_eq x 0 (fun e => ?_) (fun e0 => pk_eq x 1 (fun e => ?_) (fun e1 => ?_))
  · subst e; exact hp
  · subst e; exact hp
  · rw [qa_tf2 (by omega)] at hp
    have e : (5 : Int32) + 2 * nI o + nI x - 2 = nI (5 + 2 * o + (x - 2)) := by
      rw [show (2 : Int32) * nI o = nI (2 * o) from pk_mul 2 o, show (5 : Int32) + nI (2 * o) = nI (5 + 2 * o) from nI_add 5 _, nI_add, show nI (5 + 2 * o + x) - 2 = nI (5 + 2 * o + x - 2) from pk_sub (b := 2) (by omega)]
      exact congrArg nI (by omega)
    rw [e]
    exact hp
theorem qx_link {post : St2 → Prop} {k l r : Nat} {F F' : Nat → Nat → Nat → Prop} (hk : k < 3) (hl : l < 21) (hr : r < 21) (H : qa_LK lk F) (hF : ∀ a b d, F' a b d ↔ (F a b d ∨ (a = k ∧ b = l ∧ d = r)))
    (hp : ∀ lk', qa_LK lk' F' → post (fr, fv, fl, fm, f0, f1, ac, ak, al, ar, lk', im, le, gr)) : wpX_link post (fr, fv, fl, fm, f0, f1, ac, ak, al, ar, lk, im, le, gr) (nI k) (nI l) (nI r) := by
  have e : nI k * 21 + nI l = nI (k * 21 + l) := by rw [show nI k * 21 = nI (k * 21) from pk_mul k 21, nI_add]
  have hin : vp_in (nI k * 21 + nI l) 63 := by rw [e]; exact vp_in_nI (by omega) (by omega)
  have hcl : (nI k * 21 + nI l).toNatClampNeg = k * 21 + l := by rw [e]; exact nI_clamp (by omega)
  exact ⟨hin, hin, nm_r (by rw [hcl]) (hp _ (qa_LK_up hk hl hr H hF))⟩
theorem qa_G_s {m : Nat} {K L R : Nat → Nat} {p q b k x y : Nat} : qa_G (m + 1) K L R p q b k x y ↔ (qa_G m K L R p q b k x y ∨ (k = K m ∧ x = qa_tf p q b (L m) ∧ y = qa_tf p q b (R m))) := by
  constructor
  · rintro ⟨j, hj, e1, e2, e3⟩
    by_cases e : j = m
    · subst e; exact Or.inr ⟨e1.symm, e2.symm, e3.symm⟩
    · exact Or.inl ⟨j, by omega, e1, e2, e3⟩
  · rintro (⟨j, hj, e⟩ | ⟨e1, e2, e3⟩)
    · exact ⟨j, by omega, e⟩
    · exact ⟨m, by omega, e1.symm, e2.symm, e3.symm⟩
theorem qa_G_0 {K L R : Nat → Nat} {p q b k x y : Nat} : ¬ qa_G 0 K L R p q b k x y := fun ⟨j, hj, _⟩ => absurd hj (Nat.not_lt_zero j)
theorem qx_lf25 {post : St2 → Prop} {v p q o : Nat} {F : Nat → Nat → Nat → Prop} (A : qa_A 8 c K L R ac ak al ar) (hv : v < 3) (hc : c (3 + v) ≤ 8) (hb : ∀ j, j < c (3 + v) → K (3 + v) j < 3 ∧ L (3 + v) j < 4 ∧ R (3 + v) j < 4) (hp : p < 5) (hq : q < 5) (ho : o < 8)
    (pp : ∀ lk', qa_LK lk' (fun k x y => F k x y ∨ qa_G (c (3 + v)) (K (3 + v)) (L (3 + v)) (R (3 + v)) p q (5 + 2 * o) k x y) → post (fr, fv, fl, fm, f0, f1, ac, ak, al, ar, lk', im, le, gr)) :
    ∀ d j n (lk : Nat → Int32), j + d = c (3 + v) → d < n → qa_LK lk (fun k x y => F k x y ∨ qa_G j (K (3 + v)) (L (3 + v)) (R (3 + v)) p q (5 + 2 * o) k x y) →
      wX_linkFacts_25 post (nI p) (nI q) (nI o) (nI ((3 + v) * 8 + c (3 + v))) n (nI ((3 + v) * 8 + j)) fr fv fl fm f0 f1 ac ak al ar lk im le gr := by
  intro d
  induction d with
  | zero =>
    intro j n lk hj hn H
    obtain ⟨n, rfl⟩ : ∃ m, n = m + 1 := ⟨n - 1, by omega⟩
    have e : j = c (3 + v) := by omega
    subst e
    exact br_t (nI_le (by omega) (by omega)) (pp lk H)
  | succ d ih =>
    intro j n lk hj hn H
    obtain ⟨n, rfl⟩ : ∃ m, n = m + 1 := ⟨n - 1, by omega⟩
    obtain ⟨e1, e2, e3⟩ := (A (3 + v) (by omega)).2 j (by omega)
    obtain ⟨b1, b2, b3⟩ := hb j (by omega)
    have hcl : (nI ((3 + v) * 8 + j)).toNatClampNeg = (3 + v) * 8 + j := nI_clamp (by omega)
    have hin : vp_in (nI ((3 + v) * 8 + j)) 48 := vp_in_nI (by omega) (by omega)
    refine br_f (nI_ge (by omega) (by omega)) ⟨hin, ?_⟩
    rw [hcl, e1, e2, e3]
    refine qx_termFor b2 ⟨hin, qx_termFor b3 ⟨hin, ?_⟩⟩
    refine qx_link b1 (qa_tf_lt (by omega) (by omega) (by omega) b2) (qa_tf_lt (by omega) (by omega) (by omega) b3) H (fun a b d => ?_) (fun lk' H' => nm_r (qn_s _ _) (ih (j + 1) n lk' (by omega) (by omega) H'))
    rw [qa_G_s]
    exact or_assoc.symm
theorem qx_linkFacts {post : St2 → Prop} {v p q o : Nat} {F F' : Nat → Nat → Nat → Prop} (A : qa_A 8 c K L R ac ak al ar) (hv : v < 3) (hc : c (3 + v) ≤ 8) (hb : ∀ j, j < c (3 + v) → K (3 + v) j < 3 ∧ L (3 + v) j < 4 ∧ R (3 + v) j < 4) (hp : p < 5) (hq : q < 5) (ho : o < 8)
    (H : qa_LK lk F) (hF : ∀ k x y, F' k x y ↔ (F k x y ∨ qa_G (c (3 + v)) (K (3 + v)) (L (3 + v)) (R (3 + v)) p q (5 + 2 * o) k x y)) (pp : ∀ lk', qa_LK lk' F' → post (fr, fv, fl, fm, f0, f1, ac, ak, al, ar, lk', im, le, gr)) :
    wpX_linkFacts post (fr, fv, fl, fm, f0, f1, ac, ak, al, ar, lk, im, le, gr) (nI v) (nI p) (nI q) (nI o) := by
  refine nm_r (e' := nI ((3 + v) * 8)) (by rw [qn_3]; exact pk_mul (3 + v) 8) ⟨by rw [qn_3]; exact vp_in_nI (by omega) (by omega), nm_r (e' := nI ((3 + v) * 8 + c (3 + v))) (by rw [qn_3, nI_clamp (by omega), (A (3 + v) (by omega)).1, nI_add]) ⟨c (3 + v) + 1, ?_⟩⟩
  refine qx_lf25 A hv hc hb hp hq ho (fun lk' H' => pp lk' (qa_LK_cg H' hF)) (c (3 + v)) 0 _ lk (by omega) (by omega) (qa_LK_cg H (fun k x y => ?_))
  exact ⟨fun z => z.elim id (fun q => absurd q qa_G_0), Or.inl⟩
/-- the mask's bit of a view -/
def qa_on (mask : Int32) (V : Nat → Nat) (i : Nat) : Bool := decide ((mask >>> (nI (V i) &&& 31)) &&& 1 = 1)
theorem qa_on_t {mask : Int32} {V : Nat → Nat} {i : Nat} : qa_on mask V i = true ↔ (mask >>> (nI (V i) &&& 31)) &&& 1 = 1 := decide_eq_true_iff
theorem qx_inMask {post : Int32 → Prop} {mask : Int32} {V : Nat → Nat} {i : Nat} (p1 : qa_on mask V i = true → post 1) (p0 : ¬ qa_on mask V i = true → post 0) : wpX_isInMask post () (nI (V i)) mask :=
  br_c (fun h => p1 (qa_on_t.mpr h)) (fun h => p0 (fun z => h (qa_on_t.mp z)))
theorem qx_lfs16 {post : St2 → Prop} {s : Nat} {mask : Int32} (A : qa_A 8 c K L R ac ak al ar) (hs : s < 6) (hc : ∀ s, s < 6 → c s ≤ 8) (hV : ∀ j, j < c s → K s j < 3 ∧ L s j < 5 ∧ R s j < 5) (hb : ∀ v, v < 3 → ∀ j, j < c (3 + v) → K (3 + v) j < 3 ∧ L (3 + v) j < 4 ∧ R (3 + v) j < 4)
    (pp : ∀ lk', qa_LK lk' (qa_FX c K L R (qa_on mask (K s)) (K s) (L s) (R s) (fun i => 5 + 2 * i) (c s)) → post (fr, fv, fl, fm, f0, f1, ac, ak, al, ar, lk', im, le, gr)) :
    ∀ d j n (lk : Nat → Int32), j + d = c s → d < n → qa_LK lk (qa_FX c K L R (qa_on mask (K s)) (K s) (L s) (R s) (fun i => 5 + 2 * i) j) →
      wX_linkFactsOfSection_16 post mask (nI (s * 8)) (nI (c s)) n (nI j) fr fv fl fm f0 f1 ac ak al ar lk im le gr := by
  have h8 := hc s hs
  intro d
  induction d with
  | zero =>
    intro j n lk hj hn H
    obtain ⟨n, rfl⟩ : ∃ m, n = m + 1 := ⟨n - 1, by omega⟩
    have e : j = c s := by omega
    subst e
    exact br_t (nI_le (by omega) (by omega)) (pp lk H)
  | succ d ih =>
    intro j n lk hj hn H
    obtain ⟨n, rfl⟩ : ∃ m, n = m + 1 := ⟨n - 1, by omega⟩
    obtain ⟨e1, e2, e3⟩ := (A s hs).2 j (by omega)
    obtain ⟨b1, b2, b3⟩ := hV j (by omega)
    have hcl : (nI (s * 8 + j)).toNatClampNeg = s * 8 + j := nI_clamp (by omega)
    have hin : vp_in (nI (s * 8 + j)) 48 := vp_in_nI (by omega) (by omega)
    refine br_f (nI_ge (by omega) (by omega)) (nm_r (nI_add (s * 8) j) ⟨hin, ?_⟩)
    rw [hcl, e1, e2, e3]
    refine qx_inMask (V := K s) (i := j) (fun h => br_f qn_10 ⟨hin, hin, hin, ?_⟩) (fun h => br_t rfl (nm_r (nI_1 j) (ih (j + 1) n lk (by omega) (by omega) (qa_LK_cg H (fun k x y => qa_FX_f h)))))
    exact qx_linkFacts A b1 (hc _ (by omega)) (hb _ b1) b2 b3 (by omega) H (fun k x y => qa_FX_t h) (fun lk' H' => nm_r (nI_1 j) (ih (j + 1) n lk' (by omega) (by omega) H'))
theorem qx_linkFactsOfSection {post : St2 → Prop} {s : Nat} {mask : Int32} (A : qa_A 8 c K L R ac ak al ar) (hs : s < 6) (hc : ∀ s, s < 6 → c s ≤ 8) (hV : ∀ j, j < c s → K s j < 3 ∧ L s j < 5 ∧ R s j < 5) (hb : ∀ v, v < 3 → ∀ j, j < c (3 + v) → K (3 + v) j < 3 ∧ L (3 + v) j < 4 ∧ R (3 + v) j < 4)
    (hz : ∀ j, j < 63 → lk j = 0) (pp : ∀ lk', qa_LK lk' (qa_FX c K L R (qa_on mask (K s)) (K s) (L s) (R s) (fun i => 5 + 2 * i) (c s)) → post (fr, fv, fl, fm, f0, f1, ac, ak, al, ar, lk', im, le, gr)) :
    wpX_linkFactsOfSection post (fr, fv, fl, fm, f0, f1, ac, ak, al, ar, lk, im, le, gr) (nI s) mask := by
  have h8 := hc s hs
  refine nm_r (pk_mul s 8) ⟨vp_in_nI (by omega) (by omega), nm_r (e' := nI (c s)) (by rw [nI_clamp (by omega), (A s hs).1]) ⟨c s + 1, ?_⟩⟩
  exact qx_lfs16 A hs hc hV hb pp (c s) 0 (c s + 1) lk (by omega) (by omega) (qa_LK_0 hz (fun _ _ _ => qa_FX_0))
theorem qx_lr14 {post : St2 → Prop} (A : qa_A 8 c K L R ac ak al ar) (h8 : c 2 ≤ 8) (hV : ∀ j, j < c 2 → K 2 j < 3 ∧ L 2 j < 5 ∧ R 2 j < 5)
    (pp : ∀ lk', qa_LK lk' (qa_In (c 2) (K 2) (L 2) (R 2)) → post (fr, fv, fl, fm, f0, f1, ac, ak, al, ar, lk', im, le, gr)) :
    ∀ d j n (lk : Nat → Int32), j + d = c 2 → d < n → qa_LK lk (qa_In j (K 2) (L 2) (R 2)) → wX_linkRows_14 post (nI (16 + c 2)) n (nI (16 + j)) fr fv fl fm f0 f1 ac ak al ar lk im le gr := by
  intro d
  induction d with
  | zero =>
    intro j n lk hj hn H
    obtain ⟨n, rfl⟩ : ∃ m, n = m + 1 := ⟨n - 1, by omega⟩
    have e : j = c 2 := by omega
    subst e
    exact br_t (nI_le (by omega) (by omega)) (pp lk H)
  | succ d ih =>
    intro j n lk hj hn H
    obtain ⟨n, rfl⟩ : ∃ m, n = m + 1 := ⟨n - 1, by omega⟩
    obtain ⟨e1, e2, e3⟩ := (A 2 (by decide)).2 j (by omega)
    obtain ⟨b1, b2, b3⟩ := hV j (by omega)
    have hcl : (nI (16 + j)).toNatClampNeg = 2 * 8 + j := nI_clamp (by omega)
    have hin : vp_in (nI (16 + j)) 48 := vp_in_nI (by omega) (by omega)
    refine br_f (nI_ge (by omega) (by omega)) ⟨hin, hin, hin, ?_⟩
    rw [hcl, e1, e2, e3]
    refine qx_link b1 (by omega) (by omega) H (fun a b d => ?_) (fun lk' H' => nm_r (qn_s _ _) (ih (j + 1) n lk' (by omega) (by omega) H'))
    constructor
    · rintro ⟨i, hi, z1, z2, z3⟩
      by_cases e : i = j
      · subst e; exact Or.inr ⟨z1.symm, z2.symm, z3.symm⟩
      · exact Or.inl ⟨i, by omega, z1, z2, z3⟩
    · rintro (⟨i, hi, z⟩ | ⟨z1, z2, z3⟩)
      · exact ⟨i, by omega, z⟩
      · exact ⟨j, by omega, z1.symm, z2.symm, z3.symm⟩
theorem qx_linkRows {post : St2 → Prop} (A : qa_A 8 c K L R ac ak al ar) (h8 : c 2 ≤ 8) (hV : ∀ j, j < c 2 → K 2 j < 3 ∧ L 2 j < 5 ∧ R 2 j < 5) (hz : ∀ j, j < 63 → lk j = 0)
    (pp : ∀ lk', qa_LK lk' (qa_In (c 2) (K 2) (L 2) (R 2)) → post (fr, fv, fl, fm, f0, f1, ac, ak, al, ar, lk', im, le, gr)) : wpX_linkRows post (fr, fv, fl, fm, f0, f1, ac, ak, al, ar, lk, im, le, gr) := by
  refine nm_r (e' := nI (16 + c 2)) (by rw [(A 2 (by decide)).1]; exact nI_add 16 _) ⟨c 2 + 1, ?_⟩
  exact qx_lr14 A h8 hV pp (c 2) 0 (c 2 + 1) lk (by omega) (by omega) (qa_LK_0 hz (fun _ _ _ ⟨j, hj, _⟩ => absurd hj (Nat.not_lt_zero j)))
/-! the interval of each variable -/
def qa_LH (le gr : Nat → Int32) (lo hi : Nat → Nat) : Prop := ∀ v, v < 5 → le v = nI (lo v) ∧ gr v = nI (hi v) ∧ hi v < 21 ∧ lo v < 21
theorem qx_ro2 {post : St2 → Prop} {T : Nat} (hT : T < 21) (hp : ∀ le' gr', qa_LH le' gr' (fun _ => 0) (fun _ => T) → post (fr, fv, fl, fm, f0, f1, ac, ak, al, ar, lk, im, le', gr')) :
    ∀ d i n (le gr : Nat → Int32), i + d = 5 → d < n → (∀ v, v < i → le v = 0 ∧ gr v = nI T) → wX_letRoam_2 post (nI (T + 1)) fr fv fl fm f0 f1 n (nI i) ac ak al ar lk im le gr := by
  intro d
  induction d with
  | zero =>
    intro i n le gr hi hn hz
    obtain ⟨n, rfl⟩ : ∃ m, n = m + 1 := ⟨n - 1, by omega⟩
    exact br_t (nI_le (a := 5) (by omega) (by omega)) (hp le gr (fun v hv => ⟨(hz v (by omega)).1, (hz v (by omega)).2, hT, (by decide : 0 < 21)⟩))
  | succ d ih =>
    intro i n le gr hi hn hz
    obtain ⟨n, rfl⟩ : ∃ m, n = m + 1 := ⟨n - 1, by omega⟩
    have hcl : (nI i).toNatClampNeg = i := nI_clamp (by omega)
    have hin : vp_in (nI i) 5 := vp_in_nI (by omega) (by omega)
    refine br_f (nI_ge (b := 5) (by omega) (by decide)) ⟨hin, nm_r (e' := upd le i 0) (by rw [hcl]) ⟨hin, nm_r (e' := upd gr i (nI T)) (by rw [hcl, nI_pred]) (nm_r (nI_1 i) (ih (i + 1) n _ _ (by omega) (by omega) (fun v hv => ?_)))⟩⟩
    by_cases e : v = i
    · subst e; exact ⟨pk_us, pk_us⟩
    · rw [pk_un e, pk_un e]; exact hz v (by omega)
theorem qx_letRoam {post : St2 → Prop} {T : Nat} (hT : T < 21) (hp : ∀ le' gr', qa_LH le' gr' (fun _ => 0) (fun _ => T) → post (fr, fv, fl, fm, f0, f1, ac, ak, al, ar, lk, im, le', gr')) : wpX_letRoam post (fr, fv, fl, fm, f0, f1, ac, ak, al, ar, lk, im, le, gr) (nI (T + 1)) :=
  ⟨6, qx_ro2 hT hp 5 0 6 le gr (by omega) (by omega) (fun v hv => absurd hv (Nat.not_lt_zero v))⟩
theorem qx_pin {post : St2 → Prop} {lo hi lo' hi' : Nat → Nat} {v t : Nat} (hv : v < 5) (ht : t < 21) (H : qa_LH le gr lo hi) (hl : ∀ w, lo' w = if w = v then t else lo w) (hh : ∀ w, hi' w = if w = v then t else hi w)
    (hp : ∀ le' gr', qa_LH le' gr' lo' hi' → post (fr, fv, fl, fm, f0, f1, ac, ak, al, ar, lk, im, le', gr')) : wpX_pin post (fr, fv, fl, fm, f0, f1, ac, ak, al, ar, lk, im, le, gr) (nI v) (nI t) := by
  have hcl : (nI v).toNatClampNeg = v := nI_clamp (by omega)
  have hin : vp_in (nI v) 5 := vp_in_nI (by omega) (by omega)
  refine ⟨hin, nm_r (e' := upd le v (nI t)) (by rw [hcl]) ⟨hin, nm_r (e' := upd gr v (nI t)) (by rw [hcl]) (hp _ _ (fun w hw => ?_))⟩⟩
  rw [hl, hh]
  by_cases e : w = v
  · subst e
    rw [pk_us, pk_us, if_pos rfl, if_pos rfl]
    exact ⟨rfl, rfl, ht, ht⟩
  · rw [pk_un e, pk_un e, if_neg e, if_neg e]
    exact H w hw
end
end
section
/-! the component's search -/
def qa_IM (im : Nat → Int32) (g : Nat → Nat) (n : Nat) : Prop := ∀ v, v < n → im v = nI (g v) ∧ g v < 21
section
variable {rl vw vl rm h0 h1 : Nat} {c : Nat → Nat} {K L R : Nat → Nat → Nat} {fr fv fl fm f0 f1 : Int32} {ac ak al ar lk im le gr : Nat → Int32}
theorem qx_isLinked {post : Int32 → Prop} {k l r : Nat} {F : Nat → Nat → Nat → Prop} (hk : k < 3) (hl : l < 21) (hr : r < 21) (H : qa_LK lk F) (p1 : F k l r → post 1) (p0 : ¬ F k l r → post 0) : wpX_isLinked post (fr, fv, fl, fm, f0, f1, ac, ak, al, ar, lk, im, le, gr) (nI k) (nI l) (nI r) := by
  have e : nI k * 21 + nI l = nI (k * 21 + l) := by rw [show nI k * 21 = nI (k * 21) from pk_mul k 21, nI_add]
  have hin : vp_in (nI k * 21 + nI l) 63 := by rw [e]; exact vp_in_nI (by omega) (by omega)
  have hcl : (nI k * 21 + nI l).toNatClampNeg = k * 21 + l := by rw [e]; exact nI_clamp (by omega)
  refine ⟨hin, ?_⟩
  rw [hcl]
  exact ek_if ((qb_t1 _ (by omega)).trans (H k l r hk hl hr)) p1 p0
theorem qx_cg50 {post : Int32 → St2 → Prop} {s m : Nat} {g : Nat → Nat} {F : Nat → Nat → Nat → Prop} (A : qa_A 8 c K L R ac ak al ar) (hs : s < 6) (h8 : c s ≤ 8) (hb : ∀ j, j < c s → K s j < 3 ∧ L s j < 5 ∧ R s j < 5) (H : qa_LK lk F) (hm : m < 5) (hI : qa_IM im g (m + 1)) :
    ∀ d j n, j + d = c s → d < n → ((∀ i, j ≤ i → i < c s → qa_due (L s i) (R s i) m → F (K s i) (g (L s i)) (g (R s i))) → post 1 (fr, fv, fl, fm, f0, f1, ac, ak, al, ar, lk, im, le, gr)) → ((¬ ∀ i, j ≤ i → i < c s → qa_due (L s i) (R s i) m → F (K s i) (g (L s i)) (g (R s i))) → post 0 (fr, fv, fl, fm, f0, f1, ac, ak, al, ar, lk, im, le, gr)) →
      wX_canGo_50 post (nI m) (nI (s * 8 + c s)) fr fv fl fm f0 f1 ac ak al ar lk im le gr n (nI (s * 8 + j)) := by
  intro d
  induction d with
  | zero =>
    intro j n hj hn p1 p0
    obtain ⟨n, rfl⟩ : ∃ m, n = m + 1 := ⟨n - 1, by omega⟩
    exact br_t (nI_le (by omega) (by omega)) (p1 (fun i h1 h2 => absurd h1 (by omega)))
  | succ d ih =>
    intro j n hj hn p1 p0
    obtain ⟨n, rfl⟩ : ∃ m, n = m + 1 := ⟨n - 1, by omega⟩
    obtain ⟨e1, e2, e3⟩ := (A s hs).2 j (by omega)
    obtain ⟨b1, b2, b3⟩ := hb j (by omega)
    have hcl : (nI (s * 8 + j)).toNatClampNeg = s * 8 + j := nI_clamp (by omega)
    have hin : vp_in (nI (s * 8 + j)) 48 := vp_in_nI (by omega) (by omega)
    have hnx : (qa_due (L s j) (R s j) m → F (K s j) (g (L s j)) (g (R s j))) → wX_canGo_50 post (nI m) (nI (s * 8 + c s)) fr fv fl fm f0 f1 ac ak al ar lk im le gr n (nI (s * 8 + (j + 1))) := fun z => by
      refine ih (j + 1) n (by omega) (by omega) (fun h => p1 (fun i q1 q2 q3 => ?_)) (fun h => p0 (fun q => h (fun i q1 q2 q3 => q i (by omega) q2 q3)))
      by_cases e : i = j
      · subst e; exact z q3
      · exact h i (by omega) q2 q3
    have hno : ¬ qa_due (L s j) (R s j) m → wX_canGo_107 post (wX_canGo_50 post (nI m) (nI (s * 8 + c s)) fr fv fl fm f0 f1 ac ak al ar lk im le gr n) (nI m) (nI (s * 8 + c s)) (nI (s * 8 + j)) (nI (L s j)) (nI (R s j)) 0 fr fv fl fm f0 f1 ac ak al ar lk im le gr := fun z =>
      br_t rfl (nm_r (qn_s _ _) (hnx (fun q => absurd q z)))
    have hye : qa_due (L s j) (R s j) m → wX_canGo_107 post (wX_canGo_50 post (nI m) (nI (s * 8 + c s)) fr fv fl fm f0 f1 ac ak al ar lk im le gr n) (nI m) (nI (s * 8 + c s)) (nI (s * 8 + j)) (nI (L s j)) (nI (R s j)) 1 fr fv fl fm f0 f1 ac ak al ar lk im le gr := fun z => by
      have zz := z
      unfold qa_due at zz
      obtain ⟨i1, i2⟩ := hI (L s j) (by omega)
      obtain ⟨i3, i4⟩ := hI (R s j) (by omega)
      refine br_f qn_10 ⟨hin, vp_in_nI b2 (by omega), vp_in_nI b3 (by omega), ?_⟩
      rw [hcl, e1, nI_clamp (show L s j < 2 ^ 31 by omega), nI_clamp (show R s j < 2 ^ 31 by omega), i1, i3]
      refine qx_isLinked b1 i2 i4 H (fun q => br_f qn_10 (nm_r (qn_s _ _) (hnx (fun _ => q)))) (fun q => br_t rfl (p0 (fun w => q (w j (by omega) (by omega) z))))
    refine br_f (nI_ge (by omega) (by omega)) ⟨hin, nm_r (e' := nI (L s j)) (by rw [hcl]; exact e2) ⟨hin, nm_r (e' := nI (R s j)) (by rw [hcl]; exact e3) ?_⟩⟩
    refine pk_le (L s j) (R s j) (fun h => pk_eq (R s j) m (fun e => hye (Or.inr ⟨h, e⟩)) (fun e => hno ?_)) (fun h => pk_eq (L s j) m (fun e => hye (Or.inl ⟨h, e⟩)) (fun e => hno ?_))
    · unfold qa_due; omega
    · unfold qa_due; omega
theorem qx_canGo {post : Int32 → St2 → Prop} {s m t : Nat} {g : Nat → Nat} {F : Nat → Nat → Nat → Prop} {lo hi : Nat → Nat} (A : qa_A 8 c K L R ac ak al ar) (hs : s < 6) (h8 : c s ≤ 8) (hb : ∀ j, j < c s → K s j < 3 ∧ L s j < 5 ∧ R s j < 5) (H : qa_LK lk F) (LH : qa_LH le gr lo hi)
    (hm : m < 5) (hI : qa_IM im g m) (Hok : qa_Ok (c s) (K s) (L s) (R s) F lo hi m g) (ht : t < 21)
    (p1 : ∀ im', qa_IM im' (qa_set g m t) (m + 1) → qa_Ok (c s) (K s) (L s) (R s) F lo hi (m + 1) (qa_set g m t) → post 1 (fr, fv, fl, fm, f0, f1, ac, ak, al, ar, lk, im', le, gr))
    (p0 : ∀ im', qa_IM im' g m → ¬ qa_Ok (c s) (K s) (L s) (R s) F lo hi (m + 1) (qa_set g m t) → post 0 (fr, fv, fl, fm, f0, f1, ac, ak, al, ar, lk, im', le, gr)) :
    wpX_canGo post (fr, fv, fl, fm, f0, f1, ac, ak, al, ar, lk, im, le, gr) (nI s) (nI m) (nI t) := by
  obtain ⟨l1, l2, l3, l4⟩ := LH m hm
  have hcl : (nI m).toNatClampNeg = m := nI_clamp (by omega)
  have hin : vp_in (nI m) 5 := vp_in_nI (by omega) (by omega)
  by_cases hr : lo m ≤ t ∧ t ≤ hi m
  · have hI1 : qa_IM (upd im m (nI t)) g m := fun v hv => by
      rw [pk_un (by omega)]
      exact hI v hv
    have hI2 : qa_IM (upd im m (nI t)) (qa_set g m t) (m + 1) := fun v hv => by
      by_cases e : v = m
      · subst e; rw [pk_us, qa_set_s]; exact ⟨rfl, ht⟩
      · rw [pk_un e, qa_set_n e]; exact hI v (by omega)
    have Hok' : qa_Ok (c s) (K s) (L s) (R s) F lo hi m (qa_set g m t) := qa_Ok_cg (fun v hv => qa_set_n (by omega)) Hok
    refine ⟨hin, br_f ?_ ⟨hin, br_t ?_ ⟨hin, nm_r (e' := upd im m (nI t)) (by rw [hcl]) (nm_r (pk_mul s 8) ⟨vp_in_nI (by omega) (by omega), nm_r (e' := nI (s * 8 + c s)) (by rw [nI_clamp (by omega), (A s hs).1, nI_add]) ⟨c s + 1, ?_⟩⟩)⟩⟩⟩
    · rw [hcl, l1]; exact nI_nlt hr.1 (by omega)
    · rw [hcl, l2]; exact nI_le hr.2 (by omega)
    · refine qx_cg50 A hs h8 hb H hm hI2 (c s) 0 (c s + 1) (by omega) (by omega) (fun z => p1 _ hI2 (qa_Ok_s Hok' ?_ (fun j hj => z j (Nat.zero_le _) hj))) (fun z => p0 _ hI1 (fun q => z (fun i _ h2 => qa_Ok_due q i h2)))
      rw [qa_set_s]; exact hr
  · have hno : ¬ qa_Ok (c s) (K s) (L s) (R s) F lo hi (m + 1) (qa_set g m t) := fun q => by
      have := q.1 m (by omega)
      rw [qa_set_s] at this
      exact hr this
    refine ⟨hin, ?_⟩
    rw [hcl, l1, l2]
    exact pk_lt t (lo m) (fun h => p0 im hI hno) (fun h => ⟨hin, pk_le t (hi m) (fun h' => absurd ⟨h, h'⟩ hr) (fun h' => p0 im hI hno)⟩)

theorem qx_h4 {post : Int32 → St2 → Prop} {J2 : _} {J23 : _} {J45 : _} {J69 : _} {s t1 : Nat} {x2 x3 x4 : Int32} {F : Nat → Nat → Nat → Prop} {lo hi : Nat → Nat} (A : qa_A 8 c K L R ac ak al ar) (hs : s < 6) (h8 : c s ≤ 8) (hb : ∀ j, j < c s → K s j < 3 ∧ L s j < 5 ∧ R s j < 5) (H : qa_LK lk F) (LH : qa_LH le gr lo hi) {g : Nat → Nat} (Hok : qa_Ok (c s) (K s) (L s) (R s) F lo hi 4 g) :
    ∀ d t n (im : Nat → Int32), t + d = 21 → d < n → qa_IM im g 4 → (qa_Ex (c s) (K s) (L s) (R s) F lo hi 4 g t → ∀ im2, post 1 (fr, fv, fl, fm, f0, f1, ac, ak, al, ar, lk, im2, le, gr)) → (¬ qa_Ex (c s) (K s) (L s) (R s) F lo hi 4 g t → ∀ im2, qa_IM im2 g 4 → J69 (nI (t1 + 1)) fr fv fl fm f0 f1 ac ak al ar lk im2 le gr) →
      wX_hasImage_93 post J2 J23 J45 J69 (nI s) x2 x3 x4 (nI t1) n (nI t) fr fv fl fm f0 f1 ac ak al ar lk im le gr := by
  intro d
  induction d with
  | zero =>
    intro t n im ht hn hI p1 p0
    obtain ⟨n, rfl⟩ : ∃ m, n = m + 1 := ⟨n - 1, by omega⟩
    have hx : ¬ qa_Ex (c s) (K s) (L s) (R s) F lo hi 4 g t := qa_Ex_no (by decide) (by have := (LH 4 (by decide)).2.2.1; omega)
    exact br_t (nI_le (a := 21) (by omega) (by omega)) (nm_r (nI_1 t1) (p0 hx im hI))
  | succ d ih =>
    intro t n im ht hn hI p1 p0
    obtain ⟨n, rfl⟩ : ∃ m, n = m + 1 := ⟨n - 1, by omega⟩
    have nxt : ∀ im2, qa_IM im2 g 4 → (qa_Ex (c s) (K s) (L s) (R s) F lo hi 4 g t → qa_Ex (c s) (K s) (L s) (R s) F lo hi 4 g (t + 1)) → wX_hasImage_93 post J2 J23 J45 J69 (nI s) x2 x3 x4 (nI t1) n (nI (t + 1)) fr fv fl fm f0 f1 ac ak al ar lk im2 le gr := fun im2 hI2 hE =>
      ih (t + 1) n im2 (by omega) (by omega) hI2 (fun z => p1 (qa_Ex_s z)) (fun z => p0 (fun q => z (hE q)))
    refine br_f (nI_ge (b := 21) (by omega) (by decide)) ?_
    refine qx_canGo A hs h8 hb H LH (m := 4) (t := t) (by decide) hI Hok (by omega) (fun im2 hI2 hok => br_f qn_10 ?_) (fun im2 hI2 hno => br_t rfl (nm_r (nI_1 t) (nxt im2 hI2 (qa_Ex_no1 (by decide) hno))))
    exact p1 (qa_Ex_in (qa_Ex_5 hok)) im2
theorem qx_h3 {post : Int32 → St2 → Prop} {J2 : _} {J23 : _} {J45 : _} {s t1 : Nat} {x2 x3 : Int32} {F : Nat → Nat → Nat → Prop} {lo hi : Nat → Nat} (A : qa_A 8 c K L R ac ak al ar) (hs : s < 6) (h8 : c s ≤ 8) (hb : ∀ j, j < c s → K s j < 3 ∧ L s j < 5 ∧ R s j < 5) (H : qa_LK lk F) (LH : qa_LH le gr lo hi) {g : Nat → Nat} (Hok : qa_Ok (c s) (K s) (L s) (R s) F lo hi 3 g) :
    ∀ d t n (im : Nat → Int32), t + d = 21 → d < n → qa_IM im g 3 → (qa_Ex (c s) (K s) (L s) (R s) F lo hi 3 g t → ∀ im2, post 1 (fr, fv, fl, fm, f0, f1, ac, ak, al, ar, lk, im2, le, gr)) → (¬ qa_Ex (c s) (K s) (L s) (R s) F lo hi 3 g t → ∀ im2, qa_IM im2 g 3 → J45 (nI (t1 + 1)) fr fv fl fm f0 f1 ac ak al ar lk im2 le gr) →
      wX_hasImage_69 post J2 J23 J45 (nI s) x2 x3 (nI t1) n (nI t) fr fv fl fm f0 f1 ac ak al ar lk im le gr := by
  intro d
  induction d with
  | zero =>
    intro t n im ht hn hI p1 p0
    obtain ⟨n, rfl⟩ : ∃ m, n = m + 1 := ⟨n - 1, by omega⟩
    have hx : ¬ qa_Ex (c s) (K s) (L s) (R s) F lo hi 3 g t := qa_Ex_no (by decide) (by have := (LH 3 (by decide)).2.2.1; omega)
    exact br_t (nI_le (a := 21) (by omega) (by omega)) (nm_r (nI_1 t1) (p0 hx im hI))
  | succ d ih =>
    intro t n im ht hn hI p1 p0
    obtain ⟨n, rfl⟩ : ∃ m, n = m + 1 := ⟨n - 1, by omega⟩
    have nxt : ∀ im2, qa_IM im2 g 3 → (qa_Ex (c s) (K s) (L s) (R s) F lo hi 3 g t → qa_Ex (c s) (K s) (L s) (R s) F lo hi 3 g (t + 1)) → wX_hasImage_69 post J2 J23 J45 (nI s) x2 x3 (nI t1) n (nI (t + 1)) fr fv fl fm f0 f1 ac ak al ar lk im2 le gr := fun im2 hI2 hE =>
      ih (t + 1) n im2 (by omega) (by omega) hI2 (fun z => p1 (qa_Ex_s z)) (fun z => p0 (fun q => z (hE q)))
    refine br_f (nI_ge (b := 21) (by omega) (by decide)) ?_
    refine qx_canGo A hs h8 hb H LH (m := 3) (t := t) (by decide) hI Hok (by omega) (fun im2 hI2 hok => br_f qn_10 ?_) (fun im2 hI2 hno => br_t rfl (nm_r (nI_1 t) (nxt im2 hI2 (qa_Ex_no1 (by decide) hno))))
    refine ⟨22, qx_h4 A hs h8 hb H LH hok 21 0 22 im2 (by omega) (by omega) hI2 (fun z => p1 (qa_Ex_in z)) (fun z im3 hI3 => nxt im3 (fun v hv => ?_) (fun q => Classical.byContradiction (fun w => z (qa_Ex_c q w))))⟩
    have := hI3 v (by omega)
    rw [qa_set_n (by omega)] at this
    exact this
theorem qx_h2 {post : Int32 → St2 → Prop} {J2 : _} {J23 : _} {s t1 : Nat} {x2 : Int32} {F : Nat → Nat → Nat → Prop} {lo hi : Nat → Nat} (A : qa_A 8 c K L R ac ak al ar) (hs : s < 6) (h8 : c s ≤ 8) (hb : ∀ j, j < c s → K s j < 3 ∧ L s j < 5 ∧ R s j < 5) (H : qa_LK lk F) (LH : qa_LH le gr lo hi) {g : Nat → Nat} (Hok : qa_Ok (c s) (K s) (L s) (R s) F lo hi 2 g) :
    ∀ d t n (im : Nat → Int32), t + d = 21 → d < n → qa_IM im g 2 → (qa_Ex (c s) (K s) (L s) (R s) F lo hi 2 g t → ∀ im2, post 1 (fr, fv, fl, fm, f0, f1, ac, ak, al, ar, lk, im2, le, gr)) → (¬ qa_Ex (c s) (K s) (L s) (R s) F lo hi 2 g t → ∀ im2, qa_IM im2 g 2 → J23 (nI (t1 + 1)) fr fv fl fm f0 f1 ac ak al ar lk im2 le gr) →
      wX_hasImage_45 post J2 J23 (nI s) x2 (nI t1) n (nI t) fr fv fl fm f0 f1 ac ak al ar lk im le gr := by
  intro d
  induction d with
  | zero =>
    intro t n im ht hn hI p1 p0
    obtain ⟨n, rfl⟩ : ∃ m, n = m + 1 := ⟨n - 1, by omega⟩
    have hx : ¬ qa_Ex (c s) (K s) (L s) (R s) F lo hi 2 g t := qa_Ex_no (by decide) (by have := (LH 2 (by decide)).2.2.1; omega)
    exact br_t (nI_le (a := 21) (by omega) (by omega)) (nm_r (nI_1 t1) (p0 hx im hI))
  | succ d ih =>
    intro t n im ht hn hI p1 p0
    obtain ⟨n, rfl⟩ : ∃ m, n = m + 1 := ⟨n - 1, by omega⟩
    have nxt : ∀ im2, qa_IM im2 g 2 → (qa_Ex (c s) (K s) (L s) (R s) F lo hi 2 g t → qa_Ex (c s) (K s) (L s) (R s) F lo hi 2 g (t + 1)) → wX_hasImage_45 post J2 J23 (nI s) x2 (nI t1) n (nI (t + 1)) fr fv fl fm f0 f1 ac ak al ar lk im2 le gr := fun im2 hI2 hE =>
      ih (t + 1) n im2 (by omega) (by omega) hI2 (fun z => p1 (qa_Ex_s z)) (fun z => p0 (fun q => z (hE q)))
    refine br_f (nI_ge (b := 21) (by omega) (by decide)) ?_
    refine qx_canGo A hs h8 hb H LH (m := 2) (t := t) (by decide) hI Hok (by omega) (fun im2 hI2 hok => br_f qn_10 ?_) (fun im2 hI2 hno => br_t rfl (nm_r (nI_1 t) (nxt im2 hI2 (qa_Ex_no1 (by decide) hno))))
    refine ⟨22, qx_h3 A hs h8 hb H LH hok 21 0 22 im2 (by omega) (by omega) hI2 (fun z => p1 (qa_Ex_in z)) (fun z im3 hI3 => nxt im3 (fun v hv => ?_) (fun q => Classical.byContradiction (fun w => z (qa_Ex_c q w))))⟩
    have := hI3 v (by omega)
    rw [qa_set_n (by omega)] at this
    exact this
theorem qx_h1 {post : Int32 → St2 → Prop} {J2 : _} {s t1 : Nat} {F : Nat → Nat → Nat → Prop} {lo hi : Nat → Nat} (A : qa_A 8 c K L R ac ak al ar) (hs : s < 6) (h8 : c s ≤ 8) (hb : ∀ j, j < c s → K s j < 3 ∧ L s j < 5 ∧ R s j < 5) (H : qa_LK lk F) (LH : qa_LH le gr lo hi) {g : Nat → Nat} (Hok : qa_Ok (c s) (K s) (L s) (R s) F lo hi 1 g) :
    ∀ d t n (im : Nat → Int32), t + d = 21 → d < n → qa_IM im g 1 → (qa_Ex (c s) (K s) (L s) (R s) F lo hi 1 g t → ∀ im2, post 1 (fr, fv, fl, fm, f0, f1, ac, ak, al, ar, lk, im2, le, gr)) → (¬ qa_Ex (c s) (K s) (L s) (R s) F lo hi 1 g t → ∀ im2, qa_IM im2 g 1 → J2 (nI (t1 + 1)) fr fv fl fm f0 f1 ac ak al ar lk im2 le gr) →
      wX_hasImage_23 post J2 (nI s) (nI t1) n (nI t) fr fv fl fm f0 f1 ac ak al ar lk im le gr := by
  intro d
  induction d with
  | zero =>
    intro t n im ht hn hI p1 p0
    obtain ⟨n, rfl⟩ : ∃ m, n = m + 1 := ⟨n - 1, by omega⟩
    have hx : ¬ qa_Ex (c s) (K s) (L s) (R s) F lo hi 1 g t := qa_Ex_no (by decide) (by have := (LH 1 (by decide)).2.2.1; omega)
    exact br_t (nI_le (a := 21) (by omega) (by omega)) (nm_r (nI_1 t1) (p0 hx im hI))
  | succ d ih =>
    intro t n im ht hn hI p1 p0
    obtain ⟨n, rfl⟩ : ∃ m, n = m + 1 := ⟨n - 1, by omega⟩
    have nxt : ∀ im2, qa_IM im2 g 1 → (qa_Ex (c s) (K s) (L s) (R s) F lo hi 1 g t → qa_Ex (c s) (K s) (L s) (R s) F lo hi 1 g (t + 1)) → wX_hasImage_23 post J2 (nI s) (nI t1) n (nI (t + 1)) fr fv fl fm f0 f1 ac ak al ar lk im2 le gr := fun im2 hI2 hE =>
      ih (t + 1) n im2 (by omega) (by omega) hI2 (fun z => p1 (qa_Ex_s z)) (fun z => p0 (fun q => z (hE q)))
    refine br_f (nI_ge (b := 21) (by omega) (by decide)) ?_
    refine qx_canGo A hs h8 hb H LH (m := 1) (t := t) (by decide) hI Hok (by omega) (fun im2 hI2 hok => br_f qn_10 ?_) (fun im2 hI2 hno => br_t rfl (nm_r (nI_1 t) (nxt im2 hI2 (qa_Ex_no1 (by decide) hno))))
    refine ⟨22, qx_h2 A hs h8 hb H LH hok 21 0 22 im2 (by omega) (by omega) hI2 (fun z => p1 (qa_Ex_in z)) (fun z im3 hI3 => nxt im3 (fun v hv => ?_) (fun q => Classical.byContradiction (fun w => z (qa_Ex_c q w))))⟩
    have := hI3 v (by omega)
    rw [qa_set_n (by omega)] at this
    exact this
theorem qx_h0 {post : Int32 → St2 → Prop}  {s : Nat} {F : Nat → Nat → Nat → Prop} {lo hi : Nat → Nat} (A : qa_A 8 c K L R ac ak al ar) (hs : s < 6) (h8 : c s ≤ 8) (hb : ∀ j, j < c s → K s j < 3 ∧ L s j < 5 ∧ R s j < 5) (H : qa_LK lk F) (LH : qa_LH le gr lo hi) {g : Nat → Nat} (Hok : qa_Ok (c s) (K s) (L s) (R s) F lo hi 0 g) :
    ∀ d t n (im : Nat → Int32), t + d = 21 → d < n → qa_IM im g 0 → (qa_Ex (c s) (K s) (L s) (R s) F lo hi 0 g t → ∀ im2, post 1 (fr, fv, fl, fm, f0, f1, ac, ak, al, ar, lk, im2, le, gr)) → (¬ qa_Ex (c s) (K s) (L s) (R s) F lo hi 0 g t → ∀ im2, qa_IM im2 g 0 → post 0 (fr, fv, fl, fm, f0, f1, ac, ak, al, ar, lk, im2, le, gr)) →
      wX_hasImage_2 post (nI s) n (nI t) fr fv fl fm f0 f1 ac ak al ar lk im le gr := by
  intro d
  induction d with
  | zero =>
    intro t n im ht hn hI p1 p0
    obtain ⟨n, rfl⟩ : ∃ m, n = m + 1 := ⟨n - 1, by omega⟩
    have hx : ¬ qa_Ex (c s) (K s) (L s) (R s) F lo hi 0 g t := qa_Ex_no (by decide) (by have := (LH 0 (by decide)).2.2.1; omega)
    exact br_t (nI_le (a := 21) (by omega) (by omega)) (p0 hx im hI)
  | succ d ih =>
    intro t n im ht hn hI p1 p0
    obtain ⟨n, rfl⟩ : ∃ m, n = m + 1 := ⟨n - 1, by omega⟩
    have nxt : ∀ im2, qa_IM im2 g 0 → (qa_Ex (c s) (K s) (L s) (R s) F lo hi 0 g t → qa_Ex (c s) (K s) (L s) (R s) F lo hi 0 g (t + 1)) → wX_hasImage_2 post (nI s) n (nI (t + 1)) fr fv fl fm f0 f1 ac ak al ar lk im2 le gr := fun im2 hI2 hE =>
      ih (t + 1) n im2 (by omega) (by omega) hI2 (fun z => p1 (qa_Ex_s z)) (fun z => p0 (fun q => z (hE q)))
    refine br_f (nI_ge (b := 21) (by omega) (by decide)) ?_
    refine qx_canGo A hs h8 hb H LH (m := 0) (t := t) (by decide) hI Hok (by omega) (fun im2 hI2 hok => br_f qn_10 ?_) (fun im2 hI2 hno => br_t rfl (nm_r (nI_1 t) (nxt im2 hI2 (qa_Ex_no1 (by decide) hno))))
    refine ⟨22, qx_h1 A hs h8 hb H LH hok 21 0 22 im2 (by omega) (by omega) hI2 (fun z => p1 (qa_Ex_in z)) (fun z im3 hI3 => nxt im3 (fun v hv => ?_) (fun q => Classical.byContradiction (fun w => z (qa_Ex_c q w))))⟩
    have := hI3 v (by omega)
    rw [qa_set_n (by omega)] at this
    exact this
theorem qx_hasImage {post : Int32 → St2 → Prop} {s : Nat} {F : Nat → Nat → Nat → Prop} {lo hi : Nat → Nat} (A : qa_A 8 c K L R ac ak al ar) (hs : s < 6) (h8 : c s ≤ 8) (hb : ∀ j, j < c s → K s j < 3 ∧ L s j < 5 ∧ R s j < 5) (H : qa_LK lk F) (LH : qa_LH le gr lo hi)
    (p1 : qa_Im (c s) (K s) (L s) (R s) F lo hi → ∀ im2, post 1 (fr, fv, fl, fm, f0, f1, ac, ak, al, ar, lk, im2, le, gr)) (p0 : ¬ qa_Im (c s) (K s) (L s) (R s) F lo hi → ∀ im2, post 0 (fr, fv, fl, fm, f0, f1, ac, ak, al, ar, lk, im2, le, gr)) : wpX_hasImage post (fr, fv, fl, fm, f0, f1, ac, ak, al, ar, lk, im, le, gr) (nI s) := by
  have hL : ∀ j, j < c s → L s j < 5 ∧ R s j < 5 := fun j hj => (hb j hj).2
  refine ⟨22, qx_h0 A hs h8 hb H LH (g := fun _ => 0) qa_Ok_0 21 0 22 im (by omega) (by omega) (fun v hv => absurd hv (Nat.not_lt_zero v)) (fun z => p1 ((qa_Im_Ex hL (fun _ => 0)).mpr z)) (fun z im2 _ => p0 (fun q => z ((qa_Im_Ex hL (fun _ => 0)).mp q)) im2)⟩
theorem qx_queryMatches {post : Int32 → St2 → Prop} {p q : Nat} {F : Nat → Nat → Nat → Prop} (A : qa_A 8 c K L R ac ak al ar) (h8 : c 0 ≤ 8) (hb : ∀ j, j < c 0 → K 0 j < 3 ∧ L 0 j < 5 ∧ R 0 j < 5) (H : qa_LK lk F) (hp : p < 21) (hq : q < 21)
    (p1 : qa_Mt (c 0) (K 0) (L 0) (R 0) F 21 p q → ∀ im2 le2 gr2, post 1 (fr, fv, fl, fm, f0, f1, ac, ak, al, ar, lk, im2, le2, gr2)) (p0 : ¬ qa_Mt (c 0) (K 0) (L 0) (R 0) F 21 p q → ∀ im2 le2 gr2, post 0 (fr, fv, fl, fm, f0, f1, ac, ak, al, ar, lk, im2, le2, gr2)) :
    wpX_queryMatches post (fr, fv, fl, fm, f0, f1, ac, ak, al, ar, lk, im, le, gr) (nI p) (nI q) := by
  have hh := qa_Im_head (m := c 0) (K := K 0) (L := L 0) (R := R 0) (F := F) (p := p) (q := q) (h0 := 0) (h1 := 1) (T := 20) (by decide) (by decide) (by omega) (by omega) (fun z => absurd z (by decide))
  unfold wpX_queryMatches
  refine qx_letRoam (T := 20) (by decide) (fun le2 gr2 LH => ?_)
  refine qx_pin (v := 0) (t := p) (lo' := fun w => if w = 0 then p else 0) (hi' := fun w => if w = 0 then p else 20) (by decide) hp LH (fun w => rfl) (fun w => rfl) (fun le3 gr3 LH3 => ?_)
  refine qx_pin (v := 1) (t := q) (lo' := qa_lo p q 0 1) (hi' := qa_hi p q 0 1 20) (by decide) hq LH3 (fun w => rfl) (fun w => rfl) (fun le4 gr4 LH4 => ?_)
  exact qx_hasImage (s := 0) A (by decide) h8 hb H LH4 (fun z im2 => ⟨rfl, p1 (hh.mp z) im2 le4 gr4⟩) (fun z im2 => ⟨rfl, p0 (fun w => z (hh.mpr w)) im2 le4 gr4⟩)
theorem qx_cg18 {post : Int32 → St2 → Prop} {a b T : Nat} {F : Nat → Nat → Nat → Prop} (A : qa_A 8 c K L R ac ak al ar) (h8 : c 1 ≤ 8) (hb : ∀ j, j < c 1 → K 1 j < 3 ∧ L 1 j < 5 ∧ R 1 j < 5) (H : qa_LK lk F) (hT : T < 21) (ha : a ≤ T) (hb' : b ≤ T) (hh0 : h0 < 5) (hh1 : h1 < 5) (hab : h0 = h1 → a = b)
    (p1 : qa_Cd h0 h1 a b (c 1) (K 1) (L 1) (R 1) F (T + 1) → ∀ im2 le2 gr2, post 1 (fr, fv, fl, fm, nI h0, nI h1, ac, ak, al, ar, lk, im2, le2, gr2)) (p0 : ¬ qa_Cd h0 h1 a b (c 1) (K 1) (L 1) (R 1) F (T + 1) → ∀ im2 le2 gr2, post 0 (fr, fv, fl, fm, nI h0, nI h1, ac, ak, al, ar, lk, im2, le2, gr2)) :
    wX_candidateGives_18 post (nI a) (nI b) (nI (T + 1)) fr fv fl fm (nI h0) (nI h1) ac ak al ar lk im le gr := by
  have hh := qa_Im_head (m := c 1) (K := K 1) (L := L 1) (R := R 1) (F := F) (p := a) (q := b) (h0 := h0) (h1 := h1) (T := T) hh0 hh1 ha hb' hab
  unfold wX_candidateGives_18
  refine qx_letRoam (T := T) hT (fun le2 gr2 LH => ?_)
  refine qx_pin (v := h0) (t := a) (lo' := fun w => if w = h0 then a else 0) (hi' := fun w => if w = h0 then a else T) hh0 (by omega) LH (fun w => rfl) (fun w => rfl) (fun le3 gr3 LH3 => ?_)
  refine qx_pin (v := h1) (t := b) (lo' := qa_lo a b h0 h1) (hi' := qa_hi a b h0 h1 T) hh1 (by omega) LH3 (fun w => rfl) (fun w => rfl) (fun le4 gr4 LH4 => ?_)
  exact qx_hasImage (s := 1) A (by decide) h8 hb H LH4 (fun z im2 => ⟨rfl, p1 (hh.mp z) im2 le4 gr4⟩) (fun z im2 => ⟨rfl, p0 (fun w => z (hh.mpr w)) im2 le4 gr4⟩)
theorem qx_candidateGives {post : Int32 → St2 → Prop} {a b T : Nat} {F : Nat → Nat → Nat → Prop} (A : qa_A 8 c K L R ac ak al ar) (h8 : c 1 ≤ 8) (hb : ∀ j, j < c 1 → K 1 j < 3 ∧ L 1 j < 5 ∧ R 1 j < 5) (H : qa_LK lk F) (hT : T < 21) (ha : a ≤ T) (hb' : b ≤ T) (hh0 : h0 < 5) (hh1 : h1 < 5)
    (p1 : qa_Cd h0 h1 a b (c 1) (K 1) (L 1) (R 1) F (T + 1) → ∀ im2 le2 gr2, post 1 (fr, fv, fl, fm, nI h0, nI h1, ac, ak, al, ar, lk, im2, le2, gr2)) (p0 : ¬ qa_Cd h0 h1 a b (c 1) (K 1) (L 1) (R 1) F (T + 1) → ∀ im2 le2 gr2, post 0 (fr, fv, fl, fm, nI h0, nI h1, ac, ak, al, ar, lk, im2, le2, gr2)) :
    wpX_candidateGives post (fr, fv, fl, fm, nI h0, nI h1, ac, ak, al, ar, lk, im, le, gr) (nI a) (nI b) (nI (T + 1)) := by
  refine pk_eq h0 h1 (fun e => pk_eq a b (fun e' => ?_) (fun e' => ?_)) (fun e => ?_)
  · exact qx_cg18 A h8 hb H hT ha hb' hh0 hh1 (fun _ => e') p1 p0
  · refine p0 ?_ im le gr
    rintro ⟨g, z1, z2, _⟩
    rw [e, z2] at z1
    exact e' z1.symm
  · exact qx_cg18 A h8 hb H hT ha hb' hh0 hh1 (fun z => absurd z e) p1 p0
end
end
section
/-! the component's questions -/
section
variable {rl vw vl rm h0 h1 : Nat} {c : Nat → Nat} {K L R : Nat → Nat → Nat} {fr fv fl fm f0 f1 : Int32} {ac ak al ar lk im le gr : Nat → Int32}
theorem qa_W_8 (W : qa_W rl vw vl rm h0 h1 c K L R) : ∀ s, s < 6 → c s ≤ 8 := fun _ hs => qa_W_c W hs
theorem qa_W_v (W : qa_W rl vw vl rm h0 h1 c K L R) : ∀ v, v < 3 → ∀ j, j < c (3 + v) → K (3 + v) j < 3 ∧ L (3 + v) j < 4 ∧ R (3 + v) j < 4 := by
  intro v hv j hj
  obtain ⟨a, b, d⟩ := (W.2.2.2.2.2.2 (3 + v) (by omega)).2 j hj
  have e1 := qa_kd_le (s := 3 + v) W.1.2 W.2.1.2
  rw [qa_tm_3 (by omega)] at b d
  omega
theorem qx_certain {post : Int32 → St2 → Prop} {mask : Int32} {a b : Nat} (W : qa_W rl vw vl rm h0 h1 c K L R) (A : qa_A 8 c K L R ac ak al ar) (ha : a < vl) (hb : b < vl)
    (p1 : qa_Mt (c 0) (K 0) (L 0) (R 0) (qa_FX c K L R (qa_on mask (K 2)) (K 2) (L 2) (R 2) (fun i => 5 + 2 * i) (c 2)) 21 a b → ∀ lk2 im2 le2 gr2, post 1 (nI rl, nI vw, nI vl, nI rm, nI h0, nI h1, ac, ak, al, ar, lk2, im2, le2, gr2))
    (p0 : ¬ qa_Mt (c 0) (K 0) (L 0) (R 0) (qa_FX c K L R (qa_on mask (K 2)) (K 2) (L 2) (R 2) (fun i => 5 + 2 * i) (c 2)) 21 a b → ∀ lk2 im2 le2 gr2, post 0 (nI rl, nI vw, nI vl, nI rm, nI h0, nI h1, ac, ak, al, ar, lk2, im2, le2, gr2)) :
    wpX_certain post (nI rl, nI vw, nI vl, nI rm, nI h0, nI h1, ac, ak, al, ar, lk, im, le, gr) mask (nI a) (nI b) := by
  have hl := W.2.2.1.2
  unfold wpX_certain
  refine qx_below (n := vl) (by omega) (fun _ _ _ => br_f qn_10 ?_) (fun z => absurd ⟨a, ha, rfl⟩ z)
  refine qx_below (n := vl) (by omega) (fun _ _ _ => br_f qn_10 ?_) (fun z => absurd ⟨b, hb, rfl⟩ z)
  refine qx_unlinkAll (fun lk1 hz => ?_)
  refine qx_linkFactsOfSection (s := 2) A (by decide) (qa_W_8 W) (qa_W_b W (by decide)) (qa_W_v W) hz (fun lk2 H => ?_)
  exact qx_queryMatches A (qa_W_8 W 0 (by decide)) (qa_W_b W (by decide)) H (by omega) (by omega) (fun z im2 le2 gr2 => br_f qn_10 (p1 z lk2 im2 le2 gr2)) (fun z im2 le2 gr2 => br_t rfl (p0 z lk2 im2 le2 gr2))
theorem qx_sound {post : Int32 → St2 → Prop} (W : qa_W rl vw vl rm h0 h1 c K L R) (A : qa_A 8 c K L R ac ak al ar)
    (p1 : qa_Mt (c 0) (K 0) (L 0) (R 0) (qa_FX c K L R (qa_on (-1) (K 1)) (K 1) (L 1) (R 1) (fun i => 5 + 2 * i) (c 1)) 21 h0 h1 → ∀ lk2 im2 le2 gr2, post 1 (nI rl, nI vw, nI vl, nI rm, nI h0, nI h1, ac, ak, al, ar, lk2, im2, le2, gr2))
    (p0 : ¬ qa_Mt (c 0) (K 0) (L 0) (R 0) (qa_FX c K L R (qa_on (-1) (K 1)) (K 1) (L 1) (R 1) (fun i => 5 + 2 * i) (c 1)) 21 h0 h1 → ∀ lk2 im2 le2 gr2, post 0 (nI rl, nI vw, nI vl, nI rm, nI h0, nI h1, ac, ak, al, ar, lk2, im2, le2, gr2)) :
    wpX_sound post (nI rl, nI vw, nI vl, nI rm, nI h0, nI h1, ac, ak, al, ar, lk, im, le, gr) := by
  have hh0 := W.2.2.2.2.1
  have hh1 := W.2.2.2.2.2.1
  unfold wpX_sound
  refine qx_unlinkAll (fun lk1 hz => ?_)
  refine qx_linkFactsOfSection (s := 1) A (by decide) (qa_W_8 W) (qa_W_b W (by decide)) (qa_W_v W) hz (fun lk2 H => ?_)
  exact qx_queryMatches A (qa_W_8 W 0 (by decide)) (qa_W_b W (by decide)) H (by omega) (by omega) (fun z im2 le2 gr2 => br_f qn_10 (p1 z lk2 im2 le2 gr2)) (fun z im2 le2 gr2 => br_t rfl (p0 z lk2 im2 le2 gr2))
theorem qx_candidateHas {post : Int32 → St2 → Prop} {a b : Nat} (W : qa_W rl vw vl rm h0 h1 c K L R) (A : qa_A 8 c K L R ac ak al ar) (ha : a < vl) (hb : b < vl)
    (p1 : qa_Cd h0 h1 a b (c 1) (K 1) (L 1) (R 1) (qa_In (c 2) (K 2) (L 2) (R 2)) vl → ∀ lk2 im2 le2 gr2, post 1 (nI rl, nI vw, nI vl, nI rm, nI h0, nI h1, ac, ak, al, ar, lk2, im2, le2, gr2))
    (p0 : ¬ qa_Cd h0 h1 a b (c 1) (K 1) (L 1) (R 1) (qa_In (c 2) (K 2) (L 2) (R 2)) vl → ∀ lk2 im2 le2 gr2, post 0 (nI rl, nI vw, nI vl, nI rm, nI h0, nI h1, ac, ak, al, ar, lk2, im2, le2, gr2)) :
    wpX_candidateHas post (nI rl, nI vw, nI vl, nI rm, nI h0, nI h1, ac, ak, al, ar, lk, im, le, gr) (nI a) (nI b) := by
  have hl := W.2.2.1.2
  obtain ⟨T, rfl⟩ : ∃ T, vl = T + 1 := ⟨vl - 1, by omega⟩
  unfold wpX_candidateHas
  refine qx_below (n := T + 1) (by omega) (fun _ _ _ => br_f qn_10 ?_) (fun z => absurd ⟨a, ha, rfl⟩ z)
  refine qx_below (n := T + 1) (by omega) (fun _ _ _ => br_f qn_10 ?_) (fun z => absurd ⟨b, hb, rfl⟩ z)
  refine qx_unlinkAll (fun lk1 hz => ?_)
  refine qx_linkRows A (qa_W_8 W 2 (by decide)) (qa_W_b W (by decide)) hz (fun lk2 H => ?_)
  exact qx_candidateGives A (qa_W_8 W 1 (by decide)) (qa_W_b W (by decide)) H (by omega) (by omega) (by omega) W.2.2.2.2.1 W.2.2.2.2.2.1 (fun z im2 le2 gr2 => br_f qn_10 (p1 z lk2 im2 le2 gr2)) (fun z im2 le2 gr2 => br_t rfl (p0 z lk2 im2 le2 gr2))
end
end
section
/-! rewriting by rows -/
theorem qp_map {n : Nat} {K L R : Nat → Nat} {F F' : Nat → Nat → Nat → Prop} {T T' p q p' q' : Nat} (e : Nat → Nat) (hT : ∀ t, t < T → e t < T') (hp : e p = p') (hq : e q = q')
    (hF : ∀ k x y, F k x y → F' k (e x) (e y)) (h : qa_Mt n K L R F T p q) : qa_Mt n K L R F' T' p' q' := by
  obtain ⟨g, h0, h1, h2, h3⟩ := h
  exact ⟨fun v => e (g v), by show e (g 0) = p'; rw [h0, hp], by show e (g 1) = q'; rw [h1, hq], fun v hv => hT _ (h2 v hv), fun j hj => hF _ _ _ (h3 j hj)⟩
def qp_e (g ρ : Nat → Nat) (t : Nat) : Nat := if t < 5 then g t else 5 + 2 * ρ ((t - 5) / 2) + (t - 5) % 2
theorem qp_e_lo {g ρ : Nat → Nat} {t : Nat} (h : t < 5) : qp_e g ρ t = g t := by rw [qp_e, if_pos h]
theorem qp_e_hi {g ρ : Nat → Nat} {i s : Nat} (hs : s < 2) : qp_e g ρ (5 + 2 * i + s) = 5 + 2 * ρ i + s := by
  rw [qp_e, if_neg (by omega), show (5 + 2 * i + s - 5) / 2 = i by omega, show (5 + 2 * i + s - 5) % 2 = s by omega]
theorem qp_e_tf {g ρ : Nat → Nat} {p q i x : Nat} (hp : p < 5) (hq : q < 5) (hx : x < 4) : qp_e g ρ (qa_tf p q (5 + 2 * i) x) = qa_tf (g p) (g q) (5 + 2 * ρ i) x := by
  by_cases h0 : x = 0
  · subst h0; rw [qa_tf0, qa_tf0, qp_e_lo hp]
  · by_cases h1 : x = 1
    · subst h1; rw [qa_tf1, qa_tf1, qp_e_lo hq]
    · rw [qa_tf2 (by omega), qa_tf2 (by omega), qp_e_hi (by omega)]
theorem qp_chs {m : Nat} {P : Nat → Nat → Prop} (h : ∀ i, i < m → ∃ j, P i j) : ∃ ρ : Nat → Nat, ∀ i, i < m → P i (ρ i) := by
  refine ⟨fun i => @dite Nat (i < m) (Nat.decLt i m) (fun z => (h i z).choose) (fun _ => 0), fun i hi => ?_⟩
  have e : (@dite Nat (i < m) (Nat.decLt i m) (fun z => (h i z).choose) (fun _ => 0)) = (h i hi).choose := dif_pos hi
  show P i (@dite Nat (i < m) (Nat.decLt i m) (fun z => (h i z).choose) (fun _ => 0))
  rw [e]
  exact (h i hi).choose_spec
/-- owners whose triples, carried by g, stand among other owners': their matches go over -/
theorem qp_comp {c : Nat → Nat} {K L R : Nat → Nat → Nat} {n : Nat} {Kq Lq Rq : Nat → Nat} {m1 m2 : Nat} {V1 P1 Q1 V2 P2 Q2 : Nat → Nat} {on1 on2 : Nat → Bool} {g : Nat → Nat} {x0 y0 a b : Nat}
    (hm : m2 ≤ 8) (hL : ∀ i, i < m1 → ∀ j, j < c (3 + V1 i) → L (3 + V1 i) j < 4 ∧ R (3 + V1 i) j < 4) (hP : ∀ i, i < m1 → P1 i < 5 ∧ Q1 i < 5) (hg : ∀ v, v < 5 → g v < 5)
    (hr : ∀ i, i < m1 → on1 i = true → ∃ i', i' < m2 ∧ on2 i' = true ∧ V2 i' = V1 i ∧ P2 i' = g (P1 i) ∧ Q2 i' = g (Q1 i)) (hx0 : x0 < 5) (hy0 : y0 < 5) (ha : g x0 = a) (hb : g y0 = b)
    (h : qa_Mt n Kq Lq Rq (qa_FX c K L R on1 V1 P1 Q1 (fun i => 5 + 2 * i) m1) 21 x0 y0) :
    qa_Mt n Kq Lq Rq (qa_FX c K L R on2 V2 P2 Q2 (fun i => 5 + 2 * i) m2) 21 a b := by
  have hr2 : ∀ i, i < m1 + 8 → ∃ j, j < 8 ∧ (i < m1 → on1 i = true → j < m2 ∧ on2 j = true ∧ V2 j = V1 i ∧ P2 j = g (P1 i) ∧ Q2 j = g (Q1 i)) := by
    intro i _
    rcases Classical.em (i < m1 ∧ on1 i = true) with ⟨h1, h2⟩ | z
    · obtain ⟨j, q⟩ := hr i h1 h2
      exact ⟨j, by omega, fun _ _ => q⟩
    · exact ⟨0, by decide, fun h1 h2 => absurd ⟨h1, h2⟩ z⟩
  obtain ⟨ρ, hρ⟩ := qp_chs hr2
  refine qp_map (qp_e g ρ) (fun t ht => ?_) ((qp_e_lo hx0).trans ha) ((qp_e_lo hy0).trans hb) (fun k x y hf => ?_) h
  · by_cases z : t < 5
    · rw [qp_e_lo z]; have := hg t z; omega
    · rw [qp_e, if_neg z]; have := (hρ ((t - 5) / 2) (by omega)).1; omega
  · obtain ⟨i, hi, ho, j, hj, hk, rfl, rfl⟩ := hf
    obtain ⟨r1, r2, r3, r4, r5⟩ := (hρ i (by omega)).2 hi ho
    obtain ⟨l1, l2⟩ := hL i hi j hj
    refine ⟨ρ i, r1, r2, j, ?_, ?_, ?_, ?_⟩
    · rw [r3]; exact hj
    · rw [r3]; exact hk
    · rw [r3, r4, r5]; exact (qp_e_tf (hP i hi).1 (hP i hi).2 l1).symm
    · rw [r3, r4, r5]; exact (qp_e_tf (hP i hi).1 (hP i hi).2 l2).symm
/-- a match needs an owner for each atom of the query, and no others -/
theorem qp_extract {c : Nat → Nat} {K L R : Nat → Nat → Nat} {n : Nat} {Kq Lq Rq : Nat → Nat} {m2 : Nat} {V2 P2 Q2 B : Nat → Nat} {on : Nat → Bool} {T a b : Nat}
    (h : qa_Mt n Kq Lq Rq (qa_FX c K L R on V2 P2 Q2 B m2) T a b) :
    ∃ ow : Nat → Nat, (∀ j, j < n → ow j < m2 ∧ on (ow j) = true) ∧ ∀ on3 : Nat → Bool, (∀ j, j < n → on3 (ow j) = true) → qa_Mt n Kq Lq Rq (qa_FX c K L R on3 V2 P2 Q2 B m2) T a b := by
  obtain ⟨g, h0, h1, h2, h3⟩ := h
  obtain ⟨ow, hw⟩ := qp_chs (P := fun j i => i < m2 ∧ on i = true ∧ qa_G (c (3 + V2 i)) (K (3 + V2 i)) (L (3 + V2 i)) (R (3 + V2 i)) (P2 i) (Q2 i) (B i) (Kq j) (g (Lq j)) (g (Rq j))) h3
  exact ⟨ow, fun j hj => ⟨(hw j hj).1, (hw j hj).2.1⟩, fun on3 h => ⟨g, h0, h1, h2, fun j hj => ⟨ow j, (hw j hj).1, h j hj, (hw j hj).2.2⟩⟩⟩
/-- a query is its set of atoms -/
theorem qp_Mt_set {m m' : Nat} {K L R K' L' R' : Nat → Nat} {F : Nat → Nat → Nat → Prop} {T p q : Nat} (h : ∀ k x y, qa_In m' K' L' R' k x y → qa_In m K L R k x y) (H : qa_Mt m K L R F T p q) : qa_Mt m' K' L' R' F T p q := by
  obtain ⟨g, h0, h1, h2, h3⟩ := H
  refine ⟨g, h0, h1, h2, fun j hj => ?_⟩
  obtain ⟨i, hi, e1, e2, e3⟩ := h _ _ _ ⟨j, hj, rfl, rfl, rfl⟩
  have := h3 i hi
  rw [e1, e2, e3] at this
  exact this
/-! numbers of the law -/
theorem qp_pick {post : Int32 → Prop} {L k n : Nat} {xs : Nat → Int32} (hL : L ≤ 260) (hk : k < 2 ^ 20) (hn : 0 < n) (hn2 : n < 2 ^ 31) (hp : ∀ r, r < n → post (nI r)) : wpL_pick post L xs () (nI k) (nI n) := by
  have key : ∀ z : Int32, (¬ (3 : Int64) = 0 ∧ (¬ (nI n).toInt64 = 0 ∧ (post ((((z.toInt64 &&& 2147483647) + (((nI k).toInt64 * (nI k).toInt64) / 3)) - ((z.toInt64 &&& 2147483647) + (((nI k).toInt64 * (nI k).toInt64) / 3)) / (nI n).toInt64 * (nI n).toInt64).toInt32)))) := by
    intro z
    obtain ⟨m, hm, em⟩ := wb_of z.toInt64
    have hkk : k * k < 2 ^ 40 := by
      have : k * k ≤ 2 ^ 20 * 2 ^ 20 := Nat.mul_le_mul (by omega) (by omega)
      have h2 : k * k < 2 ^ 20 * 2 ^ 20 ∨ k * k = 2 ^ 20 * 2 ^ 20 := by omega
      rcases h2 with h2 | h2
      · exact h2
      · have h3 : k * k ≤ k * 2 ^ 20 := Nat.mul_le_mul_left k (by omega)
        omega
    have e1 : z.toInt64 &&& 2147483647 = lN (m % 2 ^ 31) := by
      rw [em]
      exact wb_mask (k := 31) hm (by decide)
    have e2 : (nI k).toInt64 * (nI k).toInt64 / 3 = lN (k * k / 3) := by
      rw [nI_l (by omega), lN_mul]
      exact pk_lDiv (b := 3) (by omega) (by decide) (by decide)
    have hlt : m % 2 ^ 31 + k * k / 3 < 2 ^ 63 := by omega
    rw [e1, e2, lN_add, nI_l hn2, pk_lRem hlt hn (by omega), lN_i]
    refine ⟨by decide, fun e => ?_, hp _ (Nat.mod_lt _ hn)⟩
    have := (pk_lEQ (a := n) (b := 0) (by omega) (by decide)).mp e
    omega
  unfold wpL_pick
  exact pk_le L k (fun _ => key 0) (fun h => ⟨vp_in_nI h (by omega), key _⟩)
theorem qp_at {post : Int32 → Prop} {P i : Nat} (hP : P < 2 ^ 64) (hi : i < 8) (hp : post (nI (P / 2 ^ (8 * i) % 256))) : wpL_at post () (lN P) (nI i) := by
  unfold wpL_at
  rw [show (8 : Int32) * nI i = nI (8 * i) from pk_mul 8 i, wb_shr hP (by omega)]
  have e : lN (P / 2 ^ (8 * i)) &&& 255 = lN (P / 2 ^ (8 * i) % 2 ^ 8) := wb_mask (k := 8) (Nat.lt_of_le_of_lt (Nat.div_le_self _ _) hP) (by decide)
  rw [e, lN_i]
  exact hp
theorem qp_at_any {post : Int32 → Prop} {P : Int64} {i : Int32} (hp : ∀ z, post z) : wpL_at post () P i := hp _
def qp_pk (cs : Nat → Nat) : Nat → Nat
  | 0 => 0
  | n + 1 => qp_pk cs n + cs n * 256 ^ n
theorem qp_pk_lt {cs : Nat → Nat} : ∀ n, (∀ i, i < n → cs i < 256) → qp_pk cs n < 256 ^ n := by
  intro n
  induction n with
  | zero => intro _; exact Nat.one_pos
  | succ n ih =>
    intro h
    have a := ih (fun i hi => h i (by omega))
    have b : cs n * 256 ^ n ≤ 255 * 256 ^ n := Nat.mul_le_mul_right _ (by have := h n (by omega); omega)
    rw [qp_pk, Nat.pow_succ]
    omega
theorem qp_pk_cg {cs cs' : Nat → Nat} : ∀ n, (∀ i, i < n → cs i = cs' i) → qp_pk cs n = qp_pk cs' n := by
  intro n
  induction n with
  | zero => intro _; rfl
  | succ n ih => intro h; rw [qp_pk, qp_pk, ih (fun i hi => h i (by omega)), h n (by omega)]
theorem qp_pk_at {cs : Nat → Nat} : ∀ n, (∀ i, i < n → cs i < 256) → ∀ i, i < n → qp_pk cs n / 256 ^ i % 256 = cs i := by
  intro n
  induction n with
  | zero => intro _ i hi; omega
  | succ n ih =>
    intro h i hi
    rw [qp_pk]
    by_cases e : i = n
    · subst e
      rw [Nat.add_mul_div_right _ _ (Nat.pow_pos (by decide)), Nat.div_eq_of_lt (qp_pk_lt i (fun j hj => h j (by omega))), Nat.zero_add]
      exact Nat.mod_eq_of_lt (h i (by omega))
    · obtain ⟨d, rfl⟩ : ∃ d, n = i + (d + 1) := ⟨n - i - 1, by omega⟩
      have e2 : cs (i + (d + 1)) * 256 ^ (i + (d + 1)) = cs (i + (d + 1)) * 256 ^ d * 256 * 256 ^ i := by
        rw [Nat.pow_add, Nat.pow_succ, Nat.mul_assoc, Nat.mul_assoc]
        congr 1
        rw [Nat.mul_comm (256 ^ i)]
        exact Nat.mul_assoc _ _ _
      rw [e2, Nat.add_mul_div_right _ _ (Nat.pow_pos (by decide)), Nat.add_mul_mod_self_right]
      exact ih (fun j hj => h j (by omega)) i (by omega)
theorem qp_pk_or {cs : Nat → Nat} {n code : Nat} (hn : n < 7) (h : ∀ i, i < n → cs i < 256) (hc : code < 256) :
    lN (qp_pk cs n) ||| ((nI code).toInt64 <<< ((8 * nI n).toInt64 &&& 63)) = lN (qp_pk (qa_set cs n code) (n + 1)) := by
  have e1 : 2 ^ (8 * n) = 256 ^ n := Nat.pow_mul 2 8 n
  have hlt := qp_pk_lt n h
  have hp6 : 256 ^ n ≤ 256 ^ 6 := Nat.pow_le_pow_right (by decide) (by omega)
  have hb : code * 256 ^ n ≤ 255 * 256 ^ n := Nat.mul_le_mul_right _ (by omega)
  have h6 : (256 : Nat) ^ 6 * 256 ≤ 2 ^ 56 := by decide
  rw [nI_l (by omega), show (8 : Int32) * nI n = nI (8 * n) from pk_mul 8 n, wb_shl code (by omega), e1, g_or' (k := 8 * n) e1 hlt (by omega)]
  rw [qp_pk, qa_set_s, qp_pk_cg (cs := qa_set cs n code) (cs' := cs) n (fun i hi => qa_set_n (by omega))]
theorem qp_pk_64 {cs : Nat → Nat} {n : Nat} (hn : n < 7) (h : ∀ i, i < n → cs i < 256) : qp_pk cs n < 2 ^ 64 := by
  have hlt := qp_pk_lt n h
  have hp6 : 256 ^ n ≤ 256 ^ 6 := Nat.pow_le_pow_right (by decide) (by omega)
  have h6 : (256 : Nat) ^ 6 ≤ 2 ^ 56 := by decide
  omega
theorem qp_at_pk {post : Int32 → Prop} {cs : Nat → Nat} {n i : Nat} (hn : n < 7) (h : ∀ i, i < n → cs i < 256) (hi : i < n) (hp : post (nI (cs i))) : wpL_at post () (lN (qp_pk cs n)) (nI i) := by
  refine qp_at (qp_pk_64 hn h) (by omega) ?_
  rw [show 2 ^ (8 * i) = 256 ^ i from Nat.pow_mul 2 8 i, qp_pk_at n h i hi]
  exact hp
/-! pigeons -/
theorem qp_php : ∀ (m n : Nat) (f : Nat → Nat), (∀ i, i < n → f i < m) → (∀ i j, i < n → j < n → f i = f j → i = j) → n ≤ m := by
  intro m
  induction m with
  | zero =>
    intro n f h _
    rcases Nat.eq_zero_or_pos n with e | e
    · omega
    · exact absurd (h 0 e) (Nat.not_lt_zero _)
  | succ m ih =>
    intro n f h hi
    rcases Classical.em (∃ i, i < n ∧ f i = m) with ⟨i0, h0, e0⟩ | z
    · have : n - 1 ≤ m := by
        refine ih (n - 1) (fun i => if i < i0 then f i else f (i + 1)) (fun i hin => ?_) (fun i j h1 h2 e => ?_)
        · show (if i < i0 then f i else f (i + 1)) < m
          split
          · rename_i q
            have a := h i (by omega)
            have b : f i ≠ m := fun w => by have := hi i i0 (by omega) h0 (w.trans e0.symm); omega
            omega
          · rename_i q
            have a := h (i + 1) (by omega)
            have b : f (i + 1) ≠ m := fun w => by have := hi (i + 1) i0 (by omega) h0 (w.trans e0.symm); omega
            omega
        · have e' : (if i < i0 then f i else f (i + 1)) = (if j < i0 then f j else f (j + 1)) := e
          split at e' <;> split at e'
          · exact hi i j (by omega) (by omega) e'
          · have := hi i (j + 1) (by omega) (by omega) e'; omega
          · have := hi (i + 1) j (by omega) (by omega) e'; omega
          · have := hi (i + 1) (j + 1) (by omega) (by omega) e'; omega
      omega
    · have : n ≤ m := ih n f (fun i hin => by
        have a := h i hin
        have b : f i ≠ m := fun w => z ⟨i, hin, w⟩
        omega) hi
      omega
/-! codes of triples to a base -/
theorem qp_dec_inj {b c c' : Nat} (h1 : c / (b * b) = c' / (b * b)) (h2 : c / b % b = c' / b % b) (h3 : c % b = c' % b) : c = c' := by
  have e : c / b = c' / b := by
    rw [← Nat.div_add_mod (c / b) b, ← Nat.div_add_mod (c' / b) b, Nat.div_div_eq_div_mul, Nat.div_div_eq_div_mul, h1, h2]
  rw [← Nat.div_add_mod c b, ← Nat.div_add_mod c' b, e, h3]
theorem qp_enc {b k x y M : Nat} (hk : k < M) (hx : x < b) (hy : y < b) : ∃ c, c < M * (b * b) ∧ c / (b * b) = k ∧ c / b % b = x ∧ c % b = y := by
  have hb : 0 < b := by omega
  have e1 : ((k * b + x) * b + y) / b = k * b + x := by
    rw [Nat.add_comm, Nat.add_mul_div_right _ _ hb, Nat.div_eq_of_lt hy, Nat.zero_add]
  have e2 : (k * b + x) / b = k := by
    rw [Nat.add_comm, Nat.add_mul_div_right _ _ hb, Nat.div_eq_of_lt hx, Nat.zero_add]
  have ek : ((k * b + x) * b + y) / (b * b) = k := by rw [← Nat.div_div_eq_div_mul, e1, e2]
  refine ⟨(k * b + x) * b + y, ?_, ek, ?_, ?_⟩
  · have : ((k * b + x) * b + y) / (b * b) < M := by rw [ek]; exact hk
    exact (Nat.div_lt_iff_lt_mul (Nat.mul_pos hb hb)).mp this
  · rw [e1, Nat.add_comm, Nat.add_mul_mod_self_right]
    exact Nat.mod_eq_of_lt hx
  · rw [Nat.add_comm, Nat.add_mul_mod_self_right]
    exact Nat.mod_eq_of_lt hy
/-- what has been read back of a section: nr codes below cc -/
def qp_RB (m : Nat) (K L R : Nat → Nat) (b cc nr : Nat) (cs : Nat → Nat) : Prop :=
  (∀ i, i < nr → cs i < cc) ∧ (∀ i j, i < j → j < nr → cs i < cs j) ∧ (∀ i, i < nr → qa_In m K L R (cs i / (b * b)) (cs i / b % b) (cs i % b)) ∧
  (∀ c', c' < cc → qa_In m K L R (c' / (b * b)) (c' / b % b) (c' % b) → ∃ i, i < nr ∧ cs i = c')
theorem qp_RB_0 {m : Nat} {K L R : Nat → Nat} {b : Nat} {cs : Nat → Nat} : qp_RB m K L R b 0 0 cs :=
  ⟨fun i hi => absurd hi (Nat.not_lt_zero i), fun i j _ hj => absurd hj (Nat.not_lt_zero j), fun i hi => absurd hi (Nat.not_lt_zero i), fun c' hc => absurd hc (Nat.not_lt_zero c')⟩
theorem qp_RB_n {m : Nat} {K L R : Nat → Nat} {b cc nr : Nat} {cs : Nat → Nat} (h : ¬ qa_In m K L R (cc / (b * b)) (cc / b % b) (cc % b)) (H : qp_RB m K L R b cc nr cs) : qp_RB m K L R b (cc + 1) nr cs := by
  obtain ⟨a1, a2, a3, a4⟩ := H
  refine ⟨fun i hi => Nat.lt_succ_of_lt (a1 i hi), a2, a3, fun c' hc hi => ?_⟩
  by_cases e : c' = cc
  · subst e; exact absurd hi h
  · exact a4 c' (by omega) hi
theorem qp_RB_y {m : Nat} {K L R : Nat → Nat} {b cc nr : Nat} {cs : Nat → Nat} (h : qa_In m K L R (cc / (b * b)) (cc / b % b) (cc % b)) (H : qp_RB m K L R b cc nr cs) : qp_RB m K L R b (cc + 1) (nr + 1) (qa_set cs nr cc) := by
  obtain ⟨a1, a2, a3, a4⟩ := H
  refine ⟨fun i hi => ?_, fun i j hij hj => ?_, fun i hi => ?_, fun c' hc hi => ?_⟩
  · by_cases e : i = nr
    · subst e; rw [qa_set_s]; omega
    · rw [qa_set_n e]; have := a1 i (by omega); omega
  · by_cases e : j = nr
    · subst e; rw [qa_set_s, qa_set_n (by omega)]; exact a1 i (by omega)
    · rw [qa_set_n e, qa_set_n (by omega)]; exact a2 i j hij (by omega)
  · by_cases e : i = nr
    · subst e; rw [qa_set_s]; exact h
    · rw [qa_set_n e]; exact a3 i (by omega)
  · by_cases e : c' = cc
    · subst e; exact ⟨nr, by omega, qa_set_s⟩
    · obtain ⟨i, h1, h2⟩ := a4 c' (by omega) hi
      exact ⟨i, by omega, by rw [qa_set_n (by omega)]; exact h2⟩
theorem qp_RB_inj {m : Nat} {K L R : Nat → Nat} {b cc nr : Nat} {cs : Nat → Nat} (H : qp_RB m K L R b cc nr cs) : ∀ i j, i < nr → j < nr → cs i = cs j → i = j := by
  intro i j hi hj e
  rcases Nat.lt_trichotomy i j with z | z | z
  · have := H.2.1 i j z hj; omega
  · exact z
  · have := H.2.1 j i z hi; omega
theorem qp_RB_le {m : Nat} {K L R : Nat → Nat} {b cc nr : Nat} {cs : Nat → Nat} (H : qp_RB m K L R b cc nr cs) : nr ≤ m := by
  obtain ⟨f, hf⟩ := qp_chs (P := fun i j => j < m ∧ K j = cs i / (b * b) ∧ L j = cs i / b % b ∧ R j = cs i % b) H.2.2.1
  refine qp_php m nr f (fun i hi => (hf i hi).1) (fun i j hi hj e => qp_RB_inj H i j hi hj ?_)
  have x := (hf i hi).2
  have y := (hf j hj).2
  rw [e] at x
  exact qp_dec_inj (x.1.symm.trans y.1) (x.2.1.symm.trans y.2.1) (x.2.2.symm.trans y.2.2)
/-- no code is passed over when the list is full -/
theorem qp_RB_full {m : Nat} {K L R : Nat → Nat} {b cc nr : Nat} {cs : Nat → Nat} (H : qp_RB m K L R b cc nr cs) (hf : m ≤ nr) : ¬ qa_In m K L R (cc / (b * b)) (cc / b % b) (cc % b) := by
  intro h
  have := qp_RB_le (qp_RB_y h H)
  omega
theorem qp_RB_end {m : Nat} {K L R : Nat → Nat} {b M nr : Nat} {cs : Nat → Nat} (hb : ∀ j, j < m → K j < M ∧ L j < b ∧ R j < b) (H : qp_RB m K L R b (M * (b * b)) nr cs) :
    ∀ k x y, qa_In m K L R k x y ↔ qa_In nr (fun i => cs i / (b * b)) (fun i => cs i / b % b) (fun i => cs i % b) k x y := by
  intro k x y
  constructor
  · intro h
    have h' := h
    obtain ⟨j, hj, rfl, rfl, rfl⟩ := h'
    obtain ⟨b1, b2, b3⟩ := hb j hj
    obtain ⟨code, c1, c2, c3, c4⟩ := qp_enc b1 b2 b3
    obtain ⟨i, hi, e⟩ := H.2.2.2 code c1 (by rw [c2, c3, c4]; exact h)
    exact ⟨i, hi, by show cs i / (b * b) = _; rw [e, c2], by show cs i / b % b = _; rw [e, c3], by show cs i % b = _; rw [e, c4]⟩
  · rintro ⟨i, hi, rfl, rfl, rfl⟩
    exact H.2.2.1 i hi
end
section
/-! sets as bits -/
theorem qp_bt {m v : Nat} (hv : v < 32) : bt (nI m) v = m.testBit v := by
  unfold bt
  show (BitVec.ofNat 32 m).getLsbD v = _
  rw [BitVec.getLsbD_ofNat]
  simp [hv]
theorem qp_sh : ∀ n, n < 8 → (1 : Int32) <<< (nI n &&& 31) = nI (2 ^ n) := by decide +kernel
theorem qp_orb : ∀ w, w < 8 → ∀ v, v < 3 → nI w ||| ((1 : Int32) <<< (nI v &&& 31)) = nI (w ||| 2 ^ v) := by decide +kernel
theorem qp_sub : ∀ w, w < 8 → ∀ m, m < 8 → (nI w &&& (nI m ^^^ (-1)) = 0 ↔ w &&& m = w) := by decide +kernel
theorem qp_tst {S i : Nat} (hi : i < 32) : ((nI S >>> (nI i &&& 31)) &&& 1 = 1) ↔ S.testBit i = true := by rw [qb_t1 _ hi, qp_bt hi]
theorem qp_andw {w m : Nat} (h : w &&& m = w) {v : Nat} (hv : w.testBit v = true) : m.testBit v = true := by
  rw [← h, Nat.testBit_and, Bool.and_eq_true] at hv
  exact hv.2
theorem qp_wand {w m : Nat} (h : ∀ v, w.testBit v = true → m.testBit v = true) : w &&& m = w := by
  apply Nat.eq_of_testBit_eq
  intro v
  rw [Nat.testBit_and]
  cases e : w.testBit v
  · rfl
  · rw [h v e]; rfl
def qp_Wi (good : Int32) (m : Nat) : Prop := ∃ w, w < 8 ∧ bt good w = true ∧ w &&& m = w
theorem qp_wi2 {post : Int32 → Prop} {good : Int32} {m : Nat} (hm : m < 8) :
    ∀ d w n, w + d = 8 → d < n → ((∃ x, w ≤ x ∧ x < 8 ∧ (bt good x = true ∧ x &&& m = x)) → post 1) → ((¬ ∃ x, w ≤ x ∧ x < 8 ∧ (bt good x = true ∧ x &&& m = x)) → post 0) → wL_within_2 post good (nI m) n (nI w) := by
  intro d
  induction d with
  | zero =>
    intro w n hw hn p1 p0
    obtain ⟨n, rfl⟩ : ∃ m, n = m + 1 := ⟨n - 1, by omega⟩
    exact br_t (nI_le (a := 8) (by omega) (by omega)) (p0 (qa_ex_no (by omega)))
  | succ d ih =>
    intro w n hw hn p1 p0
    obtain ⟨n, rfl⟩ : ∃ m, n = m + 1 := ⟨n - 1, by omega⟩
    have nxt : ¬ (bt good w = true ∧ w &&& m = w) → wL_within_2 post good (nI m) n (nI (w + 1)) := fun z =>
      ih (w + 1) n (by omega) (by omega) (fun q => p1 ((qa_ex_s (by omega)).mpr (Or.inr q))) (fun q => p0 (fun y => ((qa_ex_s (by omega)).mp y).elim z q))
    refine br_f (nI_ge (b := 8) (by omega) (by decide)) (ek_if (qb_t1 good (by omega)) (fun h => ek_if (qp_sub w (by omega) m hm) (fun h' => p1 ⟨w, Nat.le_refl _, by omega, h, h'⟩) (fun h' => nm_r (nI_1 w) (nxt (fun z => h' z.2)))) (fun h => nm_r (nI_1 w) (nxt (fun z => h z.1))))
theorem qp_within {post : Int32 → Prop} {good : Int32} {m : Nat} (hm : m < 8) (p1 : qp_Wi good m → post 1) (p0 : ¬ qp_Wi good m → post 0) : wpL_within post () good (nI m) := by
  refine ⟨9, qp_wi2 hm 8 0 9 (by omega) (by omega) (fun z => p1 ?_) (fun z => p0 (fun q => z ?_))⟩
  · obtain ⟨x, _, h⟩ := z
    exact ⟨x, h⟩
  · obtain ⟨x, h⟩ := q
    exact ⟨x, Nat.zero_le _, h⟩
def qp_pc (S : Nat) : Nat → Nat
  | 0 => 0
  | n + 1 => qp_pc S n + (if S.testBit n = true then 1 else 0)
theorem qp_pc_le (S : Nat) : ∀ n, qp_pc S n ≤ n := by
  intro n
  induction n with
  | zero => exact Nat.le_refl _
  | succ n ih => rw [qp_pc]; split <;> omega
theorem qp_pc_mono (S : Nat) : ∀ d n, qp_pc S n ≤ qp_pc S (n + d) := by
  intro d
  induction d with
  | zero => intro n; exact Nat.le_refl _
  | succ d ih => intro n; have := ih n; show _ ≤ qp_pc S (n + d) + _; omega
theorem qp_pc_t {S n : Nat} (h : S.testBit n = true) : qp_pc S (n + 1) = qp_pc S n + 1 := by rw [qp_pc, if_pos h]
theorem qp_pc_f {S n : Nat} (h : ¬ S.testBit n = true) : qp_pc S (n + 1) = qp_pc S n := by
  rw [qp_pc, if_neg h]
  rfl
theorem qp_bi4 {post : Int32 → Prop} {S : Nat} (hp : post (nI (qp_pc S 8))) : ∀ d i n, i + d = 8 → d < n → wL_bits_4 post (nI S) n (nI (qp_pc S i)) (nI i) := by
  intro d
  induction d with
  | zero =>
    intro i n hi hn
    obtain ⟨n, rfl⟩ : ∃ m, n = m + 1 := ⟨n - 1, by omega⟩
    have e : i = 8 := by omega
    subst e
    exact br_t (nI_le (a := 8) (by omega) (by omega)) hp
  | succ d ih =>
    intro i n hi hn
    obtain ⟨n, rfl⟩ : ∃ m, n = m + 1 := ⟨n - 1, by omega⟩
    refine br_f (nI_ge (b := 8) (by omega) (by decide)) (nm_r (e' := nI (qp_pc S (i + 1))) ?_ (nm_r (nI_1 i) (ih (i + 1) n (by omega) (by omega))))
    by_cases h : S.testBit i = true
    · rw [(qp_tst (by omega)).mpr h, qp_pc_t h, nI_1]
    · have z : (nI S >>> (nI i &&& 31)) &&& 1 = 0 := (qb_t0 _ (by omega)).mpr (by rw [qp_bt (by omega)]; exact h)
      rw [z, qp_pc_f h, Int32.add_zero]
theorem qp_bits {post : Int32 → Prop} {S : Nat} (hp : post (nI (qp_pc S 8))) : wpL_bits post () (nI S) := ⟨9, qp_bi4 hp 8 0 9 (by omega) (by omega)⟩
/-! the set of the owners of a query's atoms -/
def qp_bm (ow : Nat → Nat) : Nat → Nat
  | 0 => 0
  | t + 1 => qp_bm ow t ||| 2 ^ ow t
theorem qp_bm_t (ow : Nat → Nat) (v : Nat) : ∀ n, (qp_bm ow n).testBit v = true ↔ ∃ t, t < n ∧ ow t = v := by
  intro n
  induction n with
  | zero =>
    rw [qp_bm, Nat.zero_testBit]
    exact ⟨fun z => absurd z (by decide), fun ⟨t, h, _⟩ => absurd h (Nat.not_lt_zero t)⟩
  | succ n ih =>
    rw [qp_bm, Nat.testBit_or, Bool.or_eq_true, ih, Nat.testBit_two_pow, decide_eq_true_iff]
    constructor
    · rintro (⟨t, h, e⟩ | e)
      · exact ⟨t, by omega, e⟩
      · exact ⟨n, by omega, e⟩
    · rintro ⟨t, h, e⟩
      by_cases z : t = n
      · subst z; exact Or.inr e
      · exact Or.inl ⟨t, by omega, e⟩
theorem qp_bm_lt {ow : Nat → Nat} {nr : Nat} : ∀ n, (∀ t, t < n → ow t < nr) → qp_bm ow n < 2 ^ nr := by
  intro n
  induction n with
  | zero => intro _; exact Nat.two_pow_pos nr
  | succ n ih => intro h; exact Nat.or_lt_two_pow (ih (fun t ht => h t (by omega))) (Nat.pow_lt_pow_right (by decide) (h n (by omega)))
theorem qp_pc_or (S v : Nat) : ∀ n, qp_pc (S ||| 2 ^ v) n ≤ qp_pc S n + (if v < n then 1 else 0) := by
  intro n
  induction n with
  | zero => exact Nat.zero_le _
  | succ n ih =>
    have e : (S ||| 2 ^ v).testBit n = true ↔ (S.testBit n = true ∨ v = n) := by rw [Nat.testBit_or, Bool.or_eq_true, Nat.testBit_two_pow, decide_eq_true_iff]
    by_cases h : S.testBit n = true
    · rw [qp_pc_t h, qp_pc_t (e.mpr (Or.inl h))]
      by_cases z : v < n
      · rw [if_pos z] at ih; rw [if_pos (by omega)]; omega
      · rw [if_neg z] at ih; omega
    · by_cases z : v = n
      · rw [qp_pc_f h, qp_pc_t (e.mpr (Or.inr z)), if_pos (by omega)]
        rw [if_neg (by omega)] at ih
        omega
      · rw [qp_pc_f h, qp_pc_f (fun q => (e.mp q).elim h z)]
        by_cases z2 : v < n
        · rw [if_pos z2] at ih; rw [if_pos (by omega)]; omega
        · rw [if_neg z2] at ih; rw [if_neg (by omega)]; omega
theorem qp_pc_0 : ∀ n, qp_pc 0 n = 0 := by
  intro n
  induction n with
  | zero => rfl
  | succ n ih => rw [qp_pc_f (by rw [Nat.zero_testBit]; decide), ih]
theorem qp_pc_bm (ow : Nat → Nat) (k : Nat) : ∀ n, qp_pc (qp_bm ow n) k ≤ n := by
  intro n
  induction n with
  | zero => rw [qp_bm, qp_pc_0]; exact Nat.le_refl _
  | succ n ih =>
    have := qp_pc_or (qp_bm ow n) (ow n) k
    rw [qp_bm]
    split at this <;> omega
/-! the views of a set of rows -/
def qp_vm (V : Nat → Nat) (S : Nat) : Nat → Nat
  | 0 => 0
  | i + 1 => if S.testBit i = true then qp_vm V S i ||| 2 ^ V i else qp_vm V S i
theorem qp_vm_t {V : Nat → Nat} {S i : Nat} (h : S.testBit i = true) : qp_vm V S (i + 1) = qp_vm V S i ||| 2 ^ V i := by rw [qp_vm, if_pos h]
theorem qp_vm_f {V : Nat → Nat} {S i : Nat} (h : ¬ S.testBit i = true) : qp_vm V S (i + 1) = qp_vm V S i := by rw [qp_vm, if_neg h]
theorem qp_vm_b (V : Nat → Nat) (S v : Nat) : ∀ n, (qp_vm V S n).testBit v = true ↔ ∃ i, i < n ∧ S.testBit i = true ∧ V i = v := by
  intro n
  induction n with
  | zero =>
    rw [qp_vm, Nat.zero_testBit]
    exact ⟨fun z => absurd z (by decide), fun ⟨t, h, _⟩ => absurd h (Nat.not_lt_zero t)⟩
  | succ n ih =>
    by_cases hb : S.testBit n = true
    · rw [qp_vm_t hb, Nat.testBit_or, Bool.or_eq_true, ih, Nat.testBit_two_pow, decide_eq_true_iff]
      constructor
      · rintro (⟨t, h, e⟩ | e)
        · exact ⟨t, by omega, e⟩
        · exact ⟨n, by omega, hb, e⟩
      · rintro ⟨t, h, e1, e⟩
        by_cases z : t = n
        · subst z; exact Or.inr e
        · exact Or.inl ⟨t, by omega, e1, e⟩
    · rw [qp_vm_f hb, ih]
      constructor
      · rintro ⟨t, h, e⟩
        exact ⟨t, by omega, e⟩
      · rintro ⟨t, h, e1, e⟩
        by_cases z : t = n
        · subst z; exact absurd e1 hb
        · exact ⟨t, by omega, e1, e⟩
theorem qp_vm_lt {V : Nat → Nat} {S : Nat} {w : Nat} : ∀ n, (∀ i, i < n → V i < w) → qp_vm V S n < 2 ^ w := by
  intro n
  induction n with
  | zero => intro _; exact Nat.two_pow_pos w
  | succ n ih =>
    intro h
    rw [qp_vm]
    split
    · exact Nat.or_lt_two_pow (ih (fun t ht => h t (by omega))) (Nat.pow_lt_pow_right (by decide) (h n (by omega)))
    · exact ih (fun t ht => h t (by omega))
end
section
/-! the second half of a round: certain answers by sets of rows -/
theorem qn_01 : ¬ (0 : Int32) = 1 := by decide
/-- another state with the same sections but for the candidate's -/
def qp_AG (c : Nat → Nat) (K L R : Nat → Nat → Nat) (cc : Nat → Nat) (KK LL RR : Nat → Nat → Nat) : Prop := ∀ s, s ≠ 1 → cc s = c s ∧ KK s = K s ∧ LL s = L s ∧ RR s = R s
theorem qp_AG_r {c : Nat → Nat} {K L R : Nat → Nat → Nat} : qp_AG c K L R c K L R := fun _ _ => ⟨rfl, rfl, rfl, rfl⟩
def qp_CC (c : Nat → Nat) (K L R : Nat → Nat → Nat) (mask : Int32) (a b : Nat) : Prop := qa_Mt (c 0) (K 0) (L 0) (R 0) (qa_FX c K L R (qa_on mask (K 2)) (K 2) (L 2) (R 2) (fun i => 5 + 2 * i) (c 2)) 21 a b
section
variable {rl vw vl h0 h1 : Nat} {c : Nat → Nat} {K L R : Nat → Nat → Nat} {cc : Nat → Nat} {KK LL RR : Nat → Nat → Nat} {ac ak al ar lk im le gr : Nat → Int32}
theorem qp_AG_FX (G : qp_AG c K L R cc KK LL RR) (on : Nat → Bool) (V P Q B : Nat → Nat) (m : Nat) : qa_FX cc KK LL RR on V P Q B m = qa_FX c K L R on V P Q B m := by
  funext k x y
  apply propext
  unfold qa_FX
  constructor
  · rintro ⟨i, h1, h2, h3⟩
    obtain ⟨g1, g2, g3, g4⟩ := G (3 + V i) (by omega)
    rw [g1, g2, g3, g4] at h3
    exact ⟨i, h1, h2, h3⟩
  · rintro ⟨i, h1, h2, h3⟩
    obtain ⟨g1, g2, g3, g4⟩ := G (3 + V i) (by omega)
    rw [← g1, ← g2, ← g3, ← g4] at h3
    exact ⟨i, h1, h2, h3⟩
theorem qp_AG_CC (G : qp_AG c K L R cc KK LL RR) (mask : Int32) (a b : Nat) : qp_CC cc KK LL RR mask a b = qp_CC c K L R mask a b := by
  obtain ⟨g1, g2, g3, g4⟩ := G 0 (by decide)
  obtain ⟨e1, e2, e3, e4⟩ := G 2 (by decide)
  unfold qp_CC
  rw [qp_AG_FX G, g1, g2, g3, g4, e1, e2, e3, e4]
theorem qp_cert {post : Int32 → St2 → Prop} {mask : Int32} {a b : Nat} (W : qa_W rl vw vl 6 h0 h1 cc KK LL RR) (A : qa_A 8 cc KK LL RR ac ak al ar) (G : qp_AG c K L R cc KK LL RR) (ha : a < vl) (hb : b < vl)
    (p1 : qp_CC c K L R mask a b → ∀ lk2 im2 le2 gr2, post 1 (nI rl, nI vw, nI vl, nI 6, nI h0, nI h1, ac, ak, al, ar, lk2, im2, le2, gr2)) (p0 : ¬ qp_CC c K L R mask a b → ∀ lk2 im2 le2 gr2, post 0 (nI rl, nI vw, nI vl, nI 6, nI h0, nI h1, ac, ak, al, ar, lk2, im2, le2, gr2)) :
    wpX_certain post (nI rl, nI vw, nI vl, nI 6, nI h0, nI h1, ac, ak, al, ar, lk, im, le, gr) mask (nI a) (nI b) := by
  have e := qp_AG_CC G mask a b
  exact qx_certain W A ha hb (fun z => p1 (by rw [← e]; exact z)) (fun z => p0 (by rw [← e]; exact z))
theorem qx_clear1 {post : Int32 → St2 → Prop} (W : qa_W rl vw vl 6 h0 h1 cc KK LL RR) (A : qa_A 8 cc KK LL RR ac ak al ar) (G : qp_AG c K L R cc KK LL RR)
    (pp : ∀ r cc2 ac2, cc2 1 = 0 → qa_W rl vw vl 6 0 1 cc2 KK LL RR → qa_A 8 cc2 KK LL RR ac2 ak al ar → qp_AG c K L R cc2 KK LL RR → post r (nI rl, nI vw, nI vl, nI 6, 0, 1, ac2, ak, al, ar, lk, im, le, gr)) :
    wpX_clear post (nI rl, nI vw, nI vl, nI 6, nI h0, nI h1, ac, ak, al, ar, lk, im, le, gr) 1 := by
  unfold wpX_clear
  refine qx_section W.2.1.2 (fun j hj ej => br_f qn_10 ?_) (fun z => absurd ⟨1, by omega, rfl⟩ z)
  have hcl : (1 : Int32).toNatClampNeg = 1 := nI_clamp (n := 1) (by decide)
  refine ⟨vp_in_nI (n := 1) (by decide) (by decide), nm_e ⟨vp_in_nI (n := 1) (by decide) (by decide), nm_r (e' := upd ac 1 0) (by rw [hcl]) (br_t rfl ?_)⟩⟩
  refine pp _ (qa_set cc 1 0) _ qa_set_s (qa_W_head (by decide) (by decide) (qa_W_cut (Nat.zero_le _) W)) (qa_A_cut (Nat.zero_le _) A) (fun s hs => ?_)
  rw [qa_set_n hs]
  exact G s hs
theorem qx_head {post : Int32 → St2 → Prop} {x y : Nat} {fr fv fl fm f0 f1 : Int32} (hx : x < 5) (hy : y < 5) (pp : post 1 (fr, fv, fl, fm, nI x, nI y, ac, ak, al, ar, lk, im, le, gr)) : wpX_head post (fr, fv, fl, fm, f0, f1, ac, ak, al, ar, lk, im, le, gr) (nI x) (nI y) := by
  unfold wpX_head
  refine qx_below (n := 5) (by decide) (fun _ _ _ => br_f qn_10 ?_) (fun z => absurd ⟨x, hx, rfl⟩ z)
  exact qx_below (n := 5) (by decide) (fun _ _ _ => br_f qn_10 pp) (fun z => absurd ⟨y, hy, rfl⟩ z)
theorem qp_2pow (h : vw ≤ 3) : 2 ^ vw ≤ 8 := Nat.pow_le_pow_right (by decide) h (n := 2)
theorem qp_1299 {N p a b nr nq kc ks : Nat} {xs : Nat → Int32} {cs : Nat → Nat} {x7 x15 good hi : Int32} {x11 : Int64} {J315 J1067 : _} (hv : vw ≤ 3) (ha : a < vl) (hb : b < vl) (hgood : ∀ m, m < 2 ^ vw → (qp_CC c K L R (nI m ||| hi) a b ↔ qp_Wi good m))
    (pp : ∀ (h0 h1 : Nat) (cc : Nat → Nat) (KK LL RR : Nat → Nat → Nat) (ac ak al ar lk im le gr : Nat → Int32), qa_W rl vw vl 6 h0 h1 cc KK LL RR → qa_A 8 cc KK LL RR ac ak al ar → qp_AG c K L R cc KK LL RR → J1067 (nI (p + 1)) (nI rl) (nI vw) (nI vl) (nI 6) (nI h0) (nI h1) ac ak al ar lk im le gr) :
    ∀ d m n (h0 h1 : Nat) (cc : Nat → Nat) (KK LL RR : Nat → Nat → Nat) (ac ak al ar lk im le gr : Nat → Int32), m + d = 2 ^ vw → d < n → qa_W rl vw vl 6 h0 h1 cc KK LL RR → qa_A 8 cc KK LL RR ac ak al ar → qp_AG c K L R cc KK LL RR → wL_law_1299 (fun r => r = 1) N xs J315 J1067 (nI rl) (nI vw) (nI vl) (nI (vl * vl)) x7 (lN (qp_pk cs nr)) x11 (nI nr) (nI nq) x15 hi (nI p) (nI a) (nI b) good kc ks n (nI m) (nI rl) (nI vw) (nI vl) (nI 6) (nI h0) (nI h1) ac ak al ar lk im le gr := by
  have h8 := qp_2pow hv
  intro d
  induction d with
  | zero =>
    intro m n h0 h1 cc KK LL RR ac ak al ar lk im le gr hm hn W A G
    obtain ⟨n, rfl⟩ : ∃ m, n = m + 1 := ⟨n - 1, by omega⟩
    exact br_t (by rw [qp_sh vw (by omega)]; exact nI_le (by omega) (by omega)) (nm_r (nI_1 p) (pp h0 h1 cc KK LL RR ac ak al ar lk im le gr W A G))
  | succ d ih =>
    intro m n h0 h1 cc KK LL RR ac ak al ar lk im le gr hm hn W A G
    obtain ⟨n, rfl⟩ : ∃ m, n = m + 1 := ⟨n - 1, by omega⟩
    have hg := hgood m (by omega)
    refine br_f (by rw [qp_sh vw (by omega)]; exact nI_ge (by omega) (by omega)) ?_
    refine qp_cert W A G ha hb (fun z lk2 im2 le2 gr2 => br_t rfl ?_) (fun z lk2 im2 le2 gr2 => br_f qn_01 ?_)
    · exact qp_within (by omega) (fun w => br_t rfl (nm_r (nI_1 m) (ih (m + 1) n h0 h1 cc KK LL RR ac ak al ar lk2 im2 le2 gr2 (by omega) (by omega) W A G))) (fun w => absurd (hg.mp z) w)
    · exact qp_within (by omega) (fun w => absurd (hg.mpr w) z) (fun w => br_t rfl (nm_r (nI_1 m) (ih (m + 1) n h0 h1 cc KK LL RR ac ak al ar lk2 im2 le2 gr2 (by omega) (by omega) W A G)))
/-! the mathematics of one pair of values -/
def qp_SS (c : Nat → Nat) (K L R : Nat → Nat → Nat) (cs : Nat → Nat) (vl nr S a b : Nat) : Prop := qa_Mt (c 0) (K 0) (L 0) (R 0) (qa_FX c K L R (fun i => S.testBit i) (fun i => cs i / (vl * vl)) (fun i => cs i / vl % vl) (fun i => cs i % vl) (fun i => 5 + 2 * i) nr) 21 a b
/-- what has been read back, and the mask's high bits -/
def qp_BS (vw vl : Nat) (c : Nat → Nat) (K L R : Nat → Nat → Nat) (nr : Nat) (cs : Nat → Nat) (nq : Nat) (KQ LQ RQ : Nat → Nat) (hi : Int32) : Prop :=
  nr ≤ 6 ∧ nq ≤ 4 ∧ (∀ i, i < nr → cs i < 256 ∧ cs i / (vl * vl) < vw) ∧ (∀ i j, i < nr → j < nr → cs i = cs j → i = j) ∧ (∀ k x y, qa_In (c 2) (K 2) (L 2) (R 2) k x y ↔ qa_In nr (fun i => cs i / (vl * vl)) (fun i => cs i / vl % vl) (fun i => cs i % vl) k x y) ∧
  (∀ k x y, qa_In (c 0) (K 0) (L 0) (R 0) k x y ↔ qa_In nq KQ LQ RQ k x y) ∧ (∀ v, v < vw → bt hi v = false)
theorem qp_on {mask : Int32} {V : Nat → Nat} {i : Nat} (h : V i < 32) : qa_on mask V i = true ↔ bt mask (V i) = true := qa_on_t.trans (qb_t1 mask h)
theorem qp_onm {hi : Int32} {V : Nat → Nat} {i m : Nat} (h : V i < vw) (hv : vw ≤ 3) (hh : ∀ v, v < vw → bt hi v = false) : qa_on (nI m ||| hi) V i = true ↔ m.testBit (V i) = true := by
  rw [qp_on (by omega), b_or, hh _ h, Bool.or_false, qp_bt (by omega)]
theorem qp_CC_SS {nr nq S m a b : Nat} {cs KQ LQ RQ : Nat → Nat} {hi : Int32} (Wb : qa_W rl vw vl 6 h0 h1 c K L R) (BS : qp_BS vw vl c K L R nr cs nq KQ LQ RQ hi) (ha : a < vl) (hb : b < vl)
    (hS : ∀ i, i < nr → S.testBit i = true → m.testBit (cs i / (vl * vl)) = true) (h : qp_SS c K L R cs vl nr S a b) : qp_CC c K L R (nI m ||| hi) a b := by
  obtain ⟨s1, s2, s3, s4, s5, s6, s7⟩ := BS
  have hv := Wb.2.1.2
  have hl := Wb.2.2.1
  refine qp_comp (g := fun v => v) (qa_W_8 Wb 2 (by decide)) (fun i hi j hj => (qa_W_v Wb _ (by have := (s3 i hi).2; omega) j hj).2) (fun i hi => ?_) (fun v hv => hv) (fun i hi' ho => ?_) (by omega) (by omega) rfl rfl h
  · have h1 : cs i / vl % vl < vl := Nat.mod_lt _ (by omega)
    have h2 : cs i % vl < vl := Nat.mod_lt _ (by omega)
    exact ⟨by show cs i / vl % vl < 5; omega, by show cs i % vl < 5; omega⟩
  · obtain ⟨i', q1, q2, q3, q4⟩ := (s5 _ _ _).mpr ⟨i, hi', rfl, rfl, rfl⟩
    refine ⟨i', q1, ?_, q2, q3, q4⟩
    rw [qp_onm (vw := vw) (by rw [q2]; exact (s3 i hi').2) hv s7, q2]
    exact hS i hi' ho
theorem qp_CC_ex {nr nq m a b : Nat} {cs KQ LQ RQ : Nat → Nat} {hi : Int32} (Wb : qa_W rl vw vl 6 h0 h1 c K L R) (BS : qp_BS vw vl c K L R nr cs nq KQ LQ RQ hi) (ha : a < vl) (hb : b < vl)
    (h : qp_CC c K L R (nI m ||| hi) a b) : ∃ S, S < 2 ^ nr ∧ qp_pc S 8 ≤ nq ∧ (∀ i, i < nr → S.testBit i = true → m.testBit (cs i / (vl * vl)) = true) ∧ qp_SS c K L R cs vl nr S a b := by
  obtain ⟨s1, s2, s3, s4, s5, s6, s7⟩ := BS
  have hv := Wb.2.1.2
  have hl := Wb.2.2.1
  have M1 : qa_Mt (c 0) (K 0) (L 0) (R 0) (qa_FX c K L R (fun i => m.testBit (cs i / (vl * vl))) (fun i => cs i / (vl * vl)) (fun i => cs i / vl % vl) (fun i => cs i % vl) (fun i => 5 + 2 * i) nr) 21 a b := by
    refine qp_comp (g := fun v => v) (by omega) (fun i hi j hj => (qa_W_v Wb _ (qa_W_b Wb (s := 2) (by decide) i hi).1 j hj).2) (fun i hi => (qa_W_b Wb (s := 2) (by decide) i hi).2) (fun v hv => hv) (fun i hi' ho => ?_) (by omega) (by omega) rfl rfl h
    obtain ⟨i', q1, q2, q3, q4⟩ := (s5 _ _ _).mp ⟨i, hi', rfl, rfl, rfl⟩
    refine ⟨i', q1, ?_, q2, q3, q4⟩
    have hkv : K 2 i < vw := ((Wb.2.2.2.2.2.2 2 (by decide)).2 i hi').1
    have := (qp_onm (vw := vw) hkv hv s7).mp ho
    show m.testBit (cs i' / (vl * vl)) = true
    have q2' : cs i' / (vl * vl) = K 2 i := q2
    rw [q2']
    exact this
  have M2 := qp_Mt_set (fun k x y => (s6 k x y).mpr) M1
  obtain ⟨ow, w1, w2⟩ := qp_extract M2
  refine ⟨qp_bm ow nq, qp_bm_lt nq (fun t ht => (w1 t ht).1), qp_pc_bm ow 8 nq, fun i hi' hb' => ?_, ?_⟩
  · obtain ⟨t, ht, e⟩ := (qp_bm_t ow i nq).mp hb'
    rw [← e]
    exact (w1 t ht).2
  · have M3 := w2 (fun i => (qp_bm ow nq).testBit i) (fun j hj => (qp_bm_t ow (ow j) nq).mpr ⟨j, hj, rfl⟩)
    exact qp_Mt_set (fun k x y => (s6 k x y).mp) M3
theorem qp_main {nr nq a b : Nat} {cs KQ LQ RQ : Nat → Nat} {hi good : Int32} (Wb : qa_W rl vw vl 6 h0 h1 c K L R) (BS : qp_BS vw vl c K L R nr cs nq KQ LQ RQ hi) (ha : a < vl) (hb : b < vl)
    (G1 : ∀ w, w < 8 → bt good w = true → ∃ S, qp_vm (fun i => cs i / (vl * vl)) S nr = w ∧ qp_SS c K L R cs vl nr S a b)
    (G2 : ∀ S, S < 2 ^ nr → qp_pc S 8 ≤ nq → qp_SS c K L R cs vl nr S a b → qp_Wi good (qp_vm (fun i => cs i / (vl * vl)) S nr)) :
    ∀ m, m < 2 ^ vw → (qp_CC c K L R (nI m ||| hi) a b ↔ qp_Wi good m) := by
  intro m _
  constructor
  · intro h
    obtain ⟨S, h1, h2, h3, h4⟩ := qp_CC_ex Wb BS ha hb h
    obtain ⟨w, w1, w2, w3⟩ := G2 S h1 h2 h4
    refine ⟨w, w1, w2, qp_wand (fun v hv => ?_)⟩
    obtain ⟨i, i1, i2, i3⟩ := (qp_vm_b (fun i => cs i / (vl * vl)) S v nr).mp (qp_andw w3 hv)
    rw [← i3]
    exact h3 i i1 i2
  · rintro ⟨w, w1, w2, w3⟩
    obtain ⟨S, e, h⟩ := G1 w w1 w2
    refine qp_CC_SS Wb BS ha hb (fun i i1 i2 => qp_andw w3 ?_) h
    rw [← e]
    exact (qp_vm_b (fun i => cs i / (vl * vl)) S _ nr).mpr ⟨i, i1, i2, rfl⟩
/-! the candidate made of the rows of a set -/
def qp_CI (cs : Nat → Nat) (vl S i : Nat) (cc : Nat → Nat) (KK LL RR : Nat → Nat → Nat) : Prop :=
  cc 1 = qp_pc S i ∧ ∀ k x y, qa_In (cc 1) (KK 1) (LL 1) (RR 1) k x y ↔ ∃ i', i' < i ∧ S.testBit i' = true ∧ cs i' / (vl * vl) = k ∧ cs i' / vl % vl = x ∧ cs i' % vl = y
theorem qp_sound_SS {nr nq S a b : Nat} {hb0 hb1 : Nat} {cs KQ LQ RQ : Nat → Nat} {hi : Int32} (Wb : qa_W rl vw vl 6 hb0 hb1 c K L R) (BS : qp_BS vw vl c K L R nr cs nq KQ LQ RQ hi) (ha : a < vl) (hb : b < vl)
    (W : qa_W rl vw vl 6 a b cc KK LL RR) (G : qp_AG c K L R cc KK LL RR) (CI : qp_CI cs vl S nr cc KK LL RR) :
    qa_Mt (cc 0) (KK 0) (LL 0) (RR 0) (qa_FX cc KK LL RR (qa_on (-1) (KK 1)) (KK 1) (LL 1) (RR 1) (fun i => 5 + 2 * i) (cc 1)) 21 a b ↔ qp_SS c K L R cs vl nr S a b := by
  obtain ⟨s1, s2, s3, s4, s5, s6, s7⟩ := BS
  obtain ⟨g1, g2, g3, g4⟩ := G 0 (by decide)
  have hv := Wb.2.1.2
  have hl := Wb.2.2.1
  rw [qp_AG_FX G, g1, g2, g3, g4]
  constructor
  · intro h
    refine qp_comp (g := fun v => v) (by omega) (fun i hi j hj => (qa_W_v Wb _ (qa_W_b W (s := 1) (by decide) i hi).1 j hj).2) (fun i hi => (qa_W_b W (s := 1) (by decide) i hi).2) (fun v hv => hv) (fun i hi' ho => ?_) (by omega) (by omega) rfl rfl h
    obtain ⟨i', q1, q2, q3, q4, q5⟩ := (CI.2 _ _ _).mp ⟨i, hi', rfl, rfl, rfl⟩
    exact ⟨i', q1, q2, q3, q4, q5⟩
  · intro h
    refine qp_comp (g := fun v => v) (qa_W_8 W 1 (by decide)) (fun i hi j hj => (qa_W_v Wb _ (by have := (s3 i hi).2; omega) j hj).2) (fun i hi => ?_) (fun v hv => hv) (fun i hi' ho => ?_) (by omega) (by omega) rfl rfl h
    · have h1 : cs i / vl % vl < vl := Nat.mod_lt _ (by omega)
      have h2 : cs i % vl < vl := Nat.mod_lt _ (by omega)
      exact ⟨by show cs i / vl % vl < 5; omega, by show cs i % vl < 5; omega⟩
    · obtain ⟨i', q1, q2, q3, q4⟩ := (CI.2 _ _ _).mpr ⟨i, hi', ho, rfl, rfl, rfl⟩
      exact ⟨i', q1, qa_on_t.mpr ((by decide : ∀ v, v < 3 → ((-1 : Int32) >>> (nI v &&& 31)) &&& 1 = 1) _ (qa_W_b W (s := 1) (by decide) i' q1).1), q2, q3, q4⟩
theorem qp_cand {nr nq S a b : Nat} {hb0 hb1 : Nat} {cs KQ LQ RQ : Nat → Nat} {hi : Int32} (Wb : qa_W rl vw vl 6 hb0 hb1 c K L R) (BS : qp_BS vw vl c K L R nr cs nq KQ LQ RQ hi) (ha : a < vl) (hb : b < vl)
    (G : qp_AG c K L R cc KK LL RR) (CI : qp_CI cs vl S nr cc KK LL RR) : qa_Cd a b a b (cc 1) (KK 1) (LL 1) (RR 1) (qa_In (cc 2) (KK 2) (LL 2) (RR 2)) vl := by
  obtain ⟨s1, s2, s3, s4, s5, s6, s7⟩ := BS
  obtain ⟨g1, g2, g3, g4⟩ := G 2 (by decide)
  refine ⟨fun v => if v < vl then v else 0, ?_, ?_, fun v _ => ?_, fun j hj => ?_⟩
  · show (if a < vl then a else 0) = a
    rw [if_pos ha]
  · show (if b < vl then b else 0) = b
    rw [if_pos hb]
  · show (if v < vl then v else 0) < vl
    split <;> omega
  · obtain ⟨i, q1, q2, q3, q4, q5⟩ := (CI.2 _ _ _).mp ⟨j, hj, rfl, rfl, rfl⟩
    have h1 : LL 1 j < vl := by rw [← q4]; exact Nat.mod_lt _ (by omega)
    have h2 : RR 1 j < vl := by rw [← q5]; exact Nat.mod_lt _ (by omega)
    show qa_In (cc 2) (KK 2) (LL 2) (RR 2) (KK 1 j) (if LL 1 j < vl then LL 1 j else 0) (if RR 1 j < vl then RR 1 j else 0)
    rw [if_pos h1, if_pos h2, g1, g2, g3, g4]
    exact (s5 _ _ _).mpr ⟨i, q1, q3, q4, q5⟩
end
end
section
/-! the second half of a round: the law's loops -/
section
variable {rl vw vl : Nat} {c : Nat → Nat} {K L R : Nat → Nat → Nat}
theorem qp_1196 {N p a b nr nq kc ks S w hb0 hb1 : Nat} {xs : Nat → Int32} {cs KQ LQ RQ : Nat → Nat} {x7 x15 good hi : Int32} {x11 : Int64} {J315 J1067 J1094 : _}
    (Wb : qa_W rl vw vl 6 hb0 hb1 c K L R) (BS : qp_BS vw vl c K L R nr cs nq KQ LQ RQ hi) (ha : a < vl) (hb : b < vl) (hpc : qp_pc S 8 ≤ nq)
    (pp1 : qp_SS c K L R cs vl nr S a b → ∀ (h0 h1 : Nat) (cc : Nat → Nat) (KK LL RR : Nat → Nat → Nat) (ac ak al ar lk im le gr : Nat → Int32), qa_W rl vw vl 6 h0 h1 cc KK LL RR → qa_A 8 cc KK LL RR ac ak al ar → qp_AG c K L R cc KK LL RR → J1094 (good ||| ((1 : Int32) <<< (nI w &&& 31))) (nI (S + 1)) (nI rl) (nI vw) (nI vl) (nI 6) (nI h0) (nI h1) ac ak al ar lk im le gr)
    (pp0 : ¬ qp_SS c K L R cs vl nr S a b → ∀ (h0 h1 : Nat) (cc : Nat → Nat) (KK LL RR : Nat → Nat → Nat) (ac ak al ar lk im le gr : Nat → Int32), qa_W rl vw vl 6 h0 h1 cc KK LL RR → qa_A 8 cc KK LL RR ac ak al ar → qp_AG c K L R cc KK LL RR → J1094 good (nI (S + 1)) (nI rl) (nI vw) (nI vl) (nI 6) (nI h0) (nI h1) ac ak al ar lk im le gr) :
    ∀ d i n (cc : Nat → Nat) (KK LL RR : Nat → Nat → Nat) (ac ak al ar lk im le gr : Nat → Int32), i + d = nr → d < n → qa_W rl vw vl 6 a b cc KK LL RR → qa_A 8 cc KK LL RR ac ak al ar → qp_AG c K L R cc KK LL RR → qp_CI cs vl S i cc KK LL RR →
      wL_law_1196 (fun r => r = 1) N xs J315 J1067 J1094 (nI rl) (nI vw) (nI vl) (nI (vl * vl)) x7 (lN (qp_pk cs nr)) x11 (nI nr) (nI nq) x15 hi (nI p) (nI a) (nI b) good (nI S) (nI w) kc ks n (nI i) (nI rl) (nI vw) (nI vl) (nI 6) (nI a) (nI b) ac ak al ar lk im le gr := by
  have BS' := BS
  obtain ⟨s1, s2, s3, s4, s5, s6, s7⟩ := BS
  have hv := Wb.2.1.2
  have hl := Wb.2.2.1
  have hvv : vl * vl ≤ 16 := Nat.mul_le_mul hl.2 hl.2
  have hv1 : 0 < vl * vl := Nat.mul_pos (by omega) (by omega)
  have z5 : ¬ nI (vl * vl) = 0 := nI_ne0 hv1 (by omega)
  have z4 : ¬ nI vl = 0 := nI_ne0 (by omega) (by omega)
  intro d
  induction d with
  | zero =>
    intro i n cc KK LL RR ac ak al ar lk im le gr hi' hn W A G CI
    obtain ⟨n, rfl⟩ : ∃ m, n = m + 1 := ⟨n - 1, by omega⟩
    have e : i = nr := by omega
    subst e
    have hss := qp_sound_SS Wb BS' ha hb W G CI
    refine br_t (nI_le (by omega) (by omega)) ?_
    refine qx_sound W A (fun z lk2 im2 le2 gr2 => br_t rfl ?_) (fun z lk2 im2 le2 gr2 => br_f qn_01 (nm_r (nI_1 S) (pp0 (fun q => z (hss.mpr q)) a b cc KK LL RR ac ak al ar lk2 im2 le2 gr2 W A G)))
    exact qx_candidateHas W A ha hb (fun _ lk3 im3 le3 gr3 => br_t rfl (nm_e (nm_r (nI_1 S) (pp1 (hss.mp z) a b cc KK LL RR ac ak al ar lk3 im3 le3 gr3 W A G)))) (fun q => absurd (qp_cand Wb BS' ha hb G CI) q)
  | succ d ih =>
    intro i n cc KK LL RR ac ak al ar lk im le gr hi' hn W A G CI
    obtain ⟨n, rfl⟩ : ∃ m, n = m + 1 := ⟨n - 1, by omega⟩
    obtain ⟨t1, t2⟩ := s3 i (by omega)
    have t3 : cs i / vl % vl < vl := Nat.mod_lt _ (by omega)
    have t4 : cs i % vl < vl := Nat.mod_lt _ (by omega)
    refine br_f (nI_ge (by omega) (by omega)) (qp_at_pk (by omega) (fun i hi => (s3 i hi).1) (by omega) ?_)
    refine ek_if (qp_tst (by omega)) (fun hS => ⟨z5, z4, z4, z4, ?_⟩) (fun hS => nm_r (nI_1 i) (ih (i + 1) n cc KK LL RR ac ak al ar lk im le gr (by omega) (by omega) W A G ?_))
    · have e1 : nI (cs i) / nI (vl * vl) = nI (cs i / (vl * vl)) := pk_div (by omega) hv1 (by omega)
      have e2 : nI (cs i) / nI vl = nI (cs i / vl) := pk_div (by omega) (by omega) (by omega)
      have e3 : nI (cs i / vl) - nI (cs i / vl) / nI vl * nI vl = nI (cs i / vl % vl) := pk_rem (Nat.lt_of_le_of_lt (Nat.div_le_self _ _) (by omega)) (by omega) (by omega)
      have e4 : nI (cs i) - nI (cs i) / nI vl * nI vl = nI (cs i % vl) := pk_rem (by omega) (by omega) (by omega)
      have hnot : qa_fd (KK 1) (LL 1) (RR 1) (cs i / (vl * vl)) (cs i / vl % vl) (cs i % vl) (cc 1) 0 = none := by
        cases e : qa_fd (KK 1) (LL 1) (RR 1) (cs i / (vl * vl)) (cs i / vl % vl) (cs i % vl) (cc 1) 0 with
        | none => rfl
        | some j =>
          obtain ⟨i', q1, q2, q3, q4, q5⟩ := (CI.2 _ _ _).mp (qa_in_fd e)
          have := s4 i' i (by omega) (by omega) (qp_dec_inj q3 q4 q5)
          omega
      have hroom : cc 1 < qa_lm 6 1 := by
        have a1 := qp_pc_mono S (8 - (i + 1)) (i + 1)
        rw [show i + 1 + (8 - (i + 1)) = 8 by omega, qp_pc_t hS] at a1
        rw [CI.1]
        show qp_pc S i < 4
        omega
      rw [e4, e2, e3, e1]
      refine qx_put (s := 1) W A (by omega) (show cs i / (vl * vl) < vw from t2) (show cs i / vl % vl < 5 by omega) (show cs i % vl < 5 by omega) (fun j hj => absurd (hnot.symm.trans hj) (by simp)) (fun _ q => absurd hroom (by omega)) (fun _ _ => br_t rfl (nm_r (nI_1 i) ?_))
      refine ih (i + 1) n _ _ _ _ _ _ _ _ lk im le gr (by omega) (by omega) (qa_W_set (i := cc 1) (by omega) (Or.inr ⟨rfl, rfl⟩) t2 (show cs i / vl % vl < 5 by omega) (show cs i % vl < 5 by omega) W)
        (qa_A_set (s := 1) (Or.inl rfl) (qa_W_8 W) (by have : qa_lm 6 1 = 4 := rfl; omega) (by have : qa_lm 6 1 = 4 := rfl; omega) (Or.inr ⟨rfl, rfl⟩) A) (fun s hs => ?_) ⟨?_, fun k x y => ?_⟩
      · obtain ⟨g1, g2, g3, g4⟩ := G s hs
        refine ⟨by rw [qa_set_n hs]; exact g1, ?_, ?_, ?_⟩
        · rw [← g2]; funext j; exact qa_up2_n (fun q => hs q.1)
        · rw [← g3]; funext j; exact qa_up2_n (fun q => hs q.1)
        · rw [← g4]; funext j; exact qa_up2_n (fun q => hs q.1)
      · rw [qa_set_s, qp_pc_t hS, CI.1]
      · rw [qa_set_s]
        constructor
        · rintro ⟨j, hj, q1, q2, q3⟩
          by_cases e : j = cc 1
          · subst e
            rw [qa_up2_s] at q1 q2 q3
            exact ⟨i, by omega, hS, q1, q2, q3⟩
          · rw [qa_up2_n (fun q => e q.2)] at q1 q2 q3
            obtain ⟨i', r1, r2, r3⟩ := (CI.2 k x y).mp ⟨j, by omega, q1, q2, q3⟩
            exact ⟨i', by omega, r2, r3⟩
        · rintro ⟨i', r1, r2, r3, r4, r5⟩
          by_cases e : i' = i
          · subst e
            exact ⟨cc 1, by omega, by rw [qa_up2_s]; exact r3, by rw [qa_up2_s]; exact r4, by rw [qa_up2_s]; exact r5⟩
          · obtain ⟨j, hj, q1, q2, q3⟩ := (CI.2 k x y).mpr ⟨i', by omega, r2, r3, r4, r5⟩
            have z : j ≠ cc 1 := by omega
            exact ⟨j, by omega, by rw [qa_up2_n (fun q => z q.2)]; exact q1, by rw [qa_up2_n (fun q => z q.2)]; exact q2, by rw [qa_up2_n (fun q => z q.2)]; exact q3⟩
    · refine ⟨by rw [qp_pc_f hS]; exact CI.1, fun k x y => (CI.2 k x y).trans ⟨?_, ?_⟩⟩
      · rintro ⟨i', r1, r2⟩
        exact ⟨i', by omega, r2⟩
      · rintro ⟨i', r1, r2, r3⟩
        by_cases e : i' = i
        · subst e; exact absurd r2 hS
        · exact ⟨i', by omega, r2, r3⟩
theorem qp_1122 {N p a b nr nq kc ks S hb0 hb1 h0 h1 : Nat} {xs : Nat → Int32} {cs KQ LQ RQ : Nat → Nat} {x7 x15 good hi : Int32} {x11 : Int64} {J315 J1067 J1094 : _} {cc : Nat → Nat} {KK LL RR : Nat → Nat → Nat} {ac ak al ar lk im le gr : Nat → Int32}
    (Wb : qa_W rl vw vl 6 hb0 hb1 c K L R) (BS : qp_BS vw vl c K L R nr cs nq KQ LQ RQ hi) (ha : a < vl) (hb : b < vl) (hpc : qp_pc S 8 ≤ nq)
    (W : qa_W rl vw vl 6 h0 h1 cc KK LL RR) (A : qa_A 8 cc KK LL RR ac ak al ar) (G : qp_AG c K L R cc KK LL RR)
    (ppw : qp_Wi good (qp_vm (fun i => cs i / (vl * vl)) S nr) → J1094 good (nI (S + 1)) (nI rl) (nI vw) (nI vl) (nI 6) (nI h0) (nI h1) ac ak al ar lk im le gr)
    (pp1 : qp_SS c K L R cs vl nr S a b → ∀ (h0 h1 : Nat) (cc : Nat → Nat) (KK LL RR : Nat → Nat → Nat) (ac ak al ar lk im le gr : Nat → Int32), qa_W rl vw vl 6 h0 h1 cc KK LL RR → qa_A 8 cc KK LL RR ac ak al ar → qp_AG c K L R cc KK LL RR → J1094 (good ||| ((1 : Int32) <<< (nI (qp_vm (fun i => cs i / (vl * vl)) S nr) &&& 31))) (nI (S + 1)) (nI rl) (nI vw) (nI vl) (nI 6) (nI h0) (nI h1) ac ak al ar lk im le gr)
    (pp0 : ¬ qp_SS c K L R cs vl nr S a b → ∀ (h0 h1 : Nat) (cc : Nat → Nat) (KK LL RR : Nat → Nat → Nat) (ac ak al ar lk im le gr : Nat → Int32), qa_W rl vw vl 6 h0 h1 cc KK LL RR → qa_A 8 cc KK LL RR ac ak al ar → qp_AG c K L R cc KK LL RR → J1094 good (nI (S + 1)) (nI rl) (nI vw) (nI vl) (nI 6) (nI h0) (nI h1) ac ak al ar lk im le gr) :
    ∀ d i n, i + d = nr → d < n → wL_law_1122 (fun r => r = 1) N xs J315 J1067 J1094 (nI rl) (nI vw) (nI vl) (nI (vl * vl)) x7 (lN (qp_pk cs nr)) x11 (nI nr) (nI nq) x15 hi (nI p) (nI a) (nI b) good (nI S) kc ks (nI rl) (nI vw) (nI vl) (nI 6) (nI h0) (nI h1) ac ak al ar lk im le gr n (nI (qp_vm (fun i => cs i / (vl * vl)) S i)) (nI i) := by
  have BS' := BS
  obtain ⟨s1, s2, s3, s4, s5, s6, s7⟩ := BS
  have hv := Wb.2.1.2
  have hl := Wb.2.2.1
  have hvv : vl * vl ≤ 16 := Nat.mul_le_mul hl.2 hl.2
  have hv1 : 0 < vl * vl := Nat.mul_pos (by omega) (by omega)
  have z5 : ¬ nI (vl * vl) = 0 := nI_ne0 hv1 (by omega)
  have h8 := qp_2pow hv
  have hw8 : ∀ i, i ≤ nr → qp_vm (fun i => cs i / (vl * vl)) S i < 8 := fun i hi => Nat.lt_of_lt_of_le (qp_vm_lt i (fun j hj => (s3 j (by omega)).2)) h8
  intro d
  induction d with
  | zero =>
    intro i n hi' hn
    obtain ⟨n, rfl⟩ : ∃ m, n = m + 1 := ⟨n - 1, by omega⟩
    have e : i = nr := by omega
    subst e
    refine br_t (nI_le (by omega) (by omega)) ?_
    refine qp_within (hw8 _ (Nat.le_refl _)) (fun z => br_f qn_10 (nm_r (nI_1 S) (ppw z))) (fun z => br_t rfl ?_)
    refine qx_clear1 W A G (fun r cc2 ac2 h1' W2 A2 G2 => ?_)
    refine qx_head (by omega) (by omega) ⟨i + 1, ?_⟩
    refine qp_1196 Wb BS' ha hb hpc pp1 pp0 i 0 (i + 1) cc2 KK LL RR ac2 ak al ar lk im le gr (by omega) (by omega) (qa_W_head (by omega) (by omega) W2) A2 G2 ⟨h1', fun k x y => ?_⟩
    rw [h1']
    exact ⟨fun ⟨j, hj, _⟩ => absurd hj (Nat.not_lt_zero j), fun ⟨j, hj, _⟩ => absurd hj (Nat.not_lt_zero j)⟩
  | succ d ih =>
    intro i n hi' hn
    obtain ⟨n, rfl⟩ : ∃ m, n = m + 1 := ⟨n - 1, by omega⟩
    obtain ⟨t1, t2⟩ := s3 i (by omega)
    refine br_f (nI_ge (by omega) (by omega)) (ek_if (qp_tst (by omega)) (fun hS => ?_) (fun hS => nm_r (nI_1 i) ?_))
    · refine qp_at_pk (by omega) (fun i hi => (s3 i hi).1) (by omega) ⟨z5, nm_r (e' := nI (qp_vm (fun i => cs i / (vl * vl)) S (i + 1))) ?_ (nm_r (nI_1 i) (ih (i + 1) n (by omega) (by omega)))⟩
      rw [show nI (cs i) / nI (vl * vl) = nI (cs i / (vl * vl)) from pk_div (by omega) hv1 (by omega), qp_vm_t hS]
      exact qp_orb _ (hw8 i (by omega)) _ (by omega)
    · have := ih (i + 1) n (by omega) (by omega)
      rw [qp_vm_f hS] at this
      exact this
theorem qp_1094 {N p a b nr nq kc ks hb0 hb1 : Nat} {xs : Nat → Int32} {cs KQ LQ RQ : Nat → Nat} {x7 x15 hi : Int32} {x11 : Int64} {J315 J1067 : _}
    (Wb : qa_W rl vw vl 6 hb0 hb1 c K L R) (BS : qp_BS vw vl c K L R nr cs nq KQ LQ RQ hi) (ha : a < vl) (hb : b < vl)
    (pp : ∀ (h0 h1 : Nat) (cc : Nat → Nat) (KK LL RR : Nat → Nat → Nat) (ac ak al ar lk im le gr : Nat → Int32), qa_W rl vw vl 6 h0 h1 cc KK LL RR → qa_A 8 cc KK LL RR ac ak al ar → qp_AG c K L R cc KK LL RR → J1067 (nI (p + 1)) (nI rl) (nI vw) (nI vl) (nI 6) (nI h0) (nI h1) ac ak al ar lk im le gr) :
    ∀ d S n (good : Int32) (h0 h1 : Nat) (cc : Nat → Nat) (KK LL RR : Nat → Nat → Nat) (ac ak al ar lk im le gr : Nat → Int32), S + d = 2 ^ nr → d < n → qa_W rl vw vl 6 h0 h1 cc KK LL RR → qa_A 8 cc KK LL RR ac ak al ar → qp_AG c K L R cc KK LL RR →
      (∀ w, w < 8 → bt good w = true → ∃ S, qp_vm (fun i => cs i / (vl * vl)) S nr = w ∧ qp_SS c K L R cs vl nr S a b) →
      (∀ S', S' < S → qp_pc S' 8 ≤ nq → qp_SS c K L R cs vl nr S' a b → qp_Wi good (qp_vm (fun i => cs i / (vl * vl)) S' nr)) →
      wL_law_1094 (fun r => r = 1) N xs J315 J1067 (nI rl) (nI vw) (nI vl) (nI (vl * vl)) x7 (lN (qp_pk cs nr)) x11 (nI nr) (nI nq) x15 hi (nI p) (nI a) (nI b) kc ks n good (nI S) (nI rl) (nI vw) (nI vl) (nI 6) (nI h0) (nI h1) ac ak al ar lk im le gr := by
  have BS' := BS
  obtain ⟨s1, s2, s3, s4, s5, s6, s7⟩ := BS
  have hv := Wb.2.1.2
  have h8 := qp_2pow hv
  have h64 : 2 ^ nr ≤ 64 := Nat.pow_le_pow_right (by decide) s1 (n := 2)
  have hw8 : ∀ S, qp_vm (fun i => cs i / (vl * vl)) S nr < 8 := fun S => Nat.lt_of_lt_of_le (qp_vm_lt nr (fun j hj => (s3 j (by omega)).2)) h8
  intro d
  induction d with
  | zero =>
    intro S n good h0 h1 cc KK LL RR ac ak al ar lk im le gr hS hn W A G G1 G2
    obtain ⟨n, rfl⟩ : ∃ m, n = m + 1 := ⟨n - 1, by omega⟩
    refine br_t (by rw [qp_sh nr (by omega)]; exact nI_le (by omega) (by omega)) ⟨2 ^ vw + 1, ?_⟩
    exact qp_1299 hv ha hb (qp_main Wb BS' ha hb G1 (fun S' h1 h2 h3 => G2 S' (by omega) h2 h3)) pp (2 ^ vw) 0 (2 ^ vw + 1) h0 h1 cc KK LL RR ac ak al ar lk im le gr (by omega) (by omega) W A G
  | succ d ih =>
    intro S n good h0 h1 cc KK LL RR ac ak al ar lk im le gr hS hn W A G G1 G2
    obtain ⟨n, rfl⟩ : ∃ m, n = m + 1 := ⟨n - 1, by omega⟩
    have hp8 := qp_pc_le S 8
    have keep : (qp_pc S 8 ≤ nq → qp_SS c K L R cs vl nr S a b → qp_Wi good (qp_vm (fun i => cs i / (vl * vl)) S nr)) → ∀ (h0 h1 : Nat) (cc : Nat → Nat) (KK LL RR : Nat → Nat → Nat) (ac ak al ar lk im le gr : Nat → Int32), qa_W rl vw vl 6 h0 h1 cc KK LL RR → qa_A 8 cc KK LL RR ac ak al ar → qp_AG c K L R cc KK LL RR → wL_law_1094 (fun r => r = 1) N xs J315 J1067 (nI rl) (nI vw) (nI vl) (nI (vl * vl)) x7 (lN (qp_pk cs nr)) x11 (nI nr) (nI nq) x15 hi (nI p) (nI a) (nI b) kc ks n good (nI (S + 1)) (nI rl) (nI vw) (nI vl) (nI 6) (nI h0) (nI h1) ac ak al ar lk im le gr := fun z h0 h1 cc KK LL RR ac ak al ar lk im le gr W A G => by
      refine ih (S + 1) n good h0 h1 cc KK LL RR ac ak al ar lk im le gr (by omega) (by omega) W A G G1 (fun S' h1 h2 h3 => ?_)
      by_cases e : S' = S
      · subst e; exact z h2 h3
      · exact G2 S' (by omega) h2 h3
    refine br_f (by rw [qp_sh nr (by omega)]; exact nI_ge (by omega) (by omega)) (qp_bits (pk_le (qp_pc S 8) nq (fun h => ⟨nr + 1, ?_⟩) (fun h => nm_r (nI_1 S) (keep (fun q => absurd q (by omega)) h0 h1 cc KK LL RR ac ak al ar lk im le gr W A G))))
    refine qp_1122 Wb BS' ha hb h W A G (fun z => keep (fun _ _ => z) h0 h1 cc KK LL RR ac ak al ar lk im le gr W A G) (fun z h0 h1 cc KK LL RR ac ak al ar lk im le gr W A G => ?_) (fun z h0 h1 cc KK LL RR ac ak al ar lk im le gr W A G => keep (fun _ q => absurd q z) h0 h1 cc KK LL RR ac ak al ar lk im le gr W A G) nr 0 (nr + 1) (by omega) (by omega)
    refine ih (S + 1) n _ h0 h1 cc KK LL RR ac ak al ar lk im le gr (by omega) (by omega) W A G (fun w hw hb' => ?_) (fun S' h1 h2 h3 => ?_)
    · rcases (qb_or good (r := qp_vm (fun i => cs i / (vl * vl)) S nr) (by have := hw8 S; omega) (by omega)).mp hb' with q | q
      · exact G1 w hw q
      · exact ⟨S, q.symm, z⟩
    · by_cases e : S' = S
      · subst e
        exact ⟨qp_vm (fun i => cs i / (vl * vl)) S' nr, hw8 S', (qb_or good (by have := hw8 S'; omega) (by have := hw8 S'; omega)).mpr (Or.inr rfl), Nat.and_self _⟩
      · obtain ⟨w, w1, w2, w3⟩ := G2 S' (by omega) h2 h3
        exact ⟨w, w1, (qb_or good (by have := hw8 S; omega) (by omega)).mpr (Or.inl w2), w3⟩
theorem qp_1067 {N nr nq kc ks hb0 hb1 : Nat} {xs : Nat → Int32} {cs KQ LQ RQ : Nat → Nat} {x7 x15 hi : Int32} {x11 : Int64} {J315 : _}
    (Wb : qa_W rl vw vl 6 hb0 hb1 c K L R) (BS : qp_BS vw vl c K L R nr cs nq KQ LQ RQ hi)
    (pp : ∀ (h0 h1 : Nat) (cc : Nat → Nat) (KK LL RR : Nat → Nat → Nat) (ac ak al ar lk im le gr : Nat → Int32), qa_W rl vw vl 6 h0 h1 cc KK LL RR → qa_A 8 cc KK LL RR ac ak al ar → qp_AG c K L R cc KK LL RR → J315 x7 (lN (qp_pk cs nr)) x11 (nI nr) (nI nq) (x15 + 1) (nI rl) (nI vw) (nI vl) (nI 6) (nI h0) (nI h1) ac ak al ar lk im le gr) :
    ∀ d p n (h0 h1 : Nat) (cc : Nat → Nat) (KK LL RR : Nat → Nat → Nat) (ac ak al ar lk im le gr : Nat → Int32), p + d = vl * vl → d < n → qa_W rl vw vl 6 h0 h1 cc KK LL RR → qa_A 8 cc KK LL RR ac ak al ar → qp_AG c K L R cc KK LL RR → wL_law_1067 (fun r => r = 1) N xs J315 (nI rl) (nI vw) (nI vl) (nI (vl * vl)) x7 (lN (qp_pk cs nr)) x11 (nI nr) (nI nq) x15 hi kc ks n (nI p) (nI rl) (nI vw) (nI vl) (nI 6) (nI h0) (nI h1) ac ak al ar lk im le gr := by
  have hl := Wb.2.2.1
  have hvv : vl * vl ≤ 16 := Nat.mul_le_mul hl.2 hl.2
  have z4 : ¬ nI vl = 0 := nI_ne0 (by omega) (by omega)
  intro d
  induction d with
  | zero =>
    intro p n h0 h1 cc KK LL RR ac ak al ar lk im le gr hp hn W A G
    obtain ⟨n, rfl⟩ : ∃ m, n = m + 1 := ⟨n - 1, by omega⟩
    exact br_t (nI_le (by omega) (by omega)) (nm_e (pp h0 h1 cc KK LL RR ac ak al ar lk im le gr W A G))
  | succ d ih =>
    intro p n h0 h1 cc KK LL RR ac ak al ar lk im le gr hp hn W A G
    obtain ⟨n, rfl⟩ : ∃ m, n = m + 1 := ⟨n - 1, by omega⟩
    have hd : p / vl < vl := (Nat.div_lt_iff_lt_mul (by omega)).mpr (by omega)
    refine br_f (nI_ge (by omega) (by omega)) ⟨z4, nm_r (e' := nI (p / vl)) (pk_div (by omega) (by omega) (by omega)) ⟨z4, nm_r (e' := nI (p % vl)) (pk_rem (by omega) (by omega) (by omega)) ⟨2 ^ nr + 1, ?_⟩⟩⟩
    exact qp_1094 Wb BS hd (Nat.mod_lt _ (by omega)) (fun h0 h1 cc KK LL RR ac ak al ar lk im le gr W A G => ih (p + 1) n h0 h1 cc KK LL RR ac ak al ar lk im le gr (by omega) (by omega) W A G) (2 ^ nr) 0 (2 ^ nr + 1) 0 h0 h1 cc KK LL RR ac ak al ar lk im le gr (by omega) (by omega) W A G (fun w _ q => by rw [b_0] at q; exact absurd q (by decide)) (fun S' q => absurd q (Nat.not_lt_zero S'))
end
end
section
/-! the first half of a round: a candidate, and what was read back -/
section
variable {rl vw vl h0 h1 : Nat} {c : Nat → Nat} {K L R : Nat → Nat → Nat} {cc : Nat → Nat} {KK LL RR : Nat → Nat → Nat} {ac ak al ar lk im le gr : Nat → Int32}
theorem qp_used {used : Int32} {m v : Nat} (h : used &&& (nI m ^^^ (-1)) = 0) (hv : v < 32) (hu : bt used v = true) : m.testBit v = true := by
  have e : bt (used &&& (nI m ^^^ (-1))) v = false := by rw [h, b_0]
  rw [b_and, b_xor, hu, b_m1 v hv, qp_bt hv, Bool.true_and] at e
  cases q : m.testBit v
  · rw [q] at e; exact absurd e (by decide)
  · rfl
theorem qp_first {m a b hb0 hb1 : Nat} {used hi : Int32} (Wb : qa_W rl vw vl 6 hb0 hb1 c K L R) (W : qa_W rl vw vl 6 h0 h1 cc KK LL RR) (G : qp_AG c K L R cc KK LL RR) (hhi : ∀ v, v < vw → bt hi v = false)
    (hU : ∀ j, j < cc 1 → bt used (KK 1 j) = true) (hs : qa_Mt (cc 0) (KK 0) (LL 0) (RR 0) (qa_FX cc KK LL RR (qa_on (-1) (KK 1)) (KK 1) (LL 1) (RR 1) (fun i => 5 + 2 * i) (cc 1)) 21 h0 h1)
    (hc : qa_Cd h0 h1 a b (cc 1) (KK 1) (LL 1) (RR 1) (qa_In (cc 2) (KK 2) (LL 2) (RR 2)) vl) (hm : used &&& (nI m ^^^ (-1)) = 0) : qp_CC c K L R (nI m ||| hi) a b := by
  obtain ⟨g, e0, e1, g2, g3⟩ := hc
  obtain ⟨q1, q2, q3, q4⟩ := G 0 (by decide)
  obtain ⟨r1, r2, r3, r4⟩ := G 2 (by decide)
  have hv := Wb.2.1.2
  have hl := Wb.2.2.1
  rw [qp_AG_FX G, q1, q2, q3, q4] at hs
  refine qp_comp (g := g) (qa_W_8 Wb 2 (by decide)) (fun i hi j hj => (qa_W_v Wb _ (qa_W_b W (s := 1) (by decide) i hi).1 j hj).2) (fun i hi => (qa_W_b W (s := 1) (by decide) i hi).2) (fun v hv => by have := g2 v hv; omega) (fun i hi' ho => ?_) W.2.2.2.2.1 W.2.2.2.2.2.1 e0 e1 hs
  have z := g3 i hi'
  rw [r1, r2, r3, r4] at z
  obtain ⟨i', z1, z2, z3, z4⟩ := z
  have hkv : KK 1 i < vw := ((W.2.2.2.2.2.2 1 (by decide)).2 i hi').1
  refine ⟨i', z1, ?_, z2, z3, z4⟩
  rw [qp_onm (vw := vw) (by rw [z2]; exact hkv) hv hhi, z2]
  exact qp_used hm (by omega) (hU i hi')
theorem qp_1008 {N p nr nq kc ks : Nat} {xs : Nat → Int32} {cs : Nat → Nat} {x7 x15 x20 used hi : Int32} {x11 : Int64} {J315 J971 : _} (W : qa_W rl vw vl 6 h0 h1 cc KK LL RR) (A : qa_A 8 cc KK LL RR ac ak al ar) (G : qp_AG c K L R cc KK LL RR) (hp : p < vl * vl)
    (hC : ∀ m, used &&& (nI m ^^^ (-1)) = 0 → qp_CC c K L R (nI m ||| hi) (p / vl) (p % vl))
    (pp : ∀ lk im le gr, J971 (nI (p + 1)) (nI rl) (nI vw) (nI vl) (nI 6) (nI h0) (nI h1) ac ak al ar lk im le gr) :
    ∀ d m n (lk im le gr : Nat → Int32), m + d = 2 ^ vw → d < n → wL_law_1008 (fun r => r = 1) N xs J315 J971 (nI rl) (nI vw) (nI vl) (nI (vl * vl)) x7 (lN (qp_pk cs nr)) x11 (nI nr) (nI nq) x15 hi used x20 (nI p) kc ks n (nI m) (nI rl) (nI vw) (nI vl) (nI 6) (nI h0) (nI h1) ac ak al ar lk im le gr := by
  have hv := W.2.1.2
  have hl := W.2.2.1
  have h8 := qp_2pow hv
  have hvv : vl * vl ≤ 16 := Nat.mul_le_mul hl.2 hl.2
  have z4 : ¬ nI vl = 0 := nI_ne0 (by omega) (by omega)
  have hd : p / vl < vl := (Nat.div_lt_iff_lt_mul (by omega)).mpr hp
  intro d
  induction d with
  | zero =>
    intro m n lk im le gr hm hn
    obtain ⟨n, rfl⟩ : ∃ m, n = m + 1 := ⟨n - 1, by omega⟩
    exact br_t (by rw [qp_sh vw (by omega)]; exact nI_le (by omega) (by omega)) (nm_r (nI_1 p) (pp lk im le gr))
  | succ d ih =>
    intro m n lk im le gr hm hn
    obtain ⟨n, rfl⟩ : ∃ m, n = m + 1 := ⟨n - 1, by omega⟩
    refine br_f (by rw [qp_sh vw (by omega)]; exact nI_ge (by omega) (by omega)) (br_c (fun hu => ⟨z4, z4, ?_⟩) (fun hu => nm_r (nI_1 m) (ih (m + 1) n lk im le gr (by omega) (by omega))))
    rw [show nI p / nI vl = nI (p / vl) from pk_div (by omega) (by omega) (by omega), show nI p - nI (p / vl) * nI vl = nI (p % vl) from by
      have e := pk_rem (a := p) (d := vl) (by omega) (by omega) (by omega)
      rw [pk_div (by omega) (by omega) (by omega)] at e
      exact e]
    exact qp_cert W A G hd (Nat.mod_lt _ (by omega)) (fun _ lk2 im2 le2 gr2 => br_t rfl (nm_r (nI_1 m) (ih (m + 1) n lk2 im2 le2 gr2 (by omega) (by omega)))) (fun z => absurd (hC m hu) z)
theorem qp_971 {N nr nq kc ks hb0 hb1 : Nat} {xs : Nat → Int32} {cs KQ LQ RQ : Nat → Nat} {x7 x15 used hi : Int32} {x11 : Int64} {J315 : _}
    (Wb : qa_W rl vw vl 6 hb0 hb1 c K L R) (BS : qp_BS vw vl c K L R nr cs nq KQ LQ RQ hi) (W : qa_W rl vw vl 6 h0 h1 cc KK LL RR) (A : qa_A 8 cc KK LL RR ac ak al ar) (G : qp_AG c K L R cc KK LL RR) (hU : ∀ j, j < cc 1 → bt used (KK 1 j) = true)
    (hs : qa_Mt (cc 0) (KK 0) (LL 0) (RR 0) (qa_FX cc KK LL RR (qa_on (-1) (KK 1)) (KK 1) (LL 1) (RR 1) (fun i => 5 + 2 * i) (cc 1)) 21 h0 h1)
    (pp : ∀ (h0 h1 : Nat) (cc : Nat → Nat) (KK LL RR : Nat → Nat → Nat) (ac ak al ar lk im le gr : Nat → Int32), qa_W rl vw vl 6 h0 h1 cc KK LL RR → qa_A 8 cc KK LL RR ac ak al ar → qp_AG c K L R cc KK LL RR → J315 x7 (lN (qp_pk cs nr)) x11 (nI nr) (nI nq) (x15 + 1) (nI rl) (nI vw) (nI vl) (nI 6) (nI h0) (nI h1) ac ak al ar lk im le gr) :
    ∀ d p n (lk im le gr : Nat → Int32), p + d = vl * vl → d < n → wL_law_971 (fun r => r = 1) N xs J315 (nI rl) (nI vw) (nI vl) (nI (vl * vl)) x7 (lN (qp_pk cs nr)) x11 (nI nr) (nI nq) x15 hi used 1 kc ks n (nI p) (nI rl) (nI vw) (nI vl) (nI 6) (nI h0) (nI h1) ac ak al ar lk im le gr := by
  have hl := W.2.2.1
  have hvv : vl * vl ≤ 16 := Nat.mul_le_mul hl.2 hl.2
  have z4 : ¬ nI vl = 0 := nI_ne0 (by omega) (by omega)
  intro d
  induction d with
  | zero =>
    intro p n lk im le gr hp hn
    obtain ⟨n, rfl⟩ : ∃ m, n = m + 1 := ⟨n - 1, by omega⟩
    exact br_f qn_10 (br_t (nI_le (by omega) (by omega)) ⟨vl * vl + 1, qp_1067 Wb BS pp (vl * vl) 0 (vl * vl + 1) h0 h1 cc KK LL RR ac ak al ar lk im le gr (by omega) (by omega) W A G⟩)
  | succ d ih =>
    intro p n lk im le gr hp hn
    obtain ⟨n, rfl⟩ : ∃ m, n = m + 1 := ⟨n - 1, by omega⟩
    have hd : p / vl < vl := (Nat.div_lt_iff_lt_mul (by omega)).mpr (by omega)
    refine br_f qn_10 (br_f (nI_ge (by omega) (by omega)) ⟨z4, z4, ?_⟩)
    rw [show nI p / nI vl = nI (p / vl) from pk_div (by omega) (by omega) (by omega), show nI p - nI (p / vl) * nI vl = nI (p % vl) from by
      have e := pk_rem (a := p) (d := vl) (by omega) (by omega) (by omega)
      rw [pk_div (by omega) (by omega) (by omega)] at e
      exact e]
    refine qx_candidateHas W A hd (Nat.mod_lt _ (by omega)) (fun z lk2 im2 le2 gr2 => br_t rfl ⟨2 ^ vw + 1, ?_⟩) (fun z lk2 im2 le2 gr2 => br_f qn_01 (nm_r (nI_1 p) (ih (p + 1) n lk2 im2 le2 gr2 (by omega) (by omega))))
    exact qp_1008 W A G (by omega) (fun m hm => qp_first Wb W G BS.2.2.2.2.2.2 hU hs z hm) (fun lk im le gr => ih (p + 1) n lk im le gr (by omega) (by omega)) (2 ^ vw) 0 (2 ^ vw + 1) lk2 im2 le2 gr2 (by omega) (by omega)
theorem qx_put_c {post : Int32 → St2 → Prop} {v x y : Nat} (W : qa_W rl vw vl 6 h0 h1 cc KK LL RR) (A : qa_A 8 cc KK LL RR ac ak al ar) (G : qp_AG c K L R cc KK LL RR) (hv : v < vw) (hx : x < 5) (hy : y < 5)
    (pp : ∀ r (c2 : Nat → Nat) (K2 L2 R2 : Nat → Nat → Nat) (ac2 ak2 al2 ar2 : Nat → Int32), qa_W rl vw vl 6 h0 h1 c2 K2 L2 R2 → qa_A 8 c2 K2 L2 R2 ac2 ak2 al2 ar2 → qp_AG c K L R c2 K2 L2 R2 → (∀ j, j < c2 1 → K2 1 j = v ∨ ∃ j', j' < cc 1 ∧ K2 1 j = KK 1 j') → post r (nI rl, nI vw, nI vl, nI 6, nI h0, nI h1, ac2, ak2, al2, ar2, lk, im, le, gr)) :
    wpX_put post (nI rl, nI vw, nI vl, nI 6, nI h0, nI h1, ac, ak, al, ar, lk, im, le, gr) 1 (nI v) (nI x) (nI y) := by
  have old := fun r => pp r cc KK LL RR ac ak al ar W A G (fun j hj => Or.inr ⟨j, hj, rfl⟩)
  refine qx_put (s := 1) W A (by omega) hv hx hy (fun _ _ => old 0) (fun _ _ => old (-2)) (fun _ hr => ?_)
  have h4 : qa_lm 6 1 = 4 := rfl
  refine pp 1 _ _ _ _ _ _ _ _ (qa_W_set (i := cc 1) (by omega) (Or.inr ⟨rfl, rfl⟩) hv hx hy W) (qa_A_set (s := 1) (Or.inl rfl) (qa_W_8 W) (by omega) (by omega) (Or.inr ⟨rfl, rfl⟩) A) (fun s hs => ?_) (fun j hj => ?_)
  · obtain ⟨g1, g2, g3, g4⟩ := G s hs
    refine ⟨by rw [qa_set_n hs]; exact g1, ?_, ?_, ?_⟩
    · rw [← g2]; funext j; exact qa_up2_n (fun q => hs q.1)
    · rw [← g3]; funext j; exact qa_up2_n (fun q => hs q.1)
    · rw [← g4]; funext j; exact qa_up2_n (fun q => hs q.1)
  · rw [qa_set_s] at hj
    by_cases e : j = cc 1
    · subst e; exact Or.inl qa_up2_s
    · exact Or.inr ⟨j, by omega, qa_up2_n (fun q => e q.2)⟩
theorem qp_ren {post : Int32 → Prop} {x e1 e2 : Nat} (hx : x < 5) (h2 : e2 < 5) (pp : ∀ r, r < 5 → post (nI r)) : wpL_ren post () (nI x) (nI e1) (nI e2) := br_c (fun _ => pp e2 h2) (fun _ => pp x hx)
theorem qp_865 {N nr nq kc ks k i v e1 e2 z q : Nat} {xs : Nat → Int32} {cs : Nat → Nat} {x15 used hi : Int32} {x11 : Int64} {J315 J807 : _} (hN : N ≤ 260) (hk : k < 1000) (he1 : e1 < 5) (he2 : e2 < 5) (hq : q < 256) (hz : z < 256)
    (W : qa_W rl vw vl 6 h0 h1 cc KK LL RR) (A : qa_A 8 cc KK LL RR ac ak al ar) (G : qp_AG c K L R cc KK LL RR) (hU : ∀ j, j < cc 1 → bt used (KK 1 j) = true) (hv : v < vw)
    (pp : ∀ (used : Int32) (cc : Nat → Nat) (KK LL RR : Nat → Nat → Nat) (ac ak al ar lk im le gr : Nat → Int32), qa_W rl vw vl 6 h0 h1 cc KK LL RR → qa_A 8 cc KK LL RR ac ak al ar → qp_AG c K L R cc KK LL RR → (∀ j, j < cc 1 → bt used (KK 1 j) = true) → J807 (nI (k + 3)) used (nI (i + 1)) (nI rl) (nI vw) (nI vl) (nI 6) (nI h0) (nI h1) ac ak al ar lk im le gr) :
    wL_law_865 (fun r => r = 1) N xs J315 J807 (nI rl) (nI vw) (nI vl) (nI (vl * vl)) (nI k) (lN (qp_pk cs nr)) x11 (nI nr) (nI nq) x15 hi (nI e1) (nI e2) used (nI i) (nI q) (nI v) (nI z) kc ks (nI rl) (nI vw) (nI vl) (nI 6) (nI h0) (nI h1) ac ak al ar lk im le gr := by
  have hvw := W.2.1.2
  have h5 : ¬ (5 : Int32) = 0 := by decide
  refine ⟨h5, nm_r (e' := nI (z % 5)) (pk_rem (d := 5) (by omega) (by decide) (by decide)) ?_⟩
  rw [show nI k + 2 = nI (k + 2) from nI_add k 2]
  refine qp_pick (n := 5) hN (by omega) (by decide) (by decide) (fun r hr => ?_)
  refine br_c (fun _ => nm_r (nI_add k 3) (nm_r (nI_1 i) (pp used cc KK LL RR ac ak al ar lk im le gr W A G hU))) (fun _ => ⟨h5, h5, ?_⟩)
  rw [show nI q / 5 = nI (q / 5) from pk_div (d := 5) (by omega) (by decide) (by decide), show nI (q / 5) - nI (q / 5) / 5 * 5 = nI (q / 5 % 5) from pk_rem (d := 5) (by omega) (by decide) (by decide)]
  refine qp_ren (Nat.mod_lt _ (by decide)) he2 (fun r1 hr1 => qp_ren (Nat.mod_lt _ (by decide)) he2 (fun r2 hr2 => ?_))
  refine qx_put_c W A G hv hr1 hr2 (fun r c2 K2 L2 R2 ac2 ak2 al2 ar2 W2 A2 G2 hK => nm_e (nm_r (nI_add k 3) (nm_r (nI_1 i) (pp _ c2 K2 L2 R2 ac2 ak2 al2 ar2 lk im le gr W2 A2 G2 (fun j hj => ?_)))))
  rcases hK j hj with e | ⟨j', hj', e⟩
  · rw [e]; exact (qb_or used (by omega) (by omega)).mpr (Or.inr rfl)
  · have hkk := (qa_W_b W (s := 1) (by decide) j' hj').1
    rw [e]; exact (qb_or used (by omega) (by omega)).mpr (Or.inl (hU j' hj'))
theorem qp_807 {N nr nq kc ks e1 e2 hb0 hb1 rd kb : Nat} {xs : Nat → Int32} {cs qs KQ LQ RQ : Nat → Nat} {hi : Int32} {J315 : _} (hN : N ≤ 260) (hkb : kb ≤ 1000) (he1 : e1 < 5) (he2 : e2 < 5) (hqs : ∀ i, i < nq → qs i < 256)
    (Wb : qa_W rl vw vl 6 hb0 hb1 c K L R) (BS : qp_BS vw vl c K L R nr cs nq KQ LQ RQ hi)
    (pp : ∀ (k : Nat) (h0 h1 : Nat) (cc : Nat → Nat) (KK LL RR : Nat → Nat → Nat) (ac ak al ar lk im le gr : Nat → Int32), k < kb → qa_W rl vw vl 6 h0 h1 cc KK LL RR → qa_A 8 cc KK LL RR ac ak al ar → qp_AG c K L R cc KK LL RR → J315 (nI k) (lN (qp_pk cs nr)) (lN (qp_pk qs nq)) (nI nr) (nI nq) (nI rd + 1) (nI rl) (nI vw) (nI vl) (nI 6) (nI h0) (nI h1) ac ak al ar lk im le gr) :
    ∀ d i n k (used : Int32) (h0 h1 : Nat) (cc : Nat → Nat) (KK LL RR : Nat → Nat → Nat) (ac ak al ar lk im le gr : Nat → Int32), i + d = nq → d < n → k + 3 * d < kb → qa_W rl vw vl 6 h0 h1 cc KK LL RR → qa_A 8 cc KK LL RR ac ak al ar → qp_AG c K L R cc KK LL RR → (∀ j, j < cc 1 → bt used (KK 1 j) = true) →
      wL_law_807 (fun r => r = 1) N xs J315 (nI rl) (nI vw) (nI vl) (nI (vl * vl)) (lN (qp_pk cs nr)) (lN (qp_pk qs nq)) (nI nr) (nI nq) (nI rd) hi (nI e1) (nI e2) kc ks n (nI k) used (nI i) (nI rl) (nI vw) (nI vl) (nI 6) (nI h0) (nI h1) ac ak al ar lk im le gr := by
  have hnq := BS.2.1
  have hvw := Wb.2.1
  intro d
  induction d with
  | zero =>
    intro i n k used h0 h1 cc KK LL RR ac ak al ar lk im le gr hi' hn hk W A G hU
    obtain ⟨n, rfl⟩ : ∃ m, n = m + 1 := ⟨n - 1, by omega⟩
    refine br_t (nI_le (by omega) (by omega)) ?_
    refine qp_ren (x := 0) (by decide) he2 (fun r1 hr1 => qp_ren (x := 1) (by decide) he2 (fun r2 hr2 => ?_))
    have W2 := qa_W_head hr1 hr2 W
    refine qx_head hr1 hr2 (qx_sound W2 A (fun z lk2 im2 le2 gr2 => br_t rfl ⟨vl * vl + 1, ?_⟩) (fun z lk2 im2 le2 gr2 => br_f qn_01 ⟨1, br_t rfl ⟨vl * vl + 1, ?_⟩⟩))
    · exact qp_971 Wb BS W2 A G hU z (fun h0 h1 cc KK LL RR ac ak al ar lk im le gr W A G => pp k h0 h1 cc KK LL RR ac ak al ar lk im le gr (by omega) W A G) (vl * vl) 0 (vl * vl + 1) lk2 im2 le2 gr2 (by omega) (by omega)
    · exact qp_1067 Wb BS (fun h0 h1 cc KK LL RR ac ak al ar lk im le gr W A G => pp k h0 h1 cc KK LL RR ac ak al ar lk im le gr (by omega) W A G) (vl * vl) 0 (vl * vl + 1) r1 r2 cc KK LL RR ac ak al ar lk2 im2 le2 gr2 (by omega) (by omega) W2 A G
  | succ d ih =>
    intro i n k used h0 h1 cc KK LL RR ac ak al ar lk im le gr hi' hn hk W A G hU
    obtain ⟨n, rfl⟩ : ∃ m, n = m + 1 := ⟨n - 1, by omega⟩
    have hmod : (i + 1) % nq < nq := Nat.mod_lt _ (by omega)
    have q1 := hqs i (by omega)
    have q2 := hqs _ hmod
    refine br_f (nI_ge (by omega) (by omega)) (qp_at_pk (by omega) hqs (by omega) ⟨nI_ne0 (by omega) (by omega), ?_⟩)
    rw [nI_1 i, nI_1 k, show nI (i + 1) - nI (i + 1) / nI nq * nI nq = nI ((i + 1) % nq) from pk_rem (by omega) (by omega) (by omega)]
    refine qp_at_pk (by omega) hqs hmod (qp_pick hN (by omega) (by omega) (by omega) (fun v hv => ?_))
    have nx : ∀ (used : Int32) (cc : Nat → Nat) (KK LL RR : Nat → Nat → Nat) (ac ak al ar lk im le gr : Nat → Int32), qa_W rl vw vl 6 h0 h1 cc KK LL RR → qa_A 8 cc KK LL RR ac ak al ar → qp_AG c K L R cc KK LL RR → (∀ j, j < cc 1 → bt used (KK 1 j) = true) → wL_law_807 (fun r => r = 1) N xs J315 (nI rl) (nI vw) (nI vl) (nI (vl * vl)) (lN (qp_pk cs nr)) (lN (qp_pk qs nq)) (nI nr) (nI nq) (nI rd) hi (nI e1) (nI e2) kc ks n (nI (k + 3)) used (nI (i + 1)) (nI rl) (nI vw) (nI vl) (nI 6) (nI h0) (nI h1) ac ak al ar lk im le gr :=
      fun used cc KK LL RR ac ak al ar lk im le gr W A G hU => ih (i + 1) n (k + 3) used h0 h1 cc KK LL RR ac ak al ar lk im le gr (by omega) (by omega) (by omega) W A G hU
    refine qp_pick (n := 4) hN (by omega) (by decide) (by decide) (fun r hr => br_c (fun _ => ?_) (fun _ => ?_))
    · exact qp_865 hN (by omega) he1 he2 q1 q2 W A G hU hv nx
    · exact qp_865 hN (by omega) he1 he2 q1 q1 W A G hU hv nx
theorem qp_758 {N nr nq kc ks rd k kb : Nat} {xs : Nat → Int32} {cs qs KQ LQ RQ : Nat → Nat} {hi : Int32} {J315 : _} (hN : N ≤ 260) (hkb : kb ≤ 1000) (hqs : ∀ i, i < nq → qs i < 256) (hk : k + 20 < kb)
    (W : qa_W rl vw vl 6 h0 h1 c K L R) (A : qa_A 8 c K L R ac ak al ar) (BS : qp_BS vw vl c K L R nr cs nq KQ LQ RQ hi)
    (pp : ∀ (k : Nat) (h0 h1 : Nat) (cc : Nat → Nat) (KK LL RR : Nat → Nat → Nat) (ac ak al ar lk im le gr : Nat → Int32), k < kb → qa_W rl vw vl 6 h0 h1 cc KK LL RR → qa_A 8 cc KK LL RR ac ak al ar → qp_AG c K L R cc KK LL RR → J315 (nI k) (lN (qp_pk cs nr)) (lN (qp_pk qs nq)) (nI nr) (nI nq) (nI rd + 1) (nI rl) (nI vw) (nI vl) (nI 6) (nI h0) (nI h1) ac ak al ar lk im le gr) :
    wL_law_758 (fun r => r = 1) N xs J315 (nI rl) (nI vw) (nI vl) (nI (vl * vl)) (nI k) (lN (qp_pk cs nr)) (lN (qp_pk qs nq)) (nI nr) (nI nq) (nI rd) hi kc ks (nI rl) (nI vw) (nI vl) (nI 6) (nI h0) (nI h1) ac ak al ar lk im le gr := by
  have hnq := BS.2.1
  unfold wL_law_758
  refine qx_clear1 W A (c := c) (K := K) (L := L) (R := R) qp_AG_r (fun r cc2 ac2 e1 W2 A2 G2 => ?_)
  refine qp_pick (n := 5) hN (by omega) (by decide) (by decide) (fun e1' he1 => ?_)
  rw [nI_1]
  have H := fun (e2 : Nat) (he2 : e2 < 5) => qp_807 (N := N) (xs := xs) (kc := kc) (ks := ks) (e1 := e1') (e2 := e2) hN hkb he1 he2 hqs W BS pp nq 0 (nq + 1) (k + 2) 0 0 1 cc2 K L R ac2 ak al ar lk im le gr (by omega) (by omega) (by omega) W2 A2 G2 (fun j hj => absurd hj (by omega))
  refine qp_pick (n := 10) hN (by omega) (by decide) (by decide) (fun e2 he2 => pk_le e2 4 (fun h => nm_r (nI_add k 2) ⟨nq + 1, H e2 (by omega)⟩) (fun h => nm_r (nI_add k 2) ⟨nq + 1, H e1' he1⟩))
/-! reading back -/
theorem qx_has {post : Int32 → Prop} {s k x y : Nat} (W : qa_W rl vw vl 6 h0 h1 c K L R) (A : qa_A 8 c K L R ac ak al ar) (hs : s < 3 + vw) (hk : k < qa_kd rl vw s) (hx : x < qa_tm vl s) (hy : y < qa_tm vl s)
    (p1 : qa_In (c s) (K s) (L s) (R s) k x y → post 1) (p0 : ¬ qa_In (c s) (K s) (L s) (R s) k x y → post 0) : wpX_has post (nI rl, nI vw, nI vl, nI 6, nI h0, nI h1, ac, ak, al, ar, lk, im, le, gr) (nI s) (nI k) (nI x) (nI y) := by
  have hv := W.2.1.2
  have hs6 : s < 6 := by omega
  have h8 := qa_W_c W hs6
  have hk3 := qa_kd_le (s := s) W.1.2 W.2.1.2
  have ht5 := qa_tm_le (s := s) W.2.2.1.2
  unfold wpX_has
  refine qx_triT W hs hk hx hy (br_f qn_10 ?_)
  refine qx_place A hs6 h8 (qa_W_100 W hs6) (by omega) (by omega) (by omega) (fun i hi => br_f (qn_m1 ?_) (p1 (qa_in_fd hi))) (fun hn => br_t rfl (p0 (qa_fd_nin hn)))
  have := (qa_fd_some _ _ _ hi).2.1
  omega
theorem qp_hi : ∀ w, w < 4 → ∀ v, v < w → bt (-((1 : Int32) <<< (nI w &&& 31))) v = false := by decide +kernel
theorem qp_682 {N nr kc ks rd k kb : Nat} {xs : Nat → Int32} {cs : Nat → Nat} {J315 : _} (hN : N ≤ 260) (hkb : kb ≤ 1000) (hk : k + 20 < kb) (hrd : rd < 2)
    (W : qa_W rl vw vl 6 h0 h1 c K L R) (A : qa_A 8 c K L R ac ak al ar) (hnr : nr ≤ 6) (hcs : ∀ i, i < nr → cs i < 256 ∧ cs i / (vl * vl) < vw) (hinj : ∀ i j, i < nr → j < nr → cs i = cs j → i = j)
    (hrow : ∀ k x y, qa_In (c 2) (K 2) (L 2) (R 2) k x y ↔ qa_In nr (fun i => cs i / (vl * vl)) (fun i => cs i / vl % vl) (fun i => cs i % vl) k x y)
    (pp : ∀ (k nq : Nat) (x11 : Int64) (h0 h1 : Nat) (cc : Nat → Nat) (KK LL RR : Nat → Nat → Nat) (ac ak al ar lk im le gr : Nat → Int32), k < kb → nq ≤ 4 → qa_W rl vw vl 6 h0 h1 cc KK LL RR → qa_A 8 cc KK LL RR ac ak al ar → J315 (nI k) (lN (qp_pk cs nr)) x11 (nI nr) (nI nq) (nI rd + 1) (nI rl) (nI vw) (nI vl) (nI 6) (nI h0) (nI h1) ac ak al ar lk im le gr) :
    ∀ d code n nq (qs : Nat → Nat), code + d = rl * (5 * 5) → d < n → qp_RB (c 0) (K 0) (L 0) (R 0) 5 code nq qs →
      wL_law_682 (fun r => r = 1) N xs J315 (nI rl) (nI vw) (nI vl) (nI (vl * vl)) (nI k) (lN (qp_pk cs nr)) (nI nr) (nI rd) kc ks (nI rl) (nI vw) (nI vl) (nI 6) (nI h0) (nI h1) ac ak al ar lk im le gr n (lN (qp_pk qs nq)) (nI nq) (nI code) := by
  have hr := W.1.2
  have hv := W.2.1.2
  have hc0 : c 0 ≤ 4 := (W.2.2.2.2.2.2 0 (by decide)).1
  have h25 : rl * (5 * 5) ≤ 75 := by omega
  have e25 : nI rl * 25 = nI (rl * (5 * 5)) := pk_mul rl 25
  have z25 : ¬ (25 : Int32) = 0 := by decide
  have z5 : ¬ (5 : Int32) = 0 := by decide
  intro d
  induction d with
  | zero =>
    intro code n nq qs hc hn RB
    obtain ⟨n, rfl⟩ : ∃ m, n = m + 1 := ⟨n - 1, by omega⟩
    have e : code = rl * (5 * 5) := by omega
    subst e
    have hnq := qp_RB_le RB
    have hqs : ∀ i, i < nq → qs i < 256 := fun i hi => by have := RB.1 i hi; omega
    have hq := qp_RB_end (M := rl) (fun j hj => (W.2.2.2.2.2.2 0 (by decide)).2 j hj) RB
    have BS : ∀ hi, (∀ v, v < vw → bt hi v = false) → qp_BS vw vl c K L R nr cs nq (fun i => qs i / (5 * 5)) (fun i => qs i / 5 % 5) (fun i => qs i % 5) hi := fun hi hh => ⟨hnr, by omega, hcs, hinj, hrow, hq, hh⟩
    refine br_t (by rw [e25]; exact nI_le (by omega) (by omega)) (br_c (fun _ => ?_) (fun _ => ?_))
    · exact qp_758 hN hkb hqs hk W A (BS 0 (fun v _ => b_0 v)) (fun k h0 h1 cc KK LL RR ac ak al ar lk im le gr hk W A _ => pp k nq _ h0 h1 cc KK LL RR ac ak al ar lk im le gr hk (by omega) W A)
    · exact qp_758 hN hkb hqs hk W A (BS _ (fun v hv' => qp_hi vw (by omega) v hv')) (fun k h0 h1 cc KK LL RR ac ak al ar lk im le gr hk W A _ => pp k nq _ h0 h1 cc KK LL RR ac ak al ar lk im le gr hk (by omega) W A)
  | succ d ih =>
    intro code n nq qs hc hn RB
    obtain ⟨n, rfl⟩ : ∃ m, n = m + 1 := ⟨n - 1, by omega⟩
    have hnq := qp_RB_le RB
    have hqs : ∀ i, i < nq → qs i < 256 := fun i hi => by have := RB.1 i hi; omega
    refine br_f (by rw [e25]; exact nI_ge (by omega) (by omega)) (pk_le 4 nq (fun h => nm_r (nI_1 code) (ih (code + 1) n nq qs (by omega) (by omega) (qp_RB_n (qp_RB_full RB (by omega)) RB))) (fun h => ⟨z25, z5, z5, z5, ?_⟩))
    rw [show nI code / 25 = nI (code / (5 * 5)) from pk_div (d := 25) (by omega) (by decide) (by decide), show nI code - nI code / 5 * 5 = nI (code % 5) from pk_rem (d := 5) (by omega) (by decide) (by decide),
      show nI code / 5 = nI (code / 5) from pk_div (d := 5) (by omega) (by decide) (by decide), show nI (code / 5) - nI (code / 5) / 5 * 5 = nI (code / 5 % 5) from pk_rem (d := 5) (by omega) (by decide) (by decide)]
    refine qx_has (s := 0) W A (by omega) (show code / (5 * 5) < rl by omega) (show code / 5 % 5 < 5 by omega) (show code % 5 < 5 by omega) (fun z => br_t rfl (nm_r (qp_pk_or (by omega) hqs (by omega)) (nm_r (nI_1 nq) (nm_r (nI_1 code) (ih (code + 1) n (nq + 1) _ (by omega) (by omega) (qp_RB_y z RB)))))) (fun z => br_f qn_01 (nm_r (nI_1 code) (ih (code + 1) n nq qs (by omega) (by omega) (qp_RB_n z RB))))
theorem qp_612 {N kc ks rd k kb : Nat} {xs : Nat → Int32} {J315 : _} (hN : N ≤ 260) (hkb : kb ≤ 1000) (hk : k + 20 < kb) (hrd : rd < 2)
    (W : qa_W rl vw vl 6 h0 h1 c K L R) (A : qa_A 8 c K L R ac ak al ar)
    (pp : ∀ (k nr nq : Nat) (x9 x11 : Int64) (h0 h1 : Nat) (cc : Nat → Nat) (KK LL RR : Nat → Nat → Nat) (ac ak al ar lk im le gr : Nat → Int32), k < kb → nr ≤ 6 → nq ≤ 4 → qa_W rl vw vl 6 h0 h1 cc KK LL RR → qa_A 8 cc KK LL RR ac ak al ar → J315 (nI k) x9 x11 (nI nr) (nI nq) (nI rd + 1) (nI rl) (nI vw) (nI vl) (nI 6) (nI h0) (nI h1) ac ak al ar lk im le gr) :
    ∀ d code n nr (cs : Nat → Nat), code + d = vw * (vl * vl) → d < n → qp_RB (c 2) (K 2) (L 2) (R 2) vl code nr cs →
      wL_law_612 (fun r => r = 1) N xs J315 (nI rl) (nI vw) (nI vl) (nI (vl * vl)) (nI k) 0 0 (nI rd) kc ks (nI rl) (nI vw) (nI vl) (nI 6) (nI h0) (nI h1) ac ak al ar lk im le gr n (lN (qp_pk cs nr)) (nI nr) (nI code) := by
  have hr := W.1
  have hv := W.2.1.2
  have hl := W.2.2.1
  have hvv : vl * vl ≤ 16 := Nat.mul_le_mul hl.2 hl.2
  have hv1 : 0 < vl * vl := Nat.mul_pos (by omega) (by omega)
  have h48 : vw * (vl * vl) ≤ 48 := Nat.mul_le_mul hv hvv
  have z5 : ¬ nI (vl * vl) = 0 := nI_ne0 hv1 (by omega)
  have z4 : ¬ nI vl = 0 := nI_ne0 (by omega) (by omega)
  have hc2 : c 2 ≤ 6 := (W.2.2.2.2.2.2 2 (by decide)).1
  have ee : nI vw * nI (vl * vl) = nI (vw * (vl * vl)) := pk_mul _ _
  have hdv : ∀ code, code < vw * (vl * vl) → code / (vl * vl) < vw := fun code h => (Nat.div_lt_iff_lt_mul hv1).mpr h
  intro d
  induction d with
  | zero =>
    intro code n nr cs hc hn RB
    obtain ⟨n, rfl⟩ : ∃ m, n = m + 1 := ⟨n - 1, by omega⟩
    have e : code = vw * (vl * vl) := by omega
    subst e
    have hnr := qp_RB_le RB
    refine br_t (by rw [ee]; exact nI_le (by omega) (by omega)) ⟨rl * (5 * 5) + 1, ?_⟩
    exact qp_682 hN hkb hk hrd W A (by omega) (fun i hi => ⟨by have := RB.1 i hi; omega, hdv _ (RB.1 i hi)⟩) (qp_RB_inj RB) (qp_RB_end (M := vw) (fun j hj => (W.2.2.2.2.2.2 2 (by decide)).2 j hj) RB) (fun k nq x11 h0 h1 cc KK LL RR ac ak al ar lk im le gr hk hq W A => pp k nr nq _ x11 h0 h1 cc KK LL RR ac ak al ar lk im le gr hk (by omega) hq W A) (rl * (5 * 5)) 0 (rl * (5 * 5) + 1) 0 (fun _ => 0) (by omega) (by omega) qp_RB_0
  | succ d ih =>
    intro code n nr cs hc hn RB
    obtain ⟨n, rfl⟩ : ∃ m, n = m + 1 := ⟨n - 1, by omega⟩
    have hnr := qp_RB_le RB
    have hcs : ∀ i, i < nr → cs i < 256 := fun i hi => by have := RB.1 i hi; omega
    refine br_f (by rw [ee]; exact nI_ge (by omega) (by omega)) (pk_le 6 nr (fun h => nm_r (nI_1 code) (ih (code + 1) n nr cs (by omega) (by omega) (qp_RB_n (qp_RB_full RB (by omega)) RB))) (fun h => ⟨z5, z4, z4, z4, ?_⟩))
    rw [show nI code / nI (vl * vl) = nI (code / (vl * vl)) from pk_div (by omega) hv1 (by omega), show nI code - nI code / nI vl * nI vl = nI (code % vl) from pk_rem (by omega) (by omega) (by omega),
      show nI code / nI vl = nI (code / vl) from pk_div (by omega) (by omega) (by omega), show nI (code / vl) - nI (code / vl) / nI vl * nI vl = nI (code / vl % vl) from pk_rem (Nat.lt_of_le_of_lt (Nat.div_le_self _ _) (by omega)) (by omega) (by omega)]
    refine qx_has (s := 2) W A (by omega) (show code / (vl * vl) < vw from hdv code (by omega)) (show code / vl % vl < vl from Nat.mod_lt _ (by omega)) (show code % vl < vl from Nat.mod_lt _ (by omega)) (fun z => br_t rfl (nm_r (qp_pk_or (by omega) hcs (by omega)) (nm_r (nI_1 nr) (nm_r (nI_1 code) (ih (code + 1) n (nr + 1) _ (by omega) (by omega) (qp_RB_y z RB)))))) (fun z => br_f qn_01 (nm_r (nI_1 code) (ih (code + 1) n nr cs (by omega) (by omega) (qp_RB_n z RB))))
end
end
section
/-! the rounds, the building of the object, the law -/
section
variable {rl vw vl h0 h1 : Nat} {c : Nat → Nat} {K L R : Nat → Nat → Nat} {ac ak al ar lk im le gr : Nat → Int32}
theorem qx_put_any {post : Int32 → St2 → Prop} {s k x y : Int32} (W : qa_W rl vw vl 6 h0 h1 c K L R) (A : qa_A 8 c K L R ac ak al ar)
    (pp : ∀ r (c2 : Nat → Nat) (K2 L2 R2 : Nat → Nat → Nat) (ac2 ak2 al2 ar2 : Nat → Int32), qa_W rl vw vl 6 h0 h1 c2 K2 L2 R2 → qa_A 8 c2 K2 L2 R2 ac2 ak2 al2 ar2 → post r (nI rl, nI vw, nI vl, nI 6, nI h0, nI h1, ac2, ak2, al2, ar2, lk, im, le, gr)) :
    wpX_put post (nI rl, nI vw, nI vl, nI 6, nI h0, nI h1, ac, ak, al, ar, lk, im, le, gr) s k x y := by
  by_cases hT : qa_T rl vw vl s k x y
  · obtain ⟨s, k, x, y, rfl, rfl, rfl, rfl, hs, hk, hx, hy⟩ := hT
    have hv := W.2.1.2
    have hl8 := qa_lm_le (s := s) W.2.2.2.1.2
    refine qx_put W A hs hk hx hy (fun _ _ => pp _ c K L R ac ak al ar W A) (fun _ _ => pp _ c K L R ac ak al ar W A) (fun _ hf => ?_)
    exact pp _ _ _ _ _ _ _ _ _ (qa_W_set (i := c s) (by omega) (Or.inr ⟨rfl, rfl⟩) hk hx hy W) (qa_A_set (Or.inl rfl) (qa_W_8 W) (by omega) (by omega) (Or.inr ⟨rfl, rfl⟩) A)
  · unfold wpX_put
    exact qx_triF W hT (br_t rfl (pp _ c K L R ac ak al ar W A))
theorem qx_drop_any {post : Int32 → St2 → Prop} {s k x y : Int32} (W : qa_W rl vw vl 6 h0 h1 c K L R) (A : qa_A 8 c K L R ac ak al ar)
    (pp : ∀ r (c2 : Nat → Nat) (K2 L2 R2 : Nat → Nat → Nat) (ac2 ak2 al2 ar2 : Nat → Int32), qa_W rl vw vl 6 h0 h1 c2 K2 L2 R2 → qa_A 8 c2 K2 L2 R2 ac2 ak2 al2 ar2 → post r (nI rl, nI vw, nI vl, nI 6, nI h0, nI h1, ac2, ak2, al2, ar2, lk, im, le, gr)) :
    wpX_drop post (nI rl, nI vw, nI vl, nI 6, nI h0, nI h1, ac, ak, al, ar, lk, im, le, gr) s k x y := by
  by_cases hT : qa_T rl vw vl s k x y
  · obtain ⟨s, k, x, y, rfl, rfl, rfl, rfl, hs, hk, hx, hy⟩ := hT
    have hv := W.2.1.2
    have hs6 : s < 6 := by omega
    have h8 := qa_W_8 W s hs6
    refine qx_drop W A hs hk hx hy (fun _ => pp _ c K L R ac ak al ar W A) (fun i hi hic => ?_)
    obtain ⟨z1, z2⟩ := W.2.2.2.2.2.2 s hs6
    obtain ⟨q1, q2, q3⟩ := z2 (c s - 1) (by omega)
    exact pp _ _ _ _ _ _ _ _ _ (qa_W_set (i := i) (by omega) (Or.inl (by omega)) q1 q2 q3 W) (qa_A_set (Or.inl rfl) (qa_W_8 W) (by omega) (by omega) (Or.inl (by omega)) A)
  · unfold wpX_drop
    exact qx_triF W hT (br_t rfl (pp _ c K L R ac ak al ar W A))
theorem qp_597 {N kc ks rd k kb : Nat} {xs : Nat → Int32} {J315 : _} (hN : N ≤ 260) (hkb : kb ≤ 1000) (hk : k + 20 < kb) (hrd : rd < 2)
    (W : qa_W rl vw vl 6 h0 h1 c K L R) (A : qa_A 8 c K L R ac ak al ar)
    (pp : ∀ (k nr nq : Nat) (x9 x11 : Int64) (h0 h1 : Nat) (cc : Nat → Nat) (KK LL RR : Nat → Nat → Nat) (ac ak al ar lk im le gr : Nat → Int32), k < kb → nr ≤ 6 → nq ≤ 4 → qa_W rl vw vl 6 h0 h1 cc KK LL RR → qa_A 8 cc KK LL RR ac ak al ar → J315 (nI k) x9 x11 (nI nr) (nI nq) (nI rd + 1) (nI rl) (nI vw) (nI vl) (nI 6) (nI h0) (nI h1) ac ak al ar lk im le gr) :
    wL_law_597 (fun r => r = 1) N xs J315 (nI rl) (nI vw) (nI vl) (nI (vl * vl)) (nI k) (nI rd) kc ks (nI rl) (nI vw) (nI vl) (nI 6) (nI h0) (nI h1) ac ak al ar lk im le gr :=
  ⟨vw * (vl * vl) + 1, qp_612 hN hkb hk hrd W A pp (vw * (vl * vl)) 0 (vw * (vl * vl) + 1) 0 (fun _ => 0) (by omega) (by omega) qp_RB_0⟩
theorem qp_514 {N kc ks rd k kb : Nat} {xs : Nat → Int32} {J315 : _} (hN : N ≤ 260) (hkb : kb ≤ 1000) (hk : k + 40 < kb) (hrd : rd < 2)
    (W : qa_W rl vw vl 6 h0 h1 c K L R) (A : qa_A 8 c K L R ac ak al ar)
    (pp : ∀ (k nr nq : Nat) (x9 x11 : Int64) (h0 h1 : Nat) (cc : Nat → Nat) (KK LL RR : Nat → Nat → Nat) (ac ak al ar lk im le gr : Nat → Int32), k < kb → nr ≤ 6 → nq ≤ 4 → qa_W rl vw vl 6 h0 h1 cc KK LL RR → qa_A 8 cc KK LL RR ac ak al ar → J315 (nI k) x9 x11 (nI nr) (nI nq) (nI rd + 1) (nI rl) (nI vw) (nI vl) (nI 6) (nI h0) (nI h1) ac ak al ar lk im le gr) :
    wL_law_514 (fun r => r = 1) N xs J315 (nI rl) (nI vw) (nI vl) (nI (vl * vl)) (nI k) (nI rd) kc ks (nI rl) (nI vw) (nI vl) (nI 6) (nI h0) (nI h1) ac ak al ar lk im le gr := by
  have hr := W.1
  have hv := W.2.1
  unfold wL_law_514
  rw [show nI k + 10 = nI (k + 10) from nI_add k 10, show nI k + 11 = nI (k + 11) from nI_add k 11, show nI k + 12 = nI (k + 12) from nI_add k 12, show nI k + 13 = nI (k + 13) from nI_add k 13]
  have fin : ∀ (c2 : Nat → Nat) (K2 L2 R2 : Nat → Nat → Nat) (ac2 ak2 al2 ar2 : Nat → Int32), qa_W rl vw vl 6 h0 h1 c2 K2 L2 R2 → qa_A 8 c2 K2 L2 R2 ac2 ak2 al2 ar2 → wL_law_594 (fun r => r = 1) N xs J315 (nI rl) (nI vw) (nI vl) (nI (vl * vl)) (nI k) (nI rd) kc ks (nI rl) (nI vw) (nI vl) (nI 6) (nI h0) (nI h1) ac2 ak2 al2 ar2 lk im le gr := fun c2 K2 L2 R2 ac2 ak2 al2 ar2 W2 A2 =>
    nm_r (nI_add k 14) (qp_597 hN hkb (by omega) hrd W2 A2 pp)
  refine qp_pick hN (by omega) (by omega) (by omega) (fun r1 _ => nm_e (qp_pick hN (by omega) (by omega) (by omega) (fun r2 _ => qp_pick (n := 4) hN (by omega) (by decide) (by decide) (fun r3 _ => qp_pick (n := 4) hN (by omega) (by decide) (by decide) (fun r4 _ => ?_)))))
  refine qx_put_any W A (fun r c2 K2 L2 R2 ac2 ak2 al2 ar2 W2 A2 => br_c (fun _ => ?_) (fun _ => fin c2 K2 L2 R2 ac2 ak2 al2 ar2 W2 A2))
  exact qx_drop_any W2 A2 (fun r c3 K3 L3 R3 ac3 ak3 al3 ar3 W3 A3 => fin c3 K3 L3 R3 ac3 ak3 al3 ar3 W3 A3)
theorem qp_464 {N kc ks rd k kb : Nat} {xs : Nat → Int32} {J315 : _} (hN : N ≤ 260) (hkb : kb ≤ 1000) (hk : k + 40 < kb) (hrd : rd < 2)
    (W : qa_W rl vw vl 6 h0 h1 c K L R) (A : qa_A 8 c K L R ac ak al ar)
    (pp : ∀ (k nr nq : Nat) (x9 x11 : Int64) (h0 h1 : Nat) (cc : Nat → Nat) (KK LL RR : Nat → Nat → Nat) (ac ak al ar lk im le gr : Nat → Int32), k < kb → nr ≤ 6 → nq ≤ 4 → qa_W rl vw vl 6 h0 h1 cc KK LL RR → qa_A 8 cc KK LL RR ac ak al ar → J315 (nI k) x9 x11 (nI nr) (nI nq) (nI rd + 1) (nI rl) (nI vw) (nI vl) (nI 6) (nI h0) (nI h1) ac ak al ar lk im le gr) :
    wL_law_464 (fun r => r = 1) N xs J315 (nI rl) (nI vw) (nI vl) (nI (vl * vl)) (nI k) (nI rd) kc ks (nI rl) (nI vw) (nI vl) (nI 6) (nI h0) (nI h1) ac ak al ar lk im le gr := by
  have hr := W.1
  unfold wL_law_464
  rw [show nI k + 6 = nI (k + 6) from nI_add k 6, show nI k + 7 = nI (k + 7) from nI_add k 7, show nI k + 8 = nI (k + 8) from nI_add k 8, show nI k + 9 = nI (k + 9) from nI_add k 9]
  refine qp_pick (n := 2) hN (by omega) (by decide) (by decide) (fun r1 _ => br_c (fun _ => ?_) (fun _ => qp_514 hN hkb hk hrd W A pp))
  refine qp_pick hN (by omega) (by omega) (by omega) (fun r2 _ => qp_pick (n := 5) hN (by omega) (by decide) (by decide) (fun r3 _ => qp_pick (n := 5) hN (by omega) (by decide) (by decide) (fun r4 _ => ?_)))
  exact qx_put_any W A (fun r c2 K2 L2 R2 ac2 ak2 al2 ar2 W2 A2 => qp_514 hN hkb hk hrd W2 A2 pp)
theorem qp_372 {N kc ks rd k nq kb : Nat} {xs : Nat → Int32} {x11 : Int64} {J315 : _} (hN : N ≤ 260) (hkb : kb ≤ 1000) (hk : k + 40 < kb) (hrd : rd < 2) (hnq : nq ≤ 4)
    (W : qa_W rl vw vl 6 h0 h1 c K L R) (A : qa_A 8 c K L R ac ak al ar)
    (pp : ∀ (k nr nq : Nat) (x9 x11 : Int64) (h0 h1 : Nat) (cc : Nat → Nat) (KK LL RR : Nat → Nat → Nat) (ac ak al ar lk im le gr : Nat → Int32), k < kb → nr ≤ 6 → nq ≤ 4 → qa_W rl vw vl 6 h0 h1 cc KK LL RR → qa_A 8 cc KK LL RR ac ak al ar → J315 (nI k) x9 x11 (nI nr) (nI nq) (nI rd + 1) (nI rl) (nI vw) (nI vl) (nI 6) (nI h0) (nI h1) ac ak al ar lk im le gr) :
    wL_law_372 (fun r => r = 1) N xs J315 (nI rl) (nI vw) (nI vl) (nI (vl * vl)) (nI k) x11 (nI nq) (nI rd) kc ks (nI rl) (nI vw) (nI vl) (nI 6) (nI h0) (nI h1) ac ak al ar lk im le gr := by
  have hr := W.1
  have hv := W.2.1
  have hl := W.2.2.1
  have z25 : ¬ (25 : Int32) = 0 := by decide
  have z5 : ¬ (5 : Int32) = 0 := by decide
  unfold wL_law_372
  rw [nI_1 k, show nI k + 2 = nI (k + 2) from nI_add k 2, show nI k + 3 = nI (k + 3) from nI_add k 3, show nI k + 4 = nI (k + 4) from nI_add k 4, show nI k + 5 = nI (k + 5) from nI_add k 5]
  refine qp_pick hN (by omega) (by omega) (by omega) (fun r1 _ => qp_pick hN (by omega) (by omega) (by omega) (fun r2 _ => qp_pick hN (by omega) (by omega) (by omega) (fun r3 _ => ?_)))
  refine qx_put_any W A (fun r c2 K2 L2 R2 ac2 ak2 al2 ar2 W2 A2 => pk_le nq 0 (fun h => qp_464 hN hkb hk hrd W2 A2 pp) (fun h => ?_))
  refine qp_pick (n := 2) hN (by omega) (by decide) (by decide) (fun r4 _ => br_c (fun _ => ?_) (fun _ => qp_464 hN hkb hk hrd W2 A2 pp))
  refine qp_pick hN (by omega) h (by omega) (fun r5 _ => qp_at_any (fun z => ⟨z25, z5, z5, z5, ?_⟩))
  exact qx_drop_any W2 A2 (fun r c3 K3 L3 R3 ac3 ak3 al3 ar3 W3 A3 => qp_464 hN hkb hk hrd W3 A3 pp)
theorem qp_315 {N kc ks k n : Nat} {xs : Nat → Int32} {x9 x11 : Int64} (hN : N ≤ 260) (hk : k < 600) (W : qa_W rl vw vl 6 h0 h1 c K L R) (A : qa_A 8 c K L R ac ak al ar) :
    wL_law_315 (fun r => r = 1) N xs (nI rl) (nI vw) (nI vl) (nI (vl * vl)) kc ks (n + 3) (nI k) x9 x11 0 0 0 (nI rl) (nI vw) (nI vl) (nI 6) (nI h0) (nI h1) ac ak al ar lk im le gr := by
  have hl := W.2.2.1
  have hvv : vl * vl ≤ 16 := Nat.mul_le_mul hl.2 hl.2
  have hv1 : 0 < vl * vl := Nat.mul_pos (by omega) (by omega)
  have z5 : ¬ nI (vl * vl) = 0 := nI_ne0 hv1 (by omega)
  have z4 : ¬ nI vl = 0 := nI_ne0 (by omega) (by omega)
  have R2 : ∀ (k nr nq : Nat) (x9 x11 : Int64) (h0 h1 : Nat) (cc : Nat → Nat) (KK LL RR : Nat → Nat → Nat) (ac ak al ar lk im le gr : Nat → Int32), k < 1000 → nr ≤ 6 → nq ≤ 4 → qa_W rl vw vl 6 h0 h1 cc KK LL RR → qa_A 8 cc KK LL RR ac ak al ar → wL_law_315 (fun r => r = 1) N xs (nI rl) (nI vw) (nI vl) (nI (vl * vl)) kc ks (n + 1) (nI k) x9 x11 (nI nr) (nI nq) (nI 1 + 1) (nI rl) (nI vw) (nI vl) (nI 6) (nI h0) (nI h1) ac ak al ar lk im le gr :=
    fun k nr nq x9 x11 h0 h1 cc KK LL RR ac ak al ar lk im le gr _ _ _ _ _ => br_t (by decide) rfl
  have R1 : ∀ (k nr nq : Nat) (x9 x11 : Int64) (h0 h1 : Nat) (cc : Nat → Nat) (KK LL RR : Nat → Nat → Nat) (ac ak al ar lk im le gr : Nat → Int32), k < 700 → nr ≤ 6 → nq ≤ 4 → qa_W rl vw vl 6 h0 h1 cc KK LL RR → qa_A 8 cc KK LL RR ac ak al ar → wL_law_315 (fun r => r = 1) N xs (nI rl) (nI vw) (nI vl) (nI (vl * vl)) kc ks (n + 2) (nI k) x9 x11 (nI nr) (nI nq) (nI 0 + 1) (nI rl) (nI vw) (nI vl) (nI 6) (nI h0) (nI h1) ac ak al ar lk im le gr := by
    intro k nr nq x9 x11 h0 h1 cc KK LL RR ac ak al ar lk im le gr hk7 hnr hnq W A
    refine br_f (by decide) (br_t (by decide) (pk_le nr 0 (fun h => ?_) (fun h => ?_)))
    · exact qp_372 (rd := 1) (kb := 1000) hN (by decide) (by omega) (by decide) hnq W A R2
    · refine qp_pick hN (by omega) h (by omega) (fun r5 _ => qp_at_any (fun z => ⟨z5, z4, z4, z4, ?_⟩))
      exact qx_drop_any W A (fun r c3 K3 L3 R3 ac3 ak3 al3 ar3 W3 A3 => qp_372 (rd := 1) (kb := 1000) hN (by decide) (by omega) (by decide) hnq W3 A3 R2)
  refine br_f (by decide) (br_f (by decide) ?_)
  exact qp_597 (rd := 0) (kb := 700) hN (by decide) (by omega) (by decide) W A R1
/-! the building -/
theorem qp_250 {N kc ks m : Nat} {xs : Nat → Int32} (hN : N ≤ 260) (hm : m ≤ 6) :
    ∀ d i n k (c : Nat → Nat) (K L R : Nat → Nat → Nat) (ac ak al ar lk im le gr : Nat → Int32), i + d = m → d < n → k + 3 * d < 500 → qa_W rl vw vl 6 h0 h1 c K L R → qa_A 8 c K L R ac ak al ar →
      wL_law_250 (fun r => r = 1) N xs (nI rl) (nI vw) (nI vl) (nI (vl * vl)) (nI m) kc ks n (nI k) (nI i) (nI rl) (nI vw) (nI vl) (nI 6) (nI h0) (nI h1) ac ak al ar lk im le gr := by
  intro d
  induction d with
  | zero =>
    intro i n k c K L R ac ak al ar lk im le gr hi hn hk W A
    obtain ⟨n, rfl⟩ : ∃ m, n = m + 1 := ⟨n - 1, by omega⟩
    exact br_t (nI_le (by omega) (by omega)) ⟨3, qp_315 (n := 0) hN (by omega) W A⟩
  | succ d ih =>
    intro i n k c K L R ac ak al ar lk im le gr hi hn hk W A
    obtain ⟨n, rfl⟩ : ∃ m, n = m + 1 := ⟨n - 1, by omega⟩
    have hv := W.2.1
    have hl := W.2.2.1
    refine br_f (nI_ge (by omega) (by omega)) ?_
    rw [nI_1 k, show nI k + 2 = nI (k + 2) from nI_add k 2]
    refine qp_pick hN (by omega) (by omega) (by omega) (fun r1 _ => qp_pick hN (by omega) (by omega) (by omega) (fun r2 _ => qp_pick hN (by omega) (by omega) (by omega) (fun r3 _ => ?_)))
    exact qx_put_any W A (fun r c2 K2 L2 R2 ac2 ak2 al2 ar2 W2 A2 => nm_r (nI_add k 3) (nm_r (nI_1 i) (ih (i + 1) n (k + 3) c2 K2 L2 R2 ac2 ak2 al2 ar2 lk im le gr (by omega) (by omega) (by omega) W2 A2)))
theorem qp_193 {N kc ks k i : Nat} {xs : Nat → Int32} {x8 x9 x10 x11 x12 x14 z0 : Int32} {J58 J136 : _} (hN : N ≤ 260) (hk : k < 900) (W : qa_W rl vw vl 6 h0 h1 c K L R) (A : qa_A 8 c K L R ac ak al ar)
    (pp : ∀ (c : Nat → Nat) (K L R : Nat → Nat → Nat) (ac ak al ar : Nat → Int32), qa_W rl vw vl 6 h0 h1 c K L R → qa_A 8 c K L R ac ak al ar → J136 (nI (k + 3)) (nI (i + 1)) (nI rl) (nI vw) (nI vl) (nI 6) (nI h0) (nI h1) ac ak al ar lk im le gr) :
    wL_law_193 (fun r => r = 1) N xs J58 J136 (nI rl) (nI vw) (nI vl) (nI (vl * vl)) (nI k) x8 x9 x10 x11 x12 (nI i) x14 z0 kc ks (nI rl) (nI vw) (nI vl) (nI 6) (nI h0) (nI h1) ac ak al ar lk im le gr := by
  have hr := W.1
  unfold wL_law_193
  rw [nI_1 rl]
  refine qp_pick hN (by omega) (by omega) (by omega) (fun r1 _ => ⟨nI_ne0 (by omega) (by omega), ?_⟩)
  exact qx_put_any W A (fun r c2 K2 L2 R2 ac2 ak2 al2 ar2 W2 A2 => nm_r (nI_add k 3) (nm_r (nI_1 i) (pp c2 K2 L2 R2 ac2 ak2 al2 ar2 W2 A2)))
theorem qp_166 {N kc ks k i rg : Nat} {xs : Nat → Int32} {x8 x9 x11 x12 z0 : Int32} {J58 J136 : _} (hN : N ≤ 260) (hk : k < 900) (hrg : 0 < rg) (hrg2 : rg < 10) (W : qa_W rl vw vl 6 h0 h1 c K L R) (A : qa_A 8 c K L R ac ak al ar)
    (pp : ∀ (c : Nat → Nat) (K L R : Nat → Nat → Nat) (ac ak al ar : Nat → Int32), qa_W rl vw vl 6 h0 h1 c K L R → qa_A 8 c K L R ac ak al ar → J136 (nI (k + 3)) (nI (i + 1)) (nI rl) (nI vw) (nI vl) (nI 6) (nI h0) (nI h1) ac ak al ar lk im le gr) :
    wL_law_166 (fun r => r = 1) N xs J58 J136 (nI rl) (nI vw) (nI vl) (nI (vl * vl)) (nI k) x8 x9 (nI rg) x11 x12 (nI i) z0 kc ks (nI rl) (nI vw) (nI vl) (nI 6) (nI h0) (nI h1) ac ak al ar lk im le gr := by
  unfold wL_law_166
  refine br_c (fun _ => ?_) (fun _ => br_c (fun _ => qp_193 hN hk W A pp) (fun _ => qp_193 hN hk W A pp))
  rw [show nI k + 2 = nI (k + 2) from nI_add k 2]
  exact qp_pick hN (by omega) hrg (by omega) (fun r _ => qp_193 hN hk W A pp)
theorem qp_136 {N kc ks m rg kb : Nat} {xs : Nat → Int32} {x8 x9 x12 : Int32} {J58 : _} (hN : N ≤ 260) (hrg : 0 < rg) (hrg2 : rg < 10) (hm : m ≤ 4) (hkb : kb < 900)
    (pp : ∀ (k : Nat) (c : Nat → Nat) (K L R : Nat → Nat → Nat) (ac ak al ar lk im le gr : Nat → Int32), k ≤ kb → qa_W rl vw vl 6 h0 h1 c K L R → qa_A 8 c K L R ac ak al ar → J58 (nI k) (x8 + 1) (nI rl) (nI vw) (nI vl) (nI 6) (nI h0) (nI h1) ac ak al ar lk im le gr) :
    ∀ d i n k (c : Nat → Nat) (K L R : Nat → Nat → Nat) (ac ak al ar lk im le gr : Nat → Int32), i + d = m → d < n → k + 3 * d ≤ kb → qa_W rl vw vl 6 h0 h1 c K L R → qa_A 8 c K L R ac ak al ar →
      wL_law_136 (fun r => r = 1) N xs J58 (nI rl) (nI vw) (nI vl) (nI (vl * vl)) x8 x9 (nI rg) (nI m) x12 kc ks n (nI k) (nI i) (nI rl) (nI vw) (nI vl) (nI 6) (nI h0) (nI h1) ac ak al ar lk im le gr := by
  intro d
  induction d with
  | zero =>
    intro i n k c K L R ac ak al ar lk im le gr hi hn hk W A
    obtain ⟨n, rfl⟩ : ∃ m, n = m + 1 := ⟨n - 1, by omega⟩
    exact br_t (nI_le (by omega) (by omega)) (nm_e (pp k c K L R ac ak al ar lk im le gr (by omega) W A))
  | succ d ih =>
    intro i n k c K L R ac ak al ar lk im le gr hi hn hk W A
    obtain ⟨n, rfl⟩ : ∃ m, n = m + 1 := ⟨n - 1, by omega⟩
    have nx : ∀ (c : Nat → Nat) (K L R : Nat → Nat → Nat) (ac ak al ar : Nat → Int32), qa_W rl vw vl 6 h0 h1 c K L R → qa_A 8 c K L R ac ak al ar → wL_law_136 (fun r => r = 1) N xs J58 (nI rl) (nI vw) (nI vl) (nI (vl * vl)) x8 x9 (nI rg) (nI m) x12 kc ks n (nI (k + 3)) (nI (i + 1)) (nI rl) (nI vw) (nI vl) (nI 6) (nI h0) (nI h1) ac ak al ar lk im le gr :=
      fun c K L R ac ak al ar W A => ih (i + 1) n (k + 3) c K L R ac ak al ar lk im le gr (by omega) (by omega) (by omega) W A
    refine br_f (nI_ge (by omega) (by omega)) (br_c (fun _ => ?_) (fun _ => br_c (fun _ => qp_166 hN (by omega) hrg hrg2 W A nx) (fun _ => qp_166 hN (by omega) hrg hrg2 W A nx)))
    rw [nI_1 k]
    exact qp_pick hN (by omega) hrg (by omega) (fun r _ => qp_166 hN (by omega) hrg hrg2 W A nx)
theorem qp_105 {N kc ks k rg q : Nat} {xs : Nat → Int32} {x8 x9 : Int32} {J58 : _} (hN : N ≤ 260) (hk : k < 800) (hrg : 0 < rg) (hrg2 : rg < 10) (hq : 0 < q) (hq4 : q ≤ 4) (W : qa_W rl vw vl 6 h0 h1 c K L R) (A : qa_A 8 c K L R ac ak al ar)
    (pp : ∀ (k' : Nat) (c : Nat → Nat) (K L R : Nat → Nat → Nat) (ac ak al ar lk im le gr : Nat → Int32), k' ≤ k + 14 → qa_W rl vw vl 6 h0 h1 c K L R → qa_A 8 c K L R ac ak al ar → J58 (nI k') (x8 + 1) (nI rl) (nI vw) (nI vl) (nI 6) (nI h0) (nI h1) ac ak al ar lk im le gr) :
    wL_law_105 (fun r => r = 1) N xs J58 (nI rl) (nI vw) (nI vl) (nI (vl * vl)) (nI k) x8 x9 (nI rg) (nI q) (nI k) 1 kc ks (nI rl) (nI vw) (nI vl) (nI 6) (nI h0) (nI h1) ac ak al ar lk im le gr := by
  unfold wL_law_105
  rw [nI_1 k]
  refine qp_pick hN (by omega) hq (by omega) (fun r hr => nm_r (nI_add 1 r) (qp_pick (n := 3) hN (by omega) (by decide) (by decide) (fun r2 _ => br_c (fun _ => nm_r (nI_add k 2) ⟨1 + r + 1, ?_⟩) (fun _ => nm_r (nI_add k 2) ⟨1 + r + 1, ?_⟩))))
  · exact qp_136 (kb := k + 14) hN hrg hrg2 (by omega) (by omega) pp (1 + r) 0 (1 + r + 1) (k + 2) c K L R ac ak al ar lk im le gr (by omega) (by omega) (by omega) W A
  · exact qp_136 (kb := k + 14) hN hrg hrg2 (by omega) (by omega) pp (1 + r) 0 (1 + r + 1) (k + 2) c K L R ac ak al ar lk im le gr (by omega) (by omega) (by omega) W A
theorem qp_58 {N kc ks : Nat} {xs : Nat → Int32} (hN : N ≤ 260) :
    ∀ d t n k (c : Nat → Nat) (K L R : Nat → Nat → Nat) (ac ak al ar lk im le gr : Nat → Int32), t + d = vw → d < n → k + 14 * d < 300 → qa_W rl vw vl 6 h0 h1 c K L R → qa_A 8 c K L R ac ak al ar →
      wL_law_58 (fun r => r = 1) N xs (nI rl) (nI vw) (nI vl) (nI (vl * vl)) kc ks n (nI k) (nI t) (nI rl) (nI vw) (nI vl) (nI 6) (nI h0) (nI h1) ac ak al ar lk im le gr := by
  intro d
  induction d with
  | zero =>
    intro t n k c K L R ac ak al ar lk im le gr hi hn hk W A
    obtain ⟨n, rfl⟩ : ∃ m, n = m + 1 := ⟨n - 1, by omega⟩
    have hv := W.2.1
    refine br_t (nI_le (by omega) (by omega)) (nm_r (nI_1 k) (qp_pick (n := 4) hN (by omega) (by decide) (by decide) (fun r hr => nm_r (nI_add 3 r) ⟨3 + r + 1, ?_⟩)))
    exact qp_250 hN (by omega) (3 + r) 0 (3 + r + 1) (k + 1) c K L R ac ak al ar lk im le gr (by omega) (by omega) (by omega) W A
  | succ d ih =>
    intro t n k c K L R ac ak al ar lk im le gr hi hn hk W A
    obtain ⟨n, rfl⟩ : ∃ m, n = m + 1 := ⟨n - 1, by omega⟩
    have hv := W.2.1
    have h0t : (0 : Int32) ≤ nI t := nI_pos' (by omega)
    refine br_f (nI_ge (by omega) (by omega)) (br_t h0t (br_t h0t (br_t h0t ?_)))
    refine qp_105 (rg := 4) (q := 3) hN (by omega) (by decide) (by decide) (by decide) (by decide) W A (fun k' c K L R ac ak al ar lk im le gr hk' W A => ?_)
    rw [nI_1 t]
    exact ih (t + 1) n k' c K L R ac ak al ar lk im le gr (by omega) (by omega) (by omega) W A
end
theorem qp_cl {post : Int32 → Prop} {x n : Nat} (h1 : 1 ≤ x) (h2 : x ≤ n) (hn : n < 2 ^ 31) (hp : post (nI x)) : wpX_clamp post () (nI x) (nI n) :=
  br_t (nI_le (a := 1) h1 (by omega)) (br_t (nI_le h2 hn) hp)
theorem i_vc (xs : Nat → Int32) (L : Nat) (hL : L ≤ 260) : wpL_law (fun r => r = 1) L xs := by
  unfold wpL_law
  refine qp_pick (k := 0) (n := 3) hL (by decide) (by decide) (by decide) (fun r1 h1 => nm_r (nI_add 1 r1) ?_)
  refine qp_pick (k := 1) (n := 3) hL (by decide) (by decide) (by decide) (fun r2 h2 => nm_r (nI_add 1 r2) ?_)
  refine qp_pick (k := 2) (n := 3) hL (by decide) (by decide) (by decide) (fun r3 h3 => nm_r (nI_add 2 r3) (nm_r (pk_mul (2 + r3) (2 + r3)) ⟨8, 228, by decide, by decide, ?_⟩))
  refine ⟨by decide, by decide, by decide, by decide, by decide, by decide, by decide, by decide, by decide, by decide, by decide, by decide, by decide, by decide, by decide, by decide, ?_⟩
  refine qp_cl (n := 3) (by omega) (by omega) (by decide) (qp_cl (n := 3) (by omega) (by omega) (by decide) (qp_cl (n := 4) (by omega) (by omega) (by decide) (qp_cl (x := 6) (n := 8) (by omega) (by omega) (by decide) ?_)))
  have A : qa_A 8 (fun _ => 0) (fun _ _ => 0) (fun _ _ => 0) (fun _ _ => 0) (fun _ => 0) (fun _ => 0) (fun _ => 0) (fun _ => 0) := fun s hs => ⟨rfl, fun j hj => absurd hj (Nat.not_lt_zero j)⟩
  have W : qa_W (1 + r1) (1 + r2) (2 + r3) 6 0 1 (fun _ => 0) (fun _ _ => 0) (fun _ _ => 0) (fun _ _ => 0) := ⟨⟨by omega, by omega⟩, ⟨by omega, by omega⟩, ⟨by omega, by omega⟩, ⟨by decide, by decide⟩, by decide, by decide, fun s hs => ⟨Nat.zero_le _, fun j hj => absurd hj (Nat.not_lt_zero j)⟩⟩
  refine ⟨1 + r2 + 2, ?_⟩
  have hm : ¬ (0 : Int32) ≤ -1 := by decide
  refine br_f (fun z => ?_) (br_f hm (br_f hm (br_f hm ?_)))
  · have : (0 : Int32) ≤ nI (1 + r2) := nI_pos' (by omega)
    exact hm (Int32.le_trans this z)
  · refine qp_105 (k := 3) (rg := 5) (q := 4) hL (by decide) (by decide) (by decide) (by decide) (by decide) W A (fun k' c K L R ac ak al ar lk im le gr hk' W A => ?_)
    exact qp_58 hL (1 + r2) 0 (1 + r2 + 1) k' c K L R ac ak al ar lk im le gr (by omega) (by omega) (by omega) W A
end
