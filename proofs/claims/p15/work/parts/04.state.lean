/-! bits -/
theorem qb_a1 (y : Int32) : (y &&& 1 = 1) ↔ bt y 0 = true := by
  have e : bt y 0 = decide (y.toBitVec.toNat % 2 = 1) := Nat.testBit_zero _
  rw [pk_and y 1 (by decide), e, decide_eq_true_iff]
  show nI (y.toBitVec.toNat % 2) = nI 1 ↔ _
  rw [nI_eq (by omega) (by omega)]
theorem qb_a0 (y : Int32) : (y &&& 1 = 0) ↔ ¬ bt y 0 = true := by
  have e : bt y 0 = decide (y.toBitVec.toNat % 2 = 1) := Nat.testBit_zero _
  rw [pk_and y 1 (by decide), e, decide_eq_true_iff]
  show nI (y.toBitVec.toNat % 2) = nI 0 ↔ _
  rw [nI_eq (by omega) (by omega)]
  omega
theorem qb_t1 (x : Int32) {r : Nat} (h : r < 32) : ((x >>> (nI r &&& 31)) &&& 1 = 1) ↔ bt x r = true := by
  rw [qb_a1, b_sshr r h x (by decide), if_pos (by omega)]
  rfl
theorem qb_t0 (x : Int32) {r : Nat} (h : r < 32) : ((x >>> (nI r &&& 31)) &&& 1 = 0) ↔ ¬ bt x r = true := by
  rw [qb_a0, b_sshr r h x (by decide), if_pos (by omega)]
  rfl
theorem qb_1 : ∀ j, j < 32 → bt 1 j = decide (j = 0) := by decide +kernel
theorem qb_bit {r i : Nat} (h : r < 32) (hi : i < 32) : bt ((1 : Int32) <<< (nI r &&& 31)) i = decide (i = r) := by
  rw [b_shl r h 1 hi]
  by_cases e : r ≤ i
  · rw [qb_1 _ (by omega), decide_eq_true e, Bool.true_and]
    by_cases z : i = r
    · rw [decide_eq_true z, decide_eq_true (by omega)]
    · rw [decide_eq_false z, decide_eq_false (by omega)]
  · rw [decide_eq_false e, Bool.false_and, decide_eq_false (by omega)]
theorem qb_or (x : Int32) {r i : Nat} (h : r < 32) (hi : i < 32) : bt (x ||| ((1 : Int32) <<< (nI r &&& 31))) i = true ↔ (bt x i = true ∨ i = r) := by
  rw [b_or, qb_bit h hi, Bool.or_eq_true, decide_eq_true_iff]
theorem qb_and0 (x : Int32) {r : Nat} (h : r < 32) : (x &&& ((1 : Int32) <<< (nI r &&& 31)) = 0) ↔ ¬ bt x r = true := by
  constructor
  · intro z q
    have e : bt (x &&& ((1 : Int32) <<< (nI r &&& 31))) r = true := by rw [b_and, qb_bit h h, q, decide_eq_true rfl]; rfl
    rw [z, b_0] at e
    exact absurd e (by decide)
  · intro q
    apply b_ext
    intro i hi
    rw [b_and, qb_bit h hi, b_0]
    by_cases z : i = r
    · rw [z, Bool.eq_false_iff.mpr q]; rfl
    · rw [decide_eq_false z, Bool.and_false]
/-! links as sets -/
def qa_LK (lk : Nat → Int32) (F : Nat → Nat → Nat → Prop) : Prop := ∀ k l r, k < 3 → l < 21 → r < 21 → (bt (lk (k * 21 + l)) r = true ↔ F k l r)
theorem qa_LK_0 {lk : Nat → Int32} {F : Nat → Nat → Nat → Prop} (h : ∀ j, j < 63 → lk j = 0) (hF : ∀ k x y, ¬ F k x y) : qa_LK lk F := by
  intro k l r hk hl hr
  rw [h _ (by omega), b_0]
  exact ⟨fun z => absurd z (by decide), fun z => absurd z (hF k l r)⟩
theorem qa_LK_up {lk : Nat → Int32} {F F' : Nat → Nat → Nat → Prop} {k l r : Nat} (hk : k < 3) (hl : l < 21) (hr : r < 21) (H : qa_LK lk F) (hF : ∀ a b c, F' a b c ↔ (F a b c ∨ (a = k ∧ b = l ∧ c = r))) :
    qa_LK (upd lk (k * 21 + l) (lk (k * 21 + l) ||| ((1 : Int32) <<< (nI r &&& 31)))) F' := by
  intro k' l' r' hk' hl' hr'
  rw [hF]
  by_cases e : k' * 21 + l' = k * 21 + l
  · have ek : k' = k := by omega
    have el : l' = l := by omega
    subst ek el
    rw [pk_us, qb_or _ (by omega) (by omega), H k' l' r' hk' hl' hr']
    constructor
    · rintro (z | z)
      · exact Or.inl z
      · exact Or.inr ⟨rfl, rfl, z⟩
    · rintro (z | z)
      · exact Or.inl z
      · exact Or.inr z.2.2
  · rw [pk_un e, H k' l' r' hk' hl' hr']
    constructor
    · exact Or.inl
    · rintro (z | z)
      · exact z
      · exact absurd (by rw [z.1, z.2.1]) e
theorem qa_LK_cg {lk : Nat → Int32} {F F' : Nat → Nat → Nat → Prop} (H : qa_LK lk F) (h : ∀ k l r, F' k l r ↔ F k l r) : qa_LK lk F' := fun k l r a b c => (H k l r a b c).trans (h k l r).symm
/-! sections -/
def qa_A (w : Nat) (c : Nat → Nat) (K L R : Nat → Nat → Nat) (ac ak al ar : Nat → Int32) : Prop :=
  ∀ s, s < 6 → ac s = nI (c s) ∧ ∀ j, j < c s → ak (s * w + j) = nI (K s j) ∧ al (s * w + j) = nI (L s j) ∧ ar (s * w + j) = nI (R s j)
def qa_kd (rl vw s : Nat) : Nat := if s = 1 ∨ s = 2 then vw else rl
def qa_tm (vl s : Nat) : Nat := if s = 2 then vl else if 3 ≤ s then 4 else 5
def qa_lm (rm s : Nat) : Nat := if s = 2 then rm else if 3 ≤ s then 3 else 4
def qa_W (rl vw vl rm h0 h1 : Nat) (c : Nat → Nat) (K L R : Nat → Nat → Nat) : Prop :=
  (1 ≤ rl ∧ rl ≤ 3) ∧ (1 ≤ vw ∧ vw ≤ 3) ∧ (1 ≤ vl ∧ vl ≤ 4) ∧ (1 ≤ rm ∧ rm ≤ 8) ∧ h0 < 5 ∧ h1 < 5 ∧
  ∀ s, s < 6 → c s ≤ qa_lm rm s ∧ ∀ j, j < c s → K s j < qa_kd rl vw s ∧ L s j < qa_tm vl s ∧ R s j < qa_tm vl s
def qa_up2 (K : Nat → Nat → Nat) (s i v s' j' : Nat) : Nat := if s' = s ∧ j' = i then v else K s' j'
theorem qa_up2_s {K : Nat → Nat → Nat} {s i v : Nat} : qa_up2 K s i v s i = v := if_pos ⟨rfl, rfl⟩
theorem qa_up2_n {K : Nat → Nat → Nat} {s i v s' j' : Nat} (h : ¬ (s' = s ∧ j' = i)) : qa_up2 K s i v s' j' = K s' j' := if_neg h
theorem qa_lm_le {rm s : Nat} (h : rm ≤ 8) : qa_lm rm s ≤ 8 := by
  unfold qa_lm
  split
  · exact h
  · split <;> omega
theorem qa_W_c {rl vw vl rm h0 h1 : Nat} {c : Nat → Nat} {K L R : Nat → Nat → Nat} (H : qa_W rl vw vl rm h0 h1 c K L R) {s : Nat} (hs : s < 6) : c s ≤ 8 := Nat.le_trans (H.2.2.2.2.2.2 s hs).1 (qa_lm_le H.2.2.2.1.2)
theorem qa_ix {w s s' j j' : Nat} (hw : w = 8 ∨ w = 24) (hj : j < 8) (hj' : j' < 8) (h : s * w + j = s' * w + j') : s = s' ∧ j = j' := by
  rcases hw with rfl | rfl
  · omega
  · omega
theorem qa_A_set {w : Nat} {c : Nat → Nat} {K L R : Nat → Nat → Nat} {ac ak al ar : Nat → Int32} {s i n k x y : Nat} (hw : w = 8 ∨ w = 24) (hc : ∀ s, s < 6 → c s ≤ 8) (hi : i < 8) (hn : n ≤ 8) (hin : n ≤ c s ∨ (n = c s + 1 ∧ i = c s))
    (H : qa_A w c K L R ac ak al ar) :
    qa_A w (qa_set c s n) (qa_up2 K s i k) (qa_up2 L s i x) (qa_up2 R s i y) (upd ac s (nI n)) (upd ak (s * w + i) (nI k)) (upd al (s * w + i) (nI x)) (upd ar (s * w + i) (nI y)) := by
  intro s' hs'
  have h8 := hc s' hs'
  by_cases e : s' = s
  · subst e
    rw [qa_set_s, pk_us]
    refine ⟨rfl, fun j hj => ?_⟩
    by_cases z : j = i
    · subst z
      rw [pk_us, pk_us, pk_us, qa_up2_s, qa_up2_s, qa_up2_s]
      exact ⟨rfl, rfl, rfl⟩
    · have q : s' * w + j ≠ s' * w + i := by omega
      rw [pk_un q, pk_un q, pk_un q, qa_up2_n (fun h => z h.2), qa_up2_n (fun h => z h.2), qa_up2_n (fun h => z h.2)]
      exact (H s' hs').2 j (by omega)
  · rw [qa_set_n e, pk_un e]
    refine ⟨(H s' hs').1, fun j hj => ?_⟩
    have q : s' * w + j ≠ s * w + i := fun h => e (qa_ix hw (by omega) hi h).1
    rw [pk_un q, pk_un q, pk_un q, qa_up2_n (fun h => e h.1), qa_up2_n (fun h => e h.1), qa_up2_n (fun h => e h.1)]
    exact (H s' hs').2 j hj
theorem qa_W_set {rl vw vl rm h0 h1 : Nat} {c : Nat → Nat} {K L R : Nat → Nat → Nat} {s i n k x y : Nat} (hn : n ≤ qa_lm rm s) (hin : n ≤ c s ∨ (n = c s + 1 ∧ i = c s)) (hk : k < qa_kd rl vw s) (hx : x < qa_tm vl s) (hy : y < qa_tm vl s)
    (H : qa_W rl vw vl rm h0 h1 c K L R) : qa_W rl vw vl rm h0 h1 (qa_set c s n) (qa_up2 K s i k) (qa_up2 L s i x) (qa_up2 R s i y) := by
  obtain ⟨a1, a2, a3, a4, a5, a6, a7⟩ := H
  refine ⟨a1, a2, a3, a4, a5, a6, fun s' hs' => ?_⟩
  by_cases e : s' = s
  · subst e
    rw [qa_set_s]
    refine ⟨hn, fun j hj => ?_⟩
    by_cases z : j = i
    · subst z
      rw [qa_up2_s, qa_up2_s, qa_up2_s]
      exact ⟨hk, hx, hy⟩
    · rw [qa_up2_n (fun h => z h.2), qa_up2_n (fun h => z h.2), qa_up2_n (fun h => z h.2)]
      exact (a7 s' hs').2 j (by omega)
  · rw [qa_set_n e]
    refine ⟨(a7 s' hs').1, fun j hj => ?_⟩
    rw [qa_up2_n (fun h => e h.1), qa_up2_n (fun h => e h.1), qa_up2_n (fun h => e h.1)]
    exact (a7 s' hs').2 j hj
theorem qa_A_cut {w : Nat} {c : Nat → Nat} {K L R : Nat → Nat → Nat} {ac ak al ar : Nat → Int32} {s n : Nat} (hn : n ≤ c s) (H : qa_A w c K L R ac ak al ar) : qa_A w (qa_set c s n) K L R (upd ac s (nI n)) ak al ar := by
  intro s' hs'
  by_cases e : s' = s
  · subst e
    rw [qa_set_s, pk_us]
    exact ⟨rfl, fun j hj => (H s' hs').2 j (by omega)⟩
  · rw [qa_set_n e, pk_un e]
    exact H s' hs'
theorem qa_W_cut {rl vw vl rm h0 h1 : Nat} {c : Nat → Nat} {K L R : Nat → Nat → Nat} {s n : Nat} (hn : n ≤ c s) (H : qa_W rl vw vl rm h0 h1 c K L R) : qa_W rl vw vl rm h0 h1 (qa_set c s n) K L R := by
  obtain ⟨a1, a2, a3, a4, a5, a6, a7⟩ := H
  refine ⟨a1, a2, a3, a4, a5, a6, fun s' hs' => ?_⟩
  by_cases e : s' = s
  · subst e
    rw [qa_set_s]
    exact ⟨Nat.le_trans hn (a7 s' hs').1, fun j hj => (a7 s' hs').2 j (by omega)⟩
  · rw [qa_set_n e]
    exact a7 s' hs'
theorem qa_W_head {rl vw vl rm h0 h1 x y : Nat} {c : Nat → Nat} {K L R : Nat → Nat → Nat} (hx : x < 5) (hy : y < 5) (H : qa_W rl vw vl rm h0 h1 c K L R) : qa_W rl vw vl rm x y c K L R := by
  obtain ⟨a1, a2, a3, a4, a5, a6, a7⟩ := H
  exact ⟨a1, a2, a3, a4, hx, hy, a7⟩
/-! the reference's own section of facts -/
def qa_YF (ac ak ax ay : Nat → Int32) (n : Nat) (F : Nat → Nat → Nat → Prop) : Prop :=
  ac 6 = nI n ∧ ∃ K L R : Nat → Nat, (∀ j, j < n → ak (144 + j) = nI (K j) ∧ ax (144 + j) = nI (L j) ∧ ay (144 + j) = nI (R j) ∧ K j < 1000 ∧ L j < 1000 ∧ R j < 1000) ∧ ∀ k x y, F k x y ↔ qa_In n K L R k x y
theorem qa_YF_0 {ac ak ax ay : Nat → Int32} {F : Nat → Nat → Nat → Prop} (h : ac 6 = 0) (hF : ∀ k x y, ¬ F k x y) : qa_YF ac ak ax ay 0 F :=
  ⟨h, fun _ => 0, fun _ => 0, fun _ => 0, fun j hj => absurd hj (Nat.not_lt_zero j), fun k x y => ⟨fun z => absurd z (hF k x y), fun ⟨j, hj, _⟩ => absurd hj (Nat.not_lt_zero j)⟩⟩
theorem qa_YF_cg {ac ak ax ay : Nat → Int32} {n : Nat} {F F' : Nat → Nat → Nat → Prop} (H : qa_YF ac ak ax ay n F) (h : ∀ k x y, F' k x y ↔ F k x y) : qa_YF ac ak ax ay n F' := by
  obtain ⟨a, K, L, R, b, d⟩ := H
  exact ⟨a, K, L, R, b, fun k x y => (h k x y).trans (d k x y)⟩
theorem qa_YF_add {ac ak ax ay : Nat → Int32} {n k x y : Nat} {F F' : Nat → Nat → Nat → Prop} (hk : k < 1000) (hx : x < 1000) (hy : y < 1000) (H : qa_YF ac ak ax ay n F)
    (hF : ∀ a b c, F' a b c ↔ (F a b c ∨ (a = k ∧ b = x ∧ c = y))) :
    qa_YF (upd ac 6 (nI (n + 1))) (upd ak (144 + n) (nI k)) (upd ax (144 + n) (nI x)) (upd ay (144 + n) (nI y)) (n + 1) F' := by
  obtain ⟨a, K, L, R, b, d⟩ := H
  refine ⟨pk_us, qa_set K n k, qa_set L n x, qa_set R n y, fun j hj => ?_, fun k' x' y' => ?_⟩
  · by_cases e : j = n
    · subst e
      rw [pk_us, pk_us, pk_us, qa_set_s, qa_set_s, qa_set_s]
      exact ⟨rfl, rfl, rfl, hk, hx, hy⟩
    · have q : 144 + j ≠ 144 + n := by omega
      rw [pk_un q, pk_un q, pk_un q, qa_set_n e, qa_set_n e, qa_set_n e]
      exact b j (by omega)
  · rw [hF, d]
    constructor
    · rintro (⟨j, hj, z1, z2, z3⟩ | ⟨z1, z2, z3⟩)
      · have e : j ≠ n := by omega
        exact ⟨j, by omega, by rw [qa_set_n e]; exact z1, by rw [qa_set_n e]; exact z2, by rw [qa_set_n e]; exact z3⟩
      · exact ⟨n, by omega, by rw [qa_set_s]; exact z1.symm, by rw [qa_set_s]; exact z2.symm, by rw [qa_set_s]; exact z3.symm⟩
    · rintro ⟨j, hj, z1, z2, z3⟩
      by_cases e : j = n
      · subst e
        rw [qa_set_s] at z1 z2 z3
        exact Or.inr ⟨z1.symm, z2.symm, z3.symm⟩
      · rw [qa_set_n e] at z1 z2 z3
        exact Or.inl ⟨j, by omega, z1, z2, z3⟩
theorem qa_A_6 {c : Nat → Nat} {K L R : Nat → Nat → Nat} {ac ak al ar : Nat → Int32} {n : Nat} {v k x y : Int32} (hc : ∀ s, s < 6 → c s ≤ 8) (H : qa_A 24 c K L R ac ak al ar) :
    qa_A 24 c K L R (upd ac 6 v) (upd ak (144 + n) k) (upd al (144 + n) x) (upd ar (144 + n) y) := by
  intro s hs
  have h8 := hc s hs
  rw [pk_un (show s ≠ 6 by omega)]
  refine ⟨(H s hs).1, fun j hj => ?_⟩
  have q : s * 24 + j ≠ 144 + n := by omega
  rw [pk_un q, pk_un q, pk_un q]
  exact (H s hs).2 j hj
theorem qa_A_c6 {c : Nat → Nat} {K L R : Nat → Nat → Nat} {ac ak al ar : Nat → Int32} {v : Int32} (H : qa_A 24 c K L R ac ak al ar) : qa_A 24 c K L R (upd ac 6 v) ak al ar := by
  intro s hs
  rw [pk_un (show s ≠ 6 by omega)]
  exact H s hs
