/-! rewriting by rows -/
theorem qp_map {n : Nat} {K L R : Nat → Nat} {F F' : Nat → Nat → Nat → Prop} {T T' p q p' q' : Nat} (e : Nat → Nat) (hT : ∀ t, t < T → e t < T') (hp : e p = p') (hq : e q = q')
    (hF : ∀ k x y, F k x y → F' k (e x) (e y)) (h : qa_Mt n K L R F T p q) : qa_Mt n K L R F' T' p' q' := by
  obtain ⟨g, h0, h1, h2, h3⟩ := h
  exact ⟨fun v => e (g v), by show e (g 0) = p'; rw [h0, hp], by show e (g 1) = q'; rw [h1, hq], fun v hv => hT _ (h2 v hv), fun j hj => hF _ _ _ (h3 j hj)⟩
def qp_e (g ρ : Nat → Nat) (t : Nat) : Nat := if t < 5 then g t else 5 + 2 * ρ ((t - 5) / 2) + (t - 5) % 2
theorem qp_e_lo {g ρ : Nat → Nat} {t : Nat} (h : t < 5) : qp_e g ρ t = g t := by rw [qp_e, if_pos h]
theorem qp_e_hi {g ρ : Nat → Nat} {i s : Nat} (hs : s < 2) : qp_e g ρ (5 + 2 * i + s) = 5 + 2 * ρ i + s := by
  rw [qp_e, if_neg (by omega), show (5 + 2 * i + s - 5) / 2 = i by omega, show (5 + 2 * i + s - 5) % 2 = s by omega]
theorem qp_e_tf {g ρ : Nat → Nat} {p q i x : Nat} (hp : p < 5) (hq : q < 5) (hx : x < 4) : qp_e g ρ (qa_tf p q (5 + 2 * i) x) = qa_tf (g p) (g q) (5 + 2 * ρ i) x := by
  by_cases h0 : x = 0
  · subst h0; rw [qa_tf0, qa_tf0, qp_e_lo hp]
  · by_cases h1 : x = 1
    · subst h1; rw [qa_tf1, qa_tf1, qp_e_lo hq]
    · rw [qa_tf2 (by omega), qa_tf2 (by omega), qp_e_hi (by omega)]
theorem qp_chs {m : Nat} {P : Nat → Nat → Prop} (h : ∀ i, i < m → ∃ j, P i j) : ∃ ρ : Nat → Nat, ∀ i, i < m → P i (ρ i) := by
  refine ⟨fun i => @dite Nat (i < m) (Nat.decLt i m) (fun z => (h i z).choose) (fun _ => 0), fun i hi => ?_⟩
  have e : (@dite Nat (i < m) (Nat.decLt i m) (fun z => (h i z).choose) (fun _ => 0)) = (h i hi).choose := dif_pos hi
  show P i (@dite Nat (i < m) (Nat.decLt i m) (fun z => (h i z).choose) (fun _ => 0))
  rw [e]
  exact (h i hi).choose_spec
/-- owners whose triples, carried by g, stand among other owners': their matches go over -/
theorem qp_comp {c : Nat → Nat} {K L R : Nat → Nat → Nat} {n : Nat} {Kq Lq Rq : Nat → Nat} {m1 m2 : Nat} {V1 P1 Q1 V2 P2 Q2 : Nat → Nat} {on1 on2 : Nat → Bool} {g : Nat → Nat} {x0 y0 a b : Nat}
    (hm : m2 ≤ 8) (hL : ∀ i, i < m1 → ∀ j, j < c (3 + V1 i) → L (3 + V1 i) j < 4 ∧ R (3 + V1 i) j < 4) (hP : ∀ i, i < m1 → P1 i < 5 ∧ Q1 i < 5) (hg : ∀ v, v < 5 → g v < 5)
    (hr : ∀ i, i < m1 → on1 i = true → ∃ i', i' < m2 ∧ on2 i' = true ∧ V2 i' = V1 i ∧ P2 i' = g (P1 i) ∧ Q2 i' = g (Q1 i)) (hx0 : x0 < 5) (hy0 : y0 < 5) (ha : g x0 = a) (hb : g y0 = b)
    (h : qa_Mt n Kq Lq Rq (qa_FX c K L R on1 V1 P1 Q1 (fun i => 5 + 2 * i) m1) 21 x0 y0) :
    qa_Mt n Kq Lq Rq (qa_FX c K L R on2 V2 P2 Q2 (fun i => 5 + 2 * i) m2) 21 a b := by
  have hr2 : ∀ i, i < m1 + 8 → ∃ j, j < 8 ∧ (i < m1 → on1 i = true → j < m2 ∧ on2 j = true ∧ V2 j = V1 i ∧ P2 j = g (P1 i) ∧ Q2 j = g (Q1 i)) := by
    intro i _
    rcases Classical.em (i < m1 ∧ on1 i = true) with ⟨h1, h2⟩ | z
    · obtain ⟨j, q⟩ := hr i h1 h2
      exact ⟨j, by omega, fun _ _ => q⟩
    · exact ⟨0, by decide, fun h1 h2 => absurd ⟨h1, h2⟩ z⟩
  obtain ⟨ρ, hρ⟩ := qp_chs hr2
  refine qp_map (qp_e g ρ) (fun t ht => ?_) ((qp_e_lo hx0).trans ha) ((qp_e_lo hy0).trans hb) (fun k x y hf => ?_) h
  · by_cases z : t < 5
    · rw [qp_e_lo z]; have := hg t z; omega
    · rw [qp_e, if_neg z]; have := (hρ ((t - 5) / 2) (by omega)).1; omega
  · obtain ⟨i, hi, ho, j, hj, hk, rfl, rfl⟩ := hf
    obtain ⟨r1, r2, r3, r4, r5⟩ := (hρ i (by omega)).2 hi ho
    obtain ⟨l1, l2⟩ := hL i hi j hj
    refine ⟨ρ i, r1, r2, j, ?_, ?_, ?_, ?_⟩
    · rw [r3]; exact hj
    · rw [r3]; exact hk
    · rw [r3, r4, r5]; exact (qp_e_tf (hP i hi).1 (hP i hi).2 l1).symm
    · rw [r3, r4, r5]; exact (qp_e_tf (hP i hi).1 (hP i hi).2 l2).symm
/-- a match needs an owner for each atom of the query, and no others -/
theorem qp_extract {c : Nat → Nat} {K L R : Nat → Nat → Nat} {n : Nat} {Kq Lq Rq : Nat → Nat} {m2 : Nat} {V2 P2 Q2 B : Nat → Nat} {on : Nat → Bool} {T a b : Nat}
    (h : qa_Mt n Kq Lq Rq (qa_FX c K L R on V2 P2 Q2 B m2) T a b) :
    ∃ ow : Nat → Nat, (∀ j, j < n → ow j < m2 ∧ on (ow j) = true) ∧ ∀ on3 : Nat → Bool, (∀ j, j < n → on3 (ow j) = true) → qa_Mt n Kq Lq Rq (qa_FX c K L R on3 V2 P2 Q2 B m2) T a b := by
  obtain ⟨g, h0, h1, h2, h3⟩ := h
  obtain ⟨ow, hw⟩ := qp_chs (P := fun j i => i < m2 ∧ on i = true ∧ qa_G (c (3 + V2 i)) (K (3 + V2 i)) (L (3 + V2 i)) (R (3 + V2 i)) (P2 i) (Q2 i) (B i) (Kq j) (g (Lq j)) (g (Rq j))) h3
  exact ⟨ow, fun j hj => ⟨(hw j hj).1, (hw j hj).2.1⟩, fun on3 h => ⟨g, h0, h1, h2, fun j hj => ⟨ow j, (hw j hj).1, h j hj, (hw j hj).2.2⟩⟩⟩
/-- a query is its set of atoms -/
theorem qp_Mt_set {m m' : Nat} {K L R K' L' R' : Nat → Nat} {F : Nat → Nat → Nat → Prop} {T p q : Nat} (h : ∀ k x y, qa_In m' K' L' R' k x y → qa_In m K L R k x y) (H : qa_Mt m K L R F T p q) : qa_Mt m' K' L' R' F T p q := by
  obtain ⟨g, h0, h1, h2, h3⟩ := H
  refine ⟨g, h0, h1, h2, fun j hj => ?_⟩
  obtain ⟨i, hi, e1, e2, e3⟩ := h _ _ _ ⟨j, hj, rfl, rfl, rfl⟩
  have := h3 i hi
  rw [e1, e2, e3] at this
  exact this
/-! numbers of the law -/
theorem qp_pick {post : Int32 → Prop} {L k n : Nat} {xs : Nat → Int32} (hL : L ≤ 260) (hk : k < 2 ^ 20) (hn : 0 < n) (hn2 : n < 2 ^ 31) (hp : ∀ r, r < n → post (nI r)) : wpL_pick post L xs () (nI k) (nI n) := by
  have key : ∀ z : Int32, (¬ (3 : Int64) = 0 ∧ (¬ (nI n).toInt64 = 0 ∧ (post ((((z.toInt64 &&& 2147483647) + (((nI k).toInt64 * (nI k).toInt64) / 3)) - ((z.toInt64 &&& 2147483647) + (((nI k).toInt64 * (nI k).toInt64) / 3)) / (nI n).toInt64 * (nI n).toInt64).toInt32)))) := by
    intro z
    obtain ⟨m, hm, em⟩ := wb_of z.toInt64
    have hkk : k * k < 2 ^ 40 := by
      have : k * k ≤ 2 ^ 20 * 2 ^ 20 := Nat.mul_le_mul (by omega) (by omega)
      have h2 : k * k < 2 ^ 20 * 2 ^ 20 ∨ k * k = 2 ^ 20 * 2 ^ 20 := by omega
      rcases h2 with h2 | h2
      · exact h2
      · have h3 : k * k ≤ k * 2 ^ 20 := Nat.mul_le_mul_left k (by omega)
        omega
    have e1 : z.toInt64 &&& 2147483647 = lN (m % 2 ^ 31) := by
      rw [em]
      exact wb_mask (k := 31) hm (by decide)
    have e2 : (nI k).toInt64 * (nI k).toInt64 / 3 = lN (k * k / 3) := by
      rw [nI_l (by omega), lN_mul]
      exact pk_lDiv (b := 3) (by omega) (by decide) (by decide)
    have hlt : m % 2 ^ 31 + k * k / 3 < 2 ^ 63 := by omega
    rw [e1, e2, lN_add, nI_l hn2, pk_lRem hlt hn (by omega), lN_i]
    refine ⟨by decide, fun e => ?_, hp _ (Nat.mod_lt _ hn)⟩
    have := (pk_lEQ (a := n) (b := 0) (by omega) (by decide)).mp e
    omega
  unfold wpL_pick
  exact pk_le L k (fun _ => key 0) (fun h => ⟨vp_in_nI h (by omega), key _⟩)
theorem qp_at {post : Int32 → Prop} {P i : Nat} (hP : P < 2 ^ 64) (hi : i < 8) (hp : post (nI (P / 2 ^ (8 * i) % 256))) : wpL_at post () (lN P) (nI i) := by
  unfold wpL_at
  rw [show (8 : Int32) * nI i = nI (8 * i) from pk_mul 8 i, wb_shr hP (by omega)]
  have e : lN (P / 2 ^ (8 * i)) &&& 255 = lN (P / 2 ^ (8 * i) % 2 ^ 8) := wb_mask (k := 8) (Nat.lt_of_le_of_lt (Nat.div_le_self _ _) hP) (by decide)
  rw [e, lN_i]
  exact hp
theorem qp_at_any {post : Int32 → Prop} {P : Int64} {i : Int32} (hp : ∀ z, post z) : wpL_at post () P i := hp _
def qp_pk (cs : Nat → Nat) : Nat → Nat
  | 0 => 0
  | n + 1 => qp_pk cs n + cs n * 256 ^ n
theorem qp_pk_lt {cs : Nat → Nat} : ∀ n, (∀ i, i < n → cs i < 256) → qp_pk cs n < 256 ^ n := by
  intro n
  induction n with
  | zero => intro _; exact Nat.one_pos
  | succ n ih =>
    intro h
    have a := ih (fun i hi => h i (by omega))
    have b : cs n * 256 ^ n ≤ 255 * 256 ^ n := Nat.mul_le_mul_right _ (by have := h n (by omega); omega)
    rw [qp_pk, Nat.pow_succ]
    omega
theorem qp_pk_cg {cs cs' : Nat → Nat} : ∀ n, (∀ i, i < n → cs i = cs' i) → qp_pk cs n = qp_pk cs' n := by
  intro n
  induction n with
  | zero => intro _; rfl
  | succ n ih => intro h; rw [qp_pk, qp_pk, ih (fun i hi => h i (by omega)), h n (by omega)]
theorem qp_pk_at {cs : Nat → Nat} : ∀ n, (∀ i, i < n → cs i < 256) → ∀ i, i < n → qp_pk cs n / 256 ^ i % 256 = cs i := by
  intro n
  induction n with
  | zero => intro _ i hi; omega
  | succ n ih =>
    intro h i hi
    rw [qp_pk]
    by_cases e : i = n
    · subst e
      rw [Nat.add_mul_div_right _ _ (Nat.pow_pos (by decide)), Nat.div_eq_of_lt (qp_pk_lt i (fun j hj => h j (by omega))), Nat.zero_add]
      exact Nat.mod_eq_of_lt (h i (by omega))
    · obtain ⟨d, rfl⟩ : ∃ d, n = i + (d + 1) := ⟨n - i - 1, by omega⟩
      have e2 : cs (i + (d + 1)) * 256 ^ (i + (d + 1)) = cs (i + (d + 1)) * 256 ^ d * 256 * 256 ^ i := by
        rw [Nat.pow_add, Nat.pow_succ, Nat.mul_assoc, Nat.mul_assoc]
        congr 1
        rw [Nat.mul_comm (256 ^ i)]
        exact Nat.mul_assoc _ _ _
      rw [e2, Nat.add_mul_div_right _ _ (Nat.pow_pos (by decide)), Nat.add_mul_mod_self_right]
      exact ih (fun j hj => h j (by omega)) i (by omega)
theorem qp_pk_or {cs : Nat → Nat} {n code : Nat} (hn : n < 7) (h : ∀ i, i < n → cs i < 256) (hc : code < 256) :
    lN (qp_pk cs n) ||| ((nI code).toInt64 <<< ((8 * nI n).toInt64 &&& 63)) = lN (qp_pk (qa_set cs n code) (n + 1)) := by
  have e1 : 2 ^ (8 * n) = 256 ^ n := Nat.pow_mul 2 8 n
  have hlt := qp_pk_lt n h
  have hp6 : 256 ^ n ≤ 256 ^ 6 := Nat.pow_le_pow_right (by decide) (by omega)
  have hb : code * 256 ^ n ≤ 255 * 256 ^ n := Nat.mul_le_mul_right _ (by omega)
  have h6 : (256 : Nat) ^ 6 * 256 ≤ 2 ^ 56 := by decide
  rw [nI_l (by omega), show (8 : Int32) * nI n = nI (8 * n) from pk_mul 8 n, wb_shl code (by omega), e1, g_or' (k := 8 * n) e1 hlt (by omega)]
  rw [qp_pk, qa_set_s, qp_pk_cg (cs := qa_set cs n code) (cs' := cs) n (fun i hi => qa_set_n (by omega))]
theorem qp_pk_64 {cs : Nat → Nat} {n : Nat} (hn : n < 7) (h : ∀ i, i < n → cs i < 256) : qp_pk cs n < 2 ^ 64 := by
  have hlt := qp_pk_lt n h
  have hp6 : 256 ^ n ≤ 256 ^ 6 := Nat.pow_le_pow_right (by decide) (by omega)
  have h6 : (256 : Nat) ^ 6 ≤ 2 ^ 56 := by decide
  omega
theorem qp_at_pk {post : Int32 → Prop} {cs : Nat → Nat} {n i : Nat} (hn : n < 7) (h : ∀ i, i < n → cs i < 256) (hi : i < n) (hp : post (nI (cs i))) : wpL_at post () (lN (qp_pk cs n)) (nI i) := by
  refine qp_at (qp_pk_64 hn h) (by omega) ?_
  rw [show 2 ^ (8 * i) = 256 ^ i from Nat.pow_mul 2 8 i, qp_pk_at n h i hi]
  exact hp
/-! pigeons -/
theorem qp_php : ∀ (m n : Nat) (f : Nat → Nat), (∀ i, i < n → f i < m) → (∀ i j, i < n → j < n → f i = f j → i = j) → n ≤ m := by
  intro m
  induction m with
  | zero =>
    intro n f h _
    rcases Nat.eq_zero_or_pos n with e | e
    · omega
    · exact absurd (h 0 e) (Nat.not_lt_zero _)
  | succ m ih =>
    intro n f h hi
    rcases Classical.em (∃ i, i < n ∧ f i = m) with ⟨i0, h0, e0⟩ | z
    · have : n - 1 ≤ m := by
        refine ih (n - 1) (fun i => if i < i0 then f i else f (i + 1)) (fun i hin => ?_) (fun i j h1 h2 e => ?_)
        · show (if i < i0 then f i else f (i + 1)) < m
          split
          · rename_i q
            have a := h i (by omega)
            have b : f i ≠ m := fun w => by have := hi i i0 (by omega) h0 (w.trans e0.symm); omega
            omega
          · rename_i q
            have a := h (i + 1) (by omega)
            have b : f (i + 1) ≠ m := fun w => by have := hi (i + 1) i0 (by omega) h0 (w.trans e0.symm); omega
            omega
        · have e' : (if i < i0 then f i else f (i + 1)) = (if j < i0 then f j else f (j + 1)) := e
          split at e' <;> split at e'
          · exact hi i j (by omega) (by omega) e'
          · have := hi i (j + 1) (by omega) (by omega) e'; omega
          · have := hi (i + 1) j (by omega) (by omega) e'; omega
          · have := hi (i + 1) (j + 1) (by omega) (by omega) e'; omega
      omega
    · have : n ≤ m := ih n f (fun i hin => by
        have a := h i hin
        have b : f i ≠ m := fun w => z ⟨i, hin, w⟩
        omega) hi
      omega
/-! codes of triples to a base -/
theorem qp_dec_inj {b c c' : Nat} (h1 : c / (b * b) = c' / (b * b)) (h2 : c / b % b = c' / b % b) (h3 : c % b = c' % b) : c = c' := by
  have e : c / b = c' / b := by
    rw [← Nat.div_add_mod (c / b) b, ← Nat.div_add_mod (c' / b) b, Nat.div_div_eq_div_mul, Nat.div_div_eq_div_mul, h1, h2]
  rw [← Nat.div_add_mod c b, ← Nat.div_add_mod c' b, e, h3]
theorem qp_enc {b k x y M : Nat} (hk : k < M) (hx : x < b) (hy : y < b) : ∃ c, c < M * (b * b) ∧ c / (b * b) = k ∧ c / b % b = x ∧ c % b = y := by
  have hb : 0 < b := by omega
  have e1 : ((k * b + x) * b + y) / b = k * b + x := by
    rw [Nat.add_comm, Nat.add_mul_div_right _ _ hb, Nat.div_eq_of_lt hy, Nat.zero_add]
  have e2 : (k * b + x) / b = k := by
    rw [Nat.add_comm, Nat.add_mul_div_right _ _ hb, Nat.div_eq_of_lt hx, Nat.zero_add]
  have ek : ((k * b + x) * b + y) / (b * b) = k := by rw [← Nat.div_div_eq_div_mul, e1, e2]
  refine ⟨(k * b + x) * b + y, ?_, ek, ?_, ?_⟩
  · have : ((k * b + x) * b + y) / (b * b) < M := by rw [ek]; exact hk
    exact (Nat.div_lt_iff_lt_mul (Nat.mul_pos hb hb)).mp this
  · rw [e1, Nat.add_comm, Nat.add_mul_mod_self_right]
    exact Nat.mod_eq_of_lt hx
  · rw [Nat.add_comm, Nat.add_mul_mod_self_right]
    exact Nat.mod_eq_of_lt hy
/-- what has been read back of a section: nr codes below cc -/
def qp_RB (m : Nat) (K L R : Nat → Nat) (b cc nr : Nat) (cs : Nat → Nat) : Prop :=
  (∀ i, i < nr → cs i < cc) ∧ (∀ i j, i < j → j < nr → cs i < cs j) ∧ (∀ i, i < nr → qa_In m K L R (cs i / (b * b)) (cs i / b % b) (cs i % b)) ∧
  (∀ c', c' < cc → qa_In m K L R (c' / (b * b)) (c' / b % b) (c' % b) → ∃ i, i < nr ∧ cs i = c')
theorem qp_RB_0 {m : Nat} {K L R : Nat → Nat} {b : Nat} {cs : Nat → Nat} : qp_RB m K L R b 0 0 cs :=
  ⟨fun i hi => absurd hi (Nat.not_lt_zero i), fun i j _ hj => absurd hj (Nat.not_lt_zero j), fun i hi => absurd hi (Nat.not_lt_zero i), fun c' hc => absurd hc (Nat.not_lt_zero c')⟩
theorem qp_RB_n {m : Nat} {K L R : Nat → Nat} {b cc nr : Nat} {cs : Nat → Nat} (h : ¬ qa_In m K L R (cc / (b * b)) (cc / b % b) (cc % b)) (H : qp_RB m K L R b cc nr cs) : qp_RB m K L R b (cc + 1) nr cs := by
  obtain ⟨a1, a2, a3, a4⟩ := H
  refine ⟨fun i hi => Nat.lt_succ_of_lt (a1 i hi), a2, a3, fun c' hc hi => ?_⟩
  by_cases e : c' = cc
  · subst e; exact absurd hi h
  · exact a4 c' (by omega) hi
theorem qp_RB_y {m : Nat} {K L R : Nat → Nat} {b cc nr : Nat} {cs : Nat → Nat} (h : qa_In m K L R (cc / (b * b)) (cc / b % b) (cc % b)) (H : qp_RB m K L R b cc nr cs) : qp_RB m K L R b (cc + 1) (nr + 1) (qa_set cs nr cc) := by
  obtain ⟨a1, a2, a3, a4⟩ := H
  refine ⟨fun i hi => ?_, fun i j hij hj => ?_, fun i hi => ?_, fun c' hc hi => ?_⟩
  · by_cases e : i = nr
    · subst e; rw [qa_set_s]; omega
    · rw [qa_set_n e]; have := a1 i (by omega); omega
  · by_cases e : j = nr
    · subst e; rw [qa_set_s, qa_set_n (by omega)]; exact a1 i (by omega)
    · rw [qa_set_n e, qa_set_n (by omega)]; exact a2 i j hij (by omega)
  · by_cases e : i = nr
    · subst e; rw [qa_set_s]; exact h
    · rw [qa_set_n e]; exact a3 i (by omega)
  · by_cases e : c' = cc
    · subst e; exact ⟨nr, by omega, qa_set_s⟩
    · obtain ⟨i, h1, h2⟩ := a4 c' (by omega) hi
      exact ⟨i, by omega, by rw [qa_set_n (by omega)]; exact h2⟩
theorem qp_RB_inj {m : Nat} {K L R : Nat → Nat} {b cc nr : Nat} {cs : Nat → Nat} (H : qp_RB m K L R b cc nr cs) : ∀ i j, i < nr → j < nr → cs i = cs j → i = j := by
  intro i j hi hj e
  rcases Nat.lt_trichotomy i j with z | z | z
  · have := H.2.1 i j z hj; omega
  · exact z
  · have := H.2.1 j i z hi; omega
theorem qp_RB_le {m : Nat} {K L R : Nat → Nat} {b cc nr : Nat} {cs : Nat → Nat} (H : qp_RB m K L R b cc nr cs) : nr ≤ m := by
  obtain ⟨f, hf⟩ := qp_chs (P := fun i j => j < m ∧ K j = cs i / (b * b) ∧ L j = cs i / b % b ∧ R j = cs i % b) H.2.2.1
  refine qp_php m nr f (fun i hi => (hf i hi).1) (fun i j hi hj e => qp_RB_inj H i j hi hj ?_)
  have x := (hf i hi).2
  have y := (hf j hj).2
  rw [e] at x
  exact qp_dec_inj (x.1.symm.trans y.1) (x.2.1.symm.trans y.2.1) (x.2.2.symm.trans y.2.2)
/-- no code is passed over when the list is full -/
theorem qp_RB_full {m : Nat} {K L R : Nat → Nat} {b cc nr : Nat} {cs : Nat → Nat} (H : qp_RB m K L R b cc nr cs) (hf : m ≤ nr) : ¬ qa_In m K L R (cc / (b * b)) (cc / b % b) (cc % b) := by
  intro h
  have := qp_RB_le (qp_RB_y h H)
  omega
theorem qp_RB_end {m : Nat} {K L R : Nat → Nat} {b M nr : Nat} {cs : Nat → Nat} (hb : ∀ j, j < m → K j < M ∧ L j < b ∧ R j < b) (H : qp_RB m K L R b (M * (b * b)) nr cs) :
    ∀ k x y, qa_In m K L R k x y ↔ qa_In nr (fun i => cs i / (b * b)) (fun i => cs i / b % b) (fun i => cs i % b) k x y := by
  intro k x y
  constructor
  · intro h
    have h' := h
    obtain ⟨j, hj, rfl, rfl, rfl⟩ := h'
    obtain ⟨b1, b2, b3⟩ := hb j hj
    obtain ⟨code, c1, c2, c3, c4⟩ := qp_enc b1 b2 b3
    obtain ⟨i, hi, e⟩ := H.2.2.2 code c1 (by rw [c2, c3, c4]; exact h)
    exact ⟨i, hi, by show cs i / (b * b) = _; rw [e, c2], by show cs i / b % b = _; rw [e, c3], by show cs i % b = _; rw [e, c4]⟩
  · rintro ⟨i, hi, rfl, rfl, rfl⟩
    exact H.2.2.1 i hi
