/-! the component's small methods -/
theorem qn_10 : ¬ (1 : Int32) = 0 := by decide
theorem qn_s (a j : Nat) : nI (a + j) + 1 = nI (a + (j + 1)) := nI_1 _
theorem qn_m1 {n : Nat} (h : n < 2 ^ 31) : ¬ nI n = (-1) := by
  intro e
  have z : ¬ nI n < 0 := nI_pos h
  rw [e] at z
  exact z (by decide)
theorem qn_3 (n : Nat) : (3 : Int32) + nI n = nI (3 + n) := nI_add 3 n
theorem qn_2 (n : Nat) : (2 : Int32) + nI n = nI (2 + n) := nI_add 2 n
theorem qx_below {post : Int32 → Prop} {x : Int32} {n : Nat} (hn : n < 2 ^ 31) (h1 : ∀ j, j < n → x = nI j → post 1) (h0 : (¬ ∃ j, j < n ∧ x = nI j) → post 0) : wpX_isBelow post () x (nI n) := by
  rcases qa_in_or x hn with ⟨j, hj, rfl⟩ | ⟨hno, h | ⟨h, h'⟩⟩
  · exact br_f (nI_pos (by omega)) (br_f (nI_ge hj hn) (h1 j hj rfl))
  · exact br_t h (h0 hno)
  · exact br_f h (br_t h' (h0 hno))
section
variable {rl vw vl rm h0 h1 : Nat} {c : Nat → Nat} {K L R : Nat → Nat → Nat} {fr fv fl fm f0 f1 : Int32} {ac ak al ar lk im le gr : Nat → Int32}
theorem qx_section {post : Int32 → Prop} {x : Int32} (hv : vw ≤ 3) (p1 : ∀ j, j < 3 + vw → x = nI j → post 1) (p0 : (¬ ∃ j, j < 3 + vw ∧ x = nI j) → post 0) : wpX_isSection post (fr, nI vw, fl, fm, f0, f1, ac, ak, al, ar, lk, im, le, gr) x := by
  rcases qa_in_or x (n := 3 + vw) (by omega) with ⟨j, hj, rfl⟩ | ⟨hno, h | ⟨h, h'⟩⟩
  · exact br_f (nI_pos (by omega)) (br_f (by rw [qn_3]; exact nI_ge hj (by omega)) (p1 j hj rfl))
  · exact br_t h (p0 hno)
  · exact br_f h (br_t (by rw [qn_3]; exact h') (p0 hno))
theorem qa_tm_0 : qa_tm vl 0 = 5 := rfl
theorem qa_tm_1 : qa_tm vl 1 = 5 := rfl
theorem qa_tm_2 : qa_tm vl 2 = vl := rfl
theorem qa_tm_3 {s : Nat} (h : 3 ≤ s) : qa_tm vl s = 4 := by rw [qa_tm, if_neg (by omega), if_pos h]
theorem qa_lm_0 : qa_lm rm 0 = 4 := rfl
theorem qa_lm_1 : qa_lm rm 1 = 4 := rfl
theorem qa_lm_2 : qa_lm rm 2 = rm := rfl
theorem qa_lm_3 {s : Nat} (h : 3 ≤ s) : qa_lm rm s = 3 := by rw [qa_lm, if_neg (by omega), if_pos h]
theorem qx_termsIn {post : Int32 → Prop} {s : Nat} (hs : s < 6) (hp : post (nI (qa_tm vl s))) : wpX_termsIn post (fr, fv, nI vl, fm, f0, f1, ac, ak, al, ar, lk, im, le, gr) (nI s) := by
  refine br_f (nI_pos (by omega)) (pk_lt 2 s (fun h => ?_) (fun h => pk_eq s 0 (fun e => ?_) (fun e0 => pk_eq s 1 (fun e => ?_) (fun e1 => pk_eq s 2 (fun e => ?_) (fun e => trivial)))))
  · rw [qa_tm_3 (by omega)] at hp; exact hp
  · subst e; exact hp
  · subst e; exact hp
  · subst e; exact hp
theorem qx_limit {post : Int32 → Prop} {s : Nat} (hs : s < 6) (hp : post (nI (qa_lm rm s))) : wpX_limit post (fr, fv, fl, nI rm, f0, f1, ac, ak, al, ar, lk, im, le, gr) (nI s) := by
  refine br_f (nI_pos (by omega)) (pk_lt 2 s (fun h => ?_) (fun h => pk_eq s 0 (fun e => ?_) (fun e0 => pk_eq s 1 (fun e => ?_) (fun e1 => pk_eq s 2 (fun e => ?_) (fun e => trivial)))))
  · rw [qa_lm_3 (by omega)] at hp; exact hp
  · subst e; exact hp
  · subst e; exact hp
  · subst e; exact hp
theorem qa_tm_le {s : Nat} (h : vl ≤ 4) : qa_tm vl s ≤ 5 := by
  unfold qa_tm
  split
  · omega
  · split <;> omega
theorem qx_tr31 {post : Int32 → Prop} {n s : Nat} {k x y : Int32} (hn : n < 2 ^ 31) (hs : s < 6) (hl : vl ≤ 4)
    (p1 : ∀ k' x' y' : Nat, k = nI k' → x = nI x' → y = nI y' → k' < n → x' < qa_tm vl s → y' < qa_tm vl s → post 1)
    (p0 : (¬ ∃ k' x' y' : Nat, k = nI k' ∧ x = nI x' ∧ y = nI y' ∧ k' < n ∧ x' < qa_tm vl s ∧ y' < qa_tm vl s) → post 0) :
    wX_isTriple_31 post (nI s) k x y (nI n) fr fv (nI vl) fm f0 f1 ac ak al ar lk im le gr := by
  have h5 : qa_tm vl s < 2 ^ 31 := by have := qa_tm_le (s := s) hl; omega
  unfold wX_isTriple_31
  refine qx_termsIn hs ?_
  refine qx_below hn (fun k' hk ek => br_f qn_10 ?_) (fun z => br_t rfl (p0 ?_))
  · refine qx_below h5 (fun x' hx ex => br_f qn_10 ?_) (fun z => br_t rfl (p0 ?_))
    · refine qx_below h5 (fun y' hy ey => br_f qn_10 (p1 k' x' y' ek ex ey hk hx hy)) (fun z => br_t rfl (p0 ?_))
      rintro ⟨k', x', y', e1, e2, e3, b1, b2, b3⟩
      exact z ⟨y', b3, e3⟩
    · rintro ⟨k', x', y', e1, e2, e3, b1, b2, b3⟩
      exact z ⟨x', b2, e2⟩
  · rintro ⟨k', x', y', e1, e2, e3, b1, b2, b3⟩
    exact z ⟨k', b1, e1⟩
theorem qx_isTriple {post : Int32 → Prop} {s k x y : Int32} (hr : rl ≤ 3) (hv : vw ≤ 3) (hl : vl ≤ 4)
    (p1 : ∀ s' k' x' y' : Nat, s = nI s' → k = nI k' → x = nI x' → y = nI y' → s' < 3 + vw → k' < qa_kd rl vw s' → x' < qa_tm vl s' → y' < qa_tm vl s' → post 1)
    (p0 : ¬ qa_T rl vw vl s k x y → post 0) : wpX_isTriple post (nI rl, nI vw, nI vl, fm, f0, f1, ac, ak, al, ar, lk, im, le, gr) s k x y := by
  unfold wpX_isTriple
  refine qx_section hv (fun j hj ej => br_f qn_10 ?_) (fun z => br_t rfl (p0 ?_))
  · subst ej
    have q1 : ∀ n, qa_kd rl vw j = n → wX_isTriple_31 post (nI j) k x y (nI n) (nI rl) (nI vw) (nI vl) fm f0 f1 ac ak al ar lk im le gr := by
      intro n en
      refine qx_tr31 ?_ (by omega) hl (fun k' x' y' e1 e2 e3 b1 b2 b3 => p1 j k' x' y' rfl e1 e2 e3 hj (by rw [en]; exact b1) b2 b3) (fun z => p0 ?_)
      · rw [← en]; unfold qa_kd; split <;> omega
      · rintro ⟨s', k', x', y', e0, e1, e2, e3, b0, b1, b2, b3⟩
        rw [nI_eq (by omega) (by omega)] at e0
        subst e0
        exact z ⟨k', x', y', e1, e2, e3, by rw [← en]; exact b1, b2, b3⟩
    refine pk_eq j 1 (fun e => ?_) (fun e1 => pk_eq j 2 (fun e => ?_) (fun e => ?_))
    · exact q1 vw (if_pos (Or.inl e))
    · exact q1 vw (if_pos (Or.inr e))
    · exact q1 rl (if_neg (by omega))
  · rintro ⟨s', k', x', y', e0, e1, e2, e3, b0, b1, b2, b3⟩
    exact z ⟨s', b0, e0⟩
theorem qx_pl21 {post : Int32 → Prop} {s k x y : Nat} (hA : qa_A 8 c K L R ac ak al ar) (hs : s < 6) (hc : c s ≤ 8) (hb : ∀ j, j < c s → K s j < 100 ∧ L s j < 100 ∧ R s j < 100) (hk : k < 100) (hx : x < 100) (hy : y < 100) :
    ∀ d j n, j + d = c s → d < n → (∀ i, qa_fd (K s) (L s) (R s) k x y d j = some i → post (nI (s * 8 + i))) → (qa_fd (K s) (L s) (R s) k x y d j = none → post (-1)) →
      wX_place_21 post (nI k) (nI x) (nI y) (nI (s * 8 + c s)) fr fv fl fm f0 f1 ac ak al ar lk im le gr n (nI (s * 8 + j)) := by
  intro d
  induction d with
  | zero =>
    intro j n hj hn p1 p0
    obtain ⟨n, rfl⟩ : ∃ m, n = m + 1 := ⟨n - 1, by omega⟩
    exact br_t (nI_le (by omega) (by omega)) (p0 rfl)
  | succ d ih =>
    intro j n hj hn p1 p0
    obtain ⟨n, rfl⟩ : ∃ m, n = m + 1 := ⟨n - 1, by omega⟩
    obtain ⟨e1, e2, e3⟩ := (hA s hs).2 j (by omega)
    obtain ⟨b1, b2, b3⟩ := hb j (by omega)
    have hcl : (nI (s * 8 + j)).toNatClampNeg = s * 8 + j := nI_clamp (by omega)
    have hin : vp_in (nI (s * 8 + j)) 48 := vp_in_nI (by omega) (by omega)
    have hnx : ¬ (K s j = k ∧ L s j = x ∧ R s j = y) → wX_place_21 post (nI k) (nI x) (nI y) (nI (s * 8 + c s)) fr fv fl fm f0 f1 ac ak al ar lk im le gr n (nI (s * 8 + (j + 1))) := fun z =>
      ih (j + 1) n (by omega) (by omega) (fun i hi => p1 i (by rw [qa_fd, if_neg z]; exact hi)) (fun hi => p0 (by rw [qa_fd, if_neg z]; exact hi))
    refine br_f (nI_ge (by omega) (by omega)) ⟨hin, pk_eq (K s j) k (fun q1 => ⟨hin, pk_eq (L s j) x (fun q2 => ⟨hin, pk_eq (R s j) y (fun q3 => ?_) (fun q3 => ?_) (by rw [hcl]; exact e3)⟩) (fun q2 => ?_) (by rw [hcl]; exact e2)⟩) (fun q1 => ?_) (by rw [hcl]; exact e1)⟩
    · exact p1 j (by rw [qa_fd, if_pos ⟨q1, q2, q3⟩])
    · exact nm_r (qn_s _ _) (hnx (fun z => q3 z.2.2))
    · exact nm_r (qn_s _ _) (hnx (fun z => q2 z.2.1))
    · exact nm_r (qn_s _ _) (hnx (fun z => q1 z.1))
theorem qx_place {post : Int32 → Prop} {s k x y : Nat} (hA : qa_A 8 c K L R ac ak al ar) (hs : s < 6) (hc : c s ≤ 8) (hb : ∀ j, j < c s → K s j < 100 ∧ L s j < 100 ∧ R s j < 100) (hk : k < 100) (hx : x < 100) (hy : y < 100)
    (p1 : ∀ i, qa_fd (K s) (L s) (R s) k x y (c s) 0 = some i → post (nI (s * 8 + i))) (p0 : qa_fd (K s) (L s) (R s) k x y (c s) 0 = none → post (-1)) :
    wpX_place post (fr, fv, fl, fm, f0, f1, ac, ak, al, ar, lk, im, le, gr) (nI s) (nI k) (nI x) (nI y) := by
  refine nm_r (pk_mul s 8) ⟨vp_in_nI (by omega) (by omega), nm_r (e' := nI (s * 8 + c s)) (by rw [nI_clamp (by omega), (hA s hs).1, nI_add]) ⟨c s + 1, ?_⟩⟩
  exact qx_pl21 hA hs hc hb hk hx hy (c s) 0 (c s + 1) (by omega) (by omega) p1 p0
end
