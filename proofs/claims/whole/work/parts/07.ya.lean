/-! the reference's small methods -/
section
variable {rl vw vl rm h0 h1 : Nat} {c : Nat → Nat} {K L R : Nat → Nat → Nat} {yr yv yl ym y0 y1 yt : Int32} {bc bk bx bw bf bg : Nat → Int32}
theorem qy_61 {post : Int32 → Prop} {n t : Nat} {k x y : Int32} (hn : n < 2 ^ 31) (ht : t < 2 ^ 31)
    (p1 : ∀ k' x' y' : Nat, k = nI k' → x = nI x' → y = nI y' → k' < n → x' < t → y' < t → post 0)
    (p0 : (¬ ∃ k' x' y' : Nat, k = nI k' ∧ x = nI x' ∧ y = nI y' ∧ k' < n ∧ x' < t ∧ y' < t) → post 1) :
    wY_bad_61 post k x y (nI n) (nI t) yr yv yl ym y0 y1 yt bc bk bx bw bf bg := by
  rcases qa_in_or k hn with ⟨k', hk, rfl⟩ | ⟨hno, h⟩
  · refine br_f (nI_pos (by omega)) (br_f (nI_ge hk hn) ?_)
    rcases qa_in_or x ht with ⟨x', hx, rfl⟩ | ⟨hno, h⟩
    · refine br_f (nI_pos (by omega)) (br_f (nI_ge hx ht) ?_)
      rcases qa_in_or y ht with ⟨y', hy, rfl⟩ | ⟨hno, h⟩
      · exact br_f (nI_pos (by omega)) (br_t (nI_lt hy ht) (p1 k' x' y' rfl rfl rfl hk hx hy))
      · have z := p0 (fun ⟨_, _, y', _, _, e, _, _, b⟩ => hno ⟨y', b, e⟩)
        rcases h with h | ⟨h, h'⟩
        · exact br_t h z
        · exact br_f h (br_f (Int32.not_lt.mpr h') z)
    · have z := p0 (fun ⟨_, x', _, _, e, _, _, b, _⟩ => hno ⟨x', b, e⟩)
      rcases h with h | ⟨h, h'⟩
      · exact br_t h z
      · exact br_f h (br_t h' z)
  · have z := p0 (fun ⟨k', _, _, e, _, _, b, _, _⟩ => hno ⟨k', b, e⟩)
    rcases h with h | ⟨h, h'⟩
    · exact br_t h z
    · exact br_f h (br_t h' z)
theorem qy_37 {post : Int32 → Prop} {n s : Nat} {k x y : Int32} (hn : n < 2 ^ 31) (hs : s < 6) (hl : vl ≤ 4)
    (p1 : ∀ k' x' y' : Nat, k = nI k' → x = nI x' → y = nI y' → k' < n → x' < qa_tm vl s → y' < qa_tm vl s → post 0)
    (p0 : (¬ ∃ k' x' y' : Nat, k = nI k' ∧ x = nI x' ∧ y = nI y' ∧ k' < n ∧ x' < qa_tm vl s ∧ y' < qa_tm vl s) → post 1) :
    wY_bad_37 post (nI s) k x y (nI n) yr yv (nI vl) ym y0 y1 yt bc bk bx bw bf bg := by
  have h5 : qa_tm vl s < 2 ^ 31 := by have := qa_tm_le (s := s) hl; omega
  have H := fun (t : Nat) (e : qa_tm vl s = t) => qy_61 (post := post) (n := n) (t := t) (k := k) (x := x) (y := y) (yr := yr) (yv := yv) (yl := nI vl) (ym := ym) (y0 := y0) (y1 := y1) (yt := yt) (bc := bc) (bk := bk) (bx := bx) (bw := bw) (bf := bf) (bg := bg) hn (by omega)
    (by rw [← e]; exact p1) (by rw [← e]; exact p0)
  refine pk_eq s 2 (fun e => ?_) (fun e => pk_lt s 3 (fun h => ?_) (fun h => ?_))
  · exact H vl (by rw [e]; rfl)
  · exact H 5 (by rw [qa_tm, if_neg e, if_neg (by omega)])
  · exact H 4 (qa_tm_3 h)
theorem qy_bad {post : Int32 → Prop} {s k x y : Int32} (hr : rl ≤ 3) (hv : vw ≤ 3) (hl : vl ≤ 4)
    (p1 : ∀ s' k' x' y' : Nat, s = nI s' → k = nI k' → x = nI x' → y = nI y' → s' < 3 + vw → k' < qa_kd rl vw s' → x' < qa_tm vl s' → y' < qa_tm vl s' → post 0)
    (p0 : ¬ qa_T rl vw vl s k x y → post 1) : wpY_bad post (nI rl, nI vw, nI vl, ym, y0, y1, yt, bc, bk, bx, bw, bf, bg) s k x y := by
  rcases qa_in_or s (n := 3 + vw) (by omega) with ⟨j, hj, rfl⟩ | ⟨hno, h⟩
  · refine br_f (nI_pos (by omega)) (br_t (by rw [qn_2]; exact nI_le (by omega) (by omega)) ?_)
    have q1 : ∀ n, qa_kd rl vw j = n → wY_bad_37 post (nI j) k x y (nI n) (nI rl) (nI vw) (nI vl) ym y0 y1 yt bc bk bx bw bf bg := by
      intro n en
      refine qy_37 ?_ (by omega) hl (fun k' x' y' e1 e2 e3 b1 b2 b3 => p1 j k' x' y' rfl e1 e2 e3 hj (by rw [en]; exact b1) b2 b3) (fun z => p0 ?_)
      · rw [← en]; unfold qa_kd; split <;> omega
      · rintro ⟨s', k', x', y', e0, e1, e2, e3, b0, b1, b2, b3⟩
        rw [nI_eq (by omega) (by omega)] at e0
        subst e0
        exact z ⟨k', x', y', e1, e2, e3, by rw [← en]; exact b1, b2, b3⟩
    refine pk_eq j 1 (fun e => ?_) (fun e1 => pk_eq j 2 (fun e => ?_) (fun e => ?_))
    · exact q1 vw (if_pos (Or.inl e))
    · exact q1 vw (if_pos (Or.inr e))
    · exact q1 rl (if_neg (by omega))
  · have z := p0 (fun ⟨s', _, _, _, e, _, _, _, b, _, _, _⟩ => hno ⟨s', b, e⟩)
    rcases h with h | ⟨h, h'⟩
    · exact br_t h z
    · refine br_f h (br_f ?_ z)
      obtain ⟨j, hj, rfl⟩ := nI_of h
      rw [nI_leI (by omega) hj] at h'
      rw [qn_2]
      exact nI_ge (by omega) hj
theorem qy_fd6 {post : Int32 → Prop} {s m k x y : Nat} {K L R : Nat → Nat} (hs : s < 7) (hm : m ≤ 24) (hc : bc s = nI m) (hA : ∀ j, j < m → bk (s * 24 + j) = nI (K j) ∧ bx (s * 24 + j) = nI (L j) ∧ bw (s * 24 + j) = nI (R j))
    (hb : ∀ j, j < m → K j < 1000 ∧ L j < 1000 ∧ R j < 1000) (hk : k < 1000) (hx : x < 1000) (hy : y < 1000) :
    ∀ d j n, j + d = m → d < n → (∀ i, qa_fd K L R k x y d j = some i → post (nI (s * 24 + i))) → (qa_fd K L R k x y d j = none → post (-1)) →
      wY_find_6 post (nI s) (nI k) (nI x) (nI y) yr yv yl ym y0 y1 yt bc bk bx bw bf bg n (nI (s * 24 + j)) := by
  have hins : vp_in (nI s) 7 := vp_in_nI (by omega) (by omega)
  have hend : nI s * 24 + bc (nI s).toNatClampNeg = nI (s * 24 + m) := by
    rw [nI_clamp (by omega), hc, show nI s * 24 = nI (s * 24) from pk_mul s 24, nI_add]
  intro d
  induction d with
  | zero =>
    intro j n hj hn p1 p0
    obtain ⟨n, rfl⟩ : ∃ m, n = m + 1 := ⟨n - 1, by omega⟩
    exact ⟨hins, br_t (by rw [hend]; exact nI_le (by omega) (by omega)) (p0 rfl)⟩
  | succ d ih =>
    intro j n hj hn p1 p0
    obtain ⟨n, rfl⟩ : ∃ m, n = m + 1 := ⟨n - 1, by omega⟩
    obtain ⟨e1, e2, e3⟩ := hA j (by omega)
    obtain ⟨b1, b2, b3⟩ := hb j (by omega)
    have hcl : (nI (s * 24 + j)).toNatClampNeg = s * 24 + j := nI_clamp (by omega)
    have hin : vp_in (nI (s * 24 + j)) 168 := vp_in_nI (by omega) (by omega)
    have hnx : ¬ (K j = k ∧ L j = x ∧ R j = y) → wY_find_6 post (nI s) (nI k) (nI x) (nI y) yr yv yl ym y0 y1 yt bc bk bx bw bf bg n (nI (s * 24 + (j + 1))) := fun z =>
      ih (j + 1) n (by omega) (by omega) (fun i hi => p1 i (by rw [qa_fd, if_neg z]; exact hi)) (fun hi => p0 (by rw [qa_fd, if_neg z]; exact hi))
    refine ⟨hins, br_f (by rw [hend]; exact nI_ge (by omega) (by omega)) ⟨hin, pk_eq (K j) k (fun q1 => ⟨hin, pk_eq (L j) x (fun q2 => ⟨hin, pk_eq (R j) y (fun q3 => ?_) (fun q3 => ?_) (by rw [hcl]; exact e3)⟩) (fun q2 => ?_) (by rw [hcl]; exact e2)⟩) (fun q1 => ?_) (by rw [hcl]; exact e1)⟩⟩
    · exact p1 j (by rw [qa_fd, if_pos ⟨q1, q2, q3⟩])
    · exact nm_r (qn_s _ _) (hnx (fun z => q3 z.2.2))
    · exact nm_r (qn_s _ _) (hnx (fun z => q2 z.2.1))
    · exact nm_r (qn_s _ _) (hnx (fun z => q1 z.1))
theorem qy_find {post : Int32 → Prop} {s m k x y : Nat} {K L R : Nat → Nat} (hs : s < 7) (hm : m ≤ 24) (hc : bc s = nI m) (hA : ∀ j, j < m → bk (s * 24 + j) = nI (K j) ∧ bx (s * 24 + j) = nI (L j) ∧ bw (s * 24 + j) = nI (R j))
    (hb : ∀ j, j < m → K j < 1000 ∧ L j < 1000 ∧ R j < 1000) (hk : k < 1000) (hx : x < 1000) (hy : y < 1000)
    (p1 : ∀ i, qa_fd K L R k x y m 0 = some i → post (nI (s * 24 + i))) (p0 : qa_fd K L R k x y m 0 = none → post (-1)) :
    wpY_find post (yr, yv, yl, ym, y0, y1, yt, bc, bk, bx, bw, bf, bg) (nI s) (nI k) (nI x) (nI y) :=
  nm_r (pk_mul s 24) ⟨m + 1, qy_fd6 hs hm hc hA hb hk hx hy m 0 (m + 1) (by omega) (by omega) p1 p0⟩
theorem qy_add {post : SY → Prop} {s m : Nat} {k x y : Int32} (hs : s < 7) (hm : m < 24) (hc : bc s = nI m) (hp : post (yr, yv, yl, ym, y0, y1, yt, upd bc s (nI (m + 1)), upd bk (s * 24 + m) k, upd bx (s * 24 + m) x, upd bw (s * 24 + m) y, bf, bg)) :
    wpY_add post (yr, yv, yl, ym, y0, y1, yt, bc, bk, bx, bw, bf, bg) (nI s) k x y := by
  have hins : vp_in (nI s) 7 := vp_in_nI (by omega) (by omega)
  have hcs : (nI s).toNatClampNeg = s := nI_clamp (by omega)
  have hin : vp_in (nI (s * 24 + m)) 168 := vp_in_nI (by omega) (by omega)
  have hcl : (nI (s * 24 + m)).toNatClampNeg = s * 24 + m := nI_clamp (by omega)
  refine ⟨hins, br_t (by rw [hcs, hc]; exact nI_lt (b := 24) (by omega) (by decide)) ⟨hins, nm_r (e' := nI (s * 24 + m)) (by rw [hcs, hc, show nI s * 24 = nI (s * 24) from pk_mul s 24, nI_add]) ⟨hin, ?_⟩⟩⟩
  refine nm_r (by rw [hcl]) ⟨hin, nm_r (by rw [hcl]) ⟨hin, nm_r (by rw [hcl]) ⟨hins, hins, nm_r (e' := upd bc s (nI (m + 1))) (by rw [hcs, hc, nI_1]) hp⟩⟩⟩
end
