/-! the questions, answer by answer -/
theorem qz_2 {x y : Int32} {n : Nat} (hn : n < 2 ^ 31) : (∃ a b : Nat, x = nI a ∧ y = nI b ∧ a < n ∧ b < n) ∨ ((¬ ∃ j, j < n ∧ x = nI j) ∧ (x < 0 ∨ (¬ x < 0 ∧ nI n ≤ x))) ∨ (∃ a : Nat, x = nI a ∧ a < n ∧ (¬ ∃ j, j < n ∧ y = nI j) ∧ (y < 0 ∨ (¬ y < 0 ∧ nI n ≤ y))) := by
  rcases qa_in_or x hn with ⟨a, ha, rfl⟩ | h
  · rcases qa_in_or y hn with ⟨b, hb, rfl⟩ | h
    · exact Or.inl ⟨a, b, rfl, rfl, ha, hb⟩
    · exact Or.inr (Or.inr ⟨a, rfl, ha, h⟩)
  · exact Or.inr (Or.inl h)
theorem i_vc_certain {k : Nat} {u : SX} {v : SY} (I : i_Rel k u v) (hk : k + 5 ≤ 2564) (v1 : Int32) (v2 : Int32) (v3 : Int32) : wpX_certain (fun r u' => wpY_certain (fun r' v' => r' = r ∧ i_Rel (k + 5) u' v') v v1 v2 v3) u v1 v2 v3 := by
  obtain ⟨rl, vw, vl, rm, h0, h1, c, K, L, R, ac, ak, al, ar, lk, im, le, gr, yt, bc, bk, bx, bw, bf, bg, rfl, rfl, W, A, B⟩ := I
  have hl := W.2.2.1.2
  rcases qz_2 (x := v2) (y := v3) (n := vl) (by omega) with ⟨a, b, rfl, rfl, ha, hb⟩ | ⟨hno, h⟩ | ⟨a, rfl, ha, hno, h⟩
  · have hxy := qa_xy (c := c) (K := K) (L := L) (R := R) (on := qa_on v1 (K 2)) (V := K 2) (P := L 2) (Q := R 2) (m := c 2) (base := vl) (p := a) (q := b) (n := c 0) (Kq := K 0) (Lq := L 0) (Rq := R 0) (qa_W_8 W 2 (by decide)) (by omega)
      (fun i hi j hj => (qa_W_v W _ (qa_W_b W (s := 2) (by decide) i hi).1 j hj).2) (fun i hi => ((W.2.2.2.2.2.2 2 (by decide)).2 i hi).2) ha hb
    refine qx_certain W A ha hb (fun z lk2 im2 le2 gr2 => ?_) (fun z lk2 im2 le2 gr2 => ?_)
    · exact qy_certain W B ha hb (fun _ _ _ _ _ _ _ B2 => ⟨rfl, qi_mk W A B2⟩) (fun w => absurd (hxy.mp z) w)
    · exact qy_certain W B ha hb (fun w => absurd (hxy.mpr w) z) (fun _ _ _ _ _ _ _ B2 => ⟨rfl, qi_mk W A B2⟩)
  · unfold wpX_certain
    refine qx_below (n := vl) (by omega) (fun j hj ej => absurd ⟨j, hj, ej⟩ hno) (fun _ => br_t rfl ?_)
    rcases h with h | ⟨h, h'⟩
    · exact br_t h ⟨rfl, qi_mk W A B⟩
    · exact br_f h (br_t h' ⟨rfl, qi_mk W A B⟩)
  · unfold wpX_certain
    refine qx_below (n := vl) (by omega) (fun _ _ _ => br_f qn_10 ?_) (fun z => absurd ⟨a, ha, rfl⟩ z)
    refine qx_below (n := vl) (by omega) (fun j hj ej => absurd ⟨j, hj, ej⟩ hno) (fun _ => br_t rfl ?_)
    refine br_f (nI_pos (by omega)) (br_f (nI_ge ha (by omega)) ?_)
    rcases h with h | ⟨h, h'⟩
    · exact br_t h ⟨rfl, qi_mk W A B⟩
    · exact br_f h (br_f (Int32.not_lt.mpr h') ⟨rfl, qi_mk W A B⟩)
theorem i_vc_rewritable {k : Nat} {u : SX} {v : SY} (I : i_Rel k u v) (hk : k + 5 ≤ 2564) (v1 : Int32) : wpX_rewritable (fun r u' => wpY_rewritable (fun r' v' => r' = r ∧ i_Rel (k + 5) u' v') v v1) u v1 := by
  obtain ⟨rl, vw, vl, rm, h0, h1, c, K, L, R, ac, ak, al, ar, lk, im, le, gr, yt, bc, bk, bx, bw, bf, bg, rfl, rfl, W, A, B⟩ := I
  have hv := W.2.1.2
  have hxy := qa_xy (c := c) (K := K) (L := L) (R := R) (on := qa_on v1 (fun i => i)) (V := fun i => i) (P := fun _ => 0) (Q := fun _ => 0) (m := vw) (base := 1) (p := 0) (q := 0) (n := c 0) (Kq := K 0) (Lq := L 0) (Rq := R 0) (by omega) (by omega)
    (fun i hi j hj => (qa_W_v W i (by omega) j hj).2) (fun i hi => ⟨by decide, by decide⟩) (by decide) (by decide)
  refine qx_rewritable W A (fun z lk2 im2 le2 gr2 => ?_) (fun z lk2 im2 le2 gr2 => ?_)
  · exact qy_rewritable W B (fun _ _ _ _ _ _ _ B2 => ⟨rfl, qi_mk W A B2⟩) (fun w => absurd (hxy.mp z) w)
  · exact qy_rewritable W B (fun w => absurd (hxy.mpr w) z) (fun _ _ _ _ _ _ _ B2 => ⟨rfl, qi_mk W A B2⟩)
theorem i_vc_candidateHas {k : Nat} {u : SX} {v : SY} (I : i_Rel k u v) (hk : k + 5 ≤ 2564) (v1 : Int32) (v2 : Int32) : wpX_candidateHas (fun r u' => wpY_candidateHas (fun r' v' => r' = r ∧ i_Rel (k + 5) u' v') v v1 v2) u v1 v2 := by
  obtain ⟨rl, vw, vl, rm, h0, h1, c, K, L, R, ac, ak, al, ar, lk, im, le, gr, yt, bc, bk, bx, bw, bf, bg, rfl, rfl, W, A, B⟩ := I
  have hl := W.2.2.1.2
  rcases qz_2 (x := v1) (y := v2) (n := vl) (by omega) with ⟨a, b, rfl, rfl, ha, hb⟩ | ⟨hno, h⟩ | ⟨a, rfl, ha, hno, h⟩
  · have h5 := qa_Cd_5 (h0 := h0) (h1 := h1) (a := a) (b := b) (m := c 1) (K := K 1) (L := L 1) (R := R 1) (F := qa_In (c 2) (K 2) (L 2) (R 2)) (T := vl) (by omega) (by omega) ha hb (fun k x y ⟨j, hj, _, e2, e3⟩ => by
      have := ((W.2.2.2.2.2.2 2 (by decide)).2 j hj).2
      rw [e2, e3] at this
      exact this)
    refine qx_candidateHas W A ha hb (fun z lk2 im2 le2 gr2 => ?_) (fun z lk2 im2 le2 gr2 => ?_)
    · exact qy_candidateHas W B ha hb (fun _ _ _ => ⟨rfl, qi_mk W A B⟩) (fun w => absurd (h5.mp z) w)
    · exact qy_candidateHas W B ha hb (fun w => absurd (h5.mpr w) z) (fun _ _ _ => ⟨rfl, qi_mk W A B⟩)
  · unfold wpX_candidateHas
    refine qx_below (n := vl) (by omega) (fun j hj ej => absurd ⟨j, hj, ej⟩ hno) (fun _ => br_t rfl ?_)
    rcases h with h | ⟨h, h'⟩
    · exact br_t h ⟨rfl, qi_mk W A B⟩
    · exact br_f h (br_t h' ⟨rfl, qi_mk W A B⟩)
  · unfold wpX_candidateHas
    refine qx_below (n := vl) (by omega) (fun _ _ _ => br_f qn_10 ?_) (fun z => absurd ⟨a, ha, rfl⟩ z)
    refine qx_below (n := vl) (by omega) (fun j hj ej => absurd ⟨j, hj, ej⟩ hno) (fun _ => br_t rfl ?_)
    refine br_f (nI_pos (by omega)) (br_f (nI_ge ha (by omega)) ?_)
    rcases h with h | ⟨h, h'⟩
    · exact br_t h ⟨rfl, qi_mk W A B⟩
    · exact br_f h (br_f (Int32.not_lt.mpr h') ⟨rfl, qi_mk W A B⟩)
theorem i_vc_sound {k : Nat} {u : SX} {v : SY} (I : i_Rel k u v) (hk : k + 5 ≤ 2564) : wpX_sound (fun r u' => wpY_sound (fun r' v' => r' = r ∧ i_Rel (k + 5) u' v') v) u := by
  obtain ⟨rl, vw, vl, rm, h0, h1, c, K, L, R, ac, ak, al, ar, lk, im, le, gr, yt, bc, bk, bx, bw, bf, bg, rfl, rfl, W, A, B⟩ := I
  have hxy := qa_xy (c := c) (K := K) (L := L) (R := R) (on := qa_on (-1) (K 1)) (V := K 1) (P := L 1) (Q := R 1) (m := c 1) (base := 5) (p := h0) (q := h1) (n := c 0) (Kq := K 0) (Lq := L 0) (Rq := R 0) (qa_W_8 W 1 (by decide)) (by omega)
      (fun i hi j hj => (qa_W_v W _ (qa_W_b W (s := 1) (by decide) i hi).1 j hj).2) (fun i hi => (qa_W_b W (s := 1) (by decide) i hi).2) W.2.2.2.2.1 W.2.2.2.2.2.1
  refine qx_sound W A (fun z lk2 im2 le2 gr2 => ?_) (fun z lk2 im2 le2 gr2 => ?_)
  · exact qy_sound W B (fun _ _ _ _ _ _ _ B2 => ⟨rfl, qi_mk W A B2⟩) (fun w => absurd (hxy.mp z) w)
  · exact qy_sound W B (fun w => absurd (hxy.mpr w) z) (fun _ _ _ _ _ _ _ B2 => ⟨rfl, qi_mk W A B2⟩)
theorem i_vc_complete {k : Nat} {u : SX} {v : SY} (I : i_Rel k u v) (hk : k + 5 ≤ 2564) : wpX_complete (fun r u' => wpY_complete (fun r' v' => r' = r ∧ i_Rel (k + 5) u' v') v) u := by
  obtain ⟨rl, vw, vl, rm, h0, h1, c, K, L, R, ac, ak, al, ar, lk, im, le, gr, yt, bc, bk, bx, bw, bf, bg, rfl, rfl, W, A, B⟩ := I
  have hL : ∀ j, j < c 1 → L 1 j < 5 ∧ R 1 j < 5 := fun j hj => (qa_W_b W (by decide) j hj).2
  have hcd := qa_Cd_code (a := 0) (b := 1) (m := c 1) (K := K 1) (F := fun v p q => v < vw ∧ p < 5 ∧ q < 5 ∧ qa_Vg c K L R v p q) W.2.2.2.2.1 W.2.2.2.2.2.1 hL
  have hkv : ∀ j, j < c 1 → K 1 j < vw := fun j hj => ((W.2.2.2.2.2.2 1 (by decide)).2 j hj).1
  have e : qa_Cd h0 h1 0 1 (c 1) (K 1) (L 1) (R 1) (fun v p q => v < vw ∧ p < 5 ∧ q < 5 ∧ qa_Vg c K L R v p q) 5 ↔ ∃ i, i < 3125 ∧ (qa_dg i h0 = 0 ∧ qa_dg i h1 = 1 ∧ ∀ j, j < c 1 → qa_Vg c K L R (K 1 j) (qa_dg i (L 1 j)) (qa_dg i (R 1 j))) := by
    refine hcd.trans ⟨?_, ?_⟩
    · rintro ⟨i, h1, h2, h3, h4⟩
      exact ⟨i, h1, h2, h3, fun j hj => (h4 j hj).2.2.2⟩
    · rintro ⟨i, h1, h2, h3, h4⟩
      exact ⟨i, h1, h2, h3, fun j hj => ⟨hkv j hj, qa_dg_lt _ _, qa_dg_lt _ _, h4 j hj⟩⟩
  refine qx_complete W A (fun z lk2 im2 le2 gr2 => ?_) (fun z lk2 im2 le2 gr2 => ?_)
  · exact qy_complete W B (fun _ _ _ => ⟨rfl, qi_mk W A B⟩) (fun w => absurd (e.mp z) w)
  · exact qy_complete W B (fun w => absurd (e.mpr w) z) (fun _ _ _ => ⟨rfl, qi_mk W A B⟩)
theorem i_vc_coreSize {k : Nat} {u : SX} {v : SY} (I : i_Rel k u v) (hk : k + 5 ≤ 2564) : wpX_coreSize (fun r u' => wpY_coreSize (fun r' v' => r' = r ∧ i_Rel (k + 5) u' v') v) u := by
  obtain ⟨rl, vw, vl, rm, h0, h1, c, K, L, R, ac, ak, al, ar, lk, im, le, gr, yt, bc, bk, bx, bw, bf, bg, rfl, rfl, W, A, B⟩ := I
  refine qx_coreSize W A (fun r im2 I1 => qy_coreSize W B (fun r2 bf2 bg2 I2 => ⟨?_, qi_mk W A B⟩))
  have h1 : ∀ a b e, a < 5 → b < 5 → e < 5 → qa_Dx 5 0 0 a b e := fun a b e ha hb he => ⟨ha, hb, he, Or.inl ha⟩
  have h2 : ∀ a b e, a < 5 → b < 5 → e < 5 → qa_Dy 3125 a b e := fun a b e ha hb he => ⟨ha, hb, he, qa_cd_lt (qa_gg_lt ha hb he)⟩
  exact congrArg nI (Nat.le_antisymm (qa_Iv_le h2 I2 I1) (qa_Iv_le h1 I1 I2))
