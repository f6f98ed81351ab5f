/-! the reference's coreSize -/
def qa_Dy (code x y z : Nat) : Prop := x < 5 ∧ y < 5 ∧ z < 5 ∧ qa_cd (qa_gg x y z) < code
theorem qa_gg_lt {x y z : Nat} (hx : x < 5) (hy : y < 5) (hz : z < 5) : ∀ v, v < 5 → qa_gg x y z v < 5 := qa_5 (by decide : 0 < 5) (by decide : 1 < 5) hx hy hz
theorem qa_Dy_s {code x y z : Nat} (h : qa_Dy (code + 1) x y z) : qa_Dy code x y z ∨ (qa_dg code 0 = 0 ∧ qa_dg code 1 = 1 ∧ x = qa_dg code 2 ∧ y = qa_dg code 3 ∧ z = qa_dg code 4) := by
  obtain ⟨hx, hy, hz, h⟩ := h
  by_cases e : qa_cd (qa_gg x y z) < code
  · exact Or.inl ⟨hx, hy, hz, e⟩
  · have e2 : qa_cd (qa_gg x y z) = code := by omega
    have hd := qa_dg_cd (qa_gg_lt hx hy hz)
    rw [e2] at hd
    exact Or.inr ⟨hd 0 (by decide), hd 1 (by decide), (hd 2 (by decide)).symm, (hd 3 (by decide)).symm, (hd 4 (by decide)).symm⟩
section
variable {rl vw vl rm h0 h1 : Nat} {c : Nat → Nat} {K L R : Nat → Nat → Nat} {yr yv yl ym y0 y1 yt : Int32} {bc bk bx bw bf bg : Nat → Int32}
theorem qy_cs29 {post : Int32 → SY → Prop} {J9 : _} {code r : Nat} (W : qa_W rl vw vl rm h0 h1 c K L R) (B : qa_A 24 c K L R bc bk bx bw) (hg : ∀ v, v < 5 → bf v = nI (qa_dg code v)) (I : qa_Iv (c 0) (K 0) (L 0) (R 0) (qa_Dy code) r)
    (pp : ∀ r2, qa_Iv (c 0) (K 0) (L 0) (R 0) (qa_Dy (code + 1)) r2 → J9 (nI r2) (nI (code + 1)) yr yv yl ym y0 y1 yt bc bk bx bw bf bg) :
    ∀ d j n (x4 : Int32), j + d = c 0 → d < n → (∀ t, t < 8 → (bt x4 t = true ↔ (qa_sn (qa_tg (c 0) (K 0) (L 0) (R 0) (qa_dg code)) j).1 t = true)) →
      wY_coreSize_29 post J9 (nI r) (nI code) yr yv yl ym y0 y1 yt bc bk bx bw bf bg n (nI (qa_sn (qa_tg (c 0) (K 0) (L 0) (R 0) (qa_dg code)) j).2) x4 (nI j) := by
  have h8 := qa_W_8 W 0 (by decide)
  have hr := I.1
  have hL : ∀ j, j < c 0 → L 0 j < 5 ∧ R 0 j < 5 := fun j hj => (qa_W_b W (by decide) j hj).2
  have hsame : ¬ (qa_dg code 0 = 0 ∧ qa_dg code 1 = 1) → qa_Iv (c 0) (K 0) (L 0) (R 0) (qa_Dy (code + 1)) r := fun z =>
    qa_Iv_w (fun x y w h => (qa_Dy_s h).elim id (fun q => absurd ⟨q.1, q.2.1⟩ z)) I
  have hD : ∀ x y z, qa_Dy (code + 1) x y z → qa_Dy code x y z ∨ (x = qa_dg code 2 ∧ y = qa_dg code 3 ∧ z = qa_dg code 4) := fun x y z h => (qa_Dy_s h).elim Or.inl (fun q => Or.inr q.2.2)
  intro d
  induction d with
  | zero =>
    intro j n x4 hj hn hs
    obtain ⟨n, rfl⟩ : ∃ m, n = m + 1 := ⟨n - 1, by omega⟩
    have e : j = c 0 := by omega
    subst e
    have d0 := qa_dg_lt code 0
    have d1 := qa_dg_lt code 1
    have hsn := qa_sn_le (qa_tg (c 0) (K 0) (L 0) (R 0) (qa_dg code)) (c 0)
    refine br_t (by rw [(B 0 (by decide)).1]; exact nI_le (by omega) (by omega)) ?_
    refine pk_eq (qa_dg code 0) 0 (fun e0 => pk_eq (qa_dg code 1) 1 (fun e1 => ?_) (fun e1 => nm_r (nI_1 code) (pp r (hsame (fun z => e1 z.2)))) (hg 1 (by decide))) (fun e0 => nm_r (nI_1 code) (pp r (hsame (fun z => e0 z.1)))) (hg 0 (by decide))
    have hgg := qa_gg_dg e0 e1
    have eS : (qa_sn (qa_tg (c 0) (K 0) (L 0) (R 0) (qa_dg code)) (c 0)).2 = (qa_sn (qa_tg (c 0) (K 0) (L 0) (R 0) (qa_gg (qa_dg code 2) (qa_dg code 3) (qa_dg code 4))) (c 0)).2 := by rw [qa_sn_cg (c 0) (qa_tg_cg hL hgg)]
    refine pk_le r _ (fun h => nm_r (nI_1 code) (pp r (qa_Iv_ge hD (fun _ => by rw [← eS]; exact h) I))) (fun h => ?_)
    refine qy_carried (s := 0) (t := 0) (by decide) (by decide) (qa_S_A W B (by decide)) (qa_S_A W B (by decide)) (Nat.le_refl 5) hL (fun v hv => ⟨hg v hv, Nat.lt_trans (qa_dg_lt code v) (by decide)⟩) (fun z => br_f qn_10 (nm_r (nI_1 code) (pp _ ?_))) (fun z => br_t rfl (nm_r (nI_1 code) (pp r (qa_Iv_ge hD (fun w => absurd (qa_gd_cg hL (fun v hv => (hgg v hv).symm) w) z) I))))
    rw [eS]
    rw [eS] at h
    exact qa_Iv_lo (qa_dg_lt _ _) (qa_dg_lt _ _) (qa_dg_lt _ _) hD (qa_gd_cg hL hgg z) h I
  | succ d ih =>
    intro j n x4 hj hn hs
    obtain ⟨n, rfl⟩ : ∃ m, n = m + 1 := ⟨n - 1, by omega⟩
    obtain ⟨e1, e2, e3⟩ := (B 0 (by decide)).2 j (by omega)
    rw [show 0 * 24 + j = j by omega] at e1 e2 e3
    obtain ⟨b1, b2, b3⟩ := qa_W_b W (s := 0) (by decide) j (by omega)
    have g1 := hg _ b2
    have g3 := hg _ b3
    have g2 := qa_dg_lt code (L 0 j)
    have g4 := qa_dg_lt code (R 0 j)
    have hcl : (nI j).toNatClampNeg = j := nI_clamp (by omega)
    have hin : vp_in (nI j) 168 := vp_in_nI (by omega) (by omega)
    have S := qa_S_A W B (s := 0) (by decide)
    refine br_f (by rw [(B 0 (by decide)).1]; exact nI_ge (by omega) (by omega)) ⟨hin, hin, ?_⟩
    rw [hcl, e1, e2, e3, nI_clamp (show L 0 j < 2 ^ 31 by omega), nI_clamp (show R 0 j < 2 ^ 31 by omega), g1, g3]
    refine ⟨vp_in_nI (by omega) (by omega), hin, vp_in_nI (by omega) (by omega), ?_⟩
    refine qy_find (s := 0) (by decide) S.2.1 S.1 (fun j hj => (S.2.2 j hj).1) (fun j hj => (S.2.2 j hj).2) (by omega) (by omega) (by omega) (fun i hi => ?_) (fun hn => br_t (by decide) (nm_r (nI_1 j) ?_))
    · have hic := (qa_fd_some _ _ _ hi).2.1
      have htg : qa_tg (c 0) (K 0) (L 0) (R 0) (qa_dg code) j = some i := hi
      rw [show 0 * 24 + i = i by omega]
      refine br_f (nI_pos (by omega)) (ek_if (qb_t0 x4 (by omega)) (fun z => ?_) (fun z => ?_))
      · have hz : ¬ (qa_sn (qa_tg (c 0) (K 0) (L 0) (R 0) (qa_dg code)) j).1 i = true := fun w => z ((hs i (by omega)).mpr w)
        have es := qa_sn_f htg hz
        refine nm_r (e' := nI (qa_sn (qa_tg (c 0) (K 0) (L 0) (R 0) (qa_dg code)) (j + 1)).2) (by rw [es]; exact nI_1 _) (nm_e (nm_r (nI_1 j) (ih (j + 1) n _ (by omega) (by omega) (fun t ht => ?_))))
        rw [es, qb_or x4 (by omega) (by omega), hs t ht]
        show _ ↔ (if t = i then true else (qa_sn (qa_tg (c 0) (K 0) (L 0) (R 0) (qa_dg code)) j).1 t) = true
        by_cases e : t = i
        · rw [if_pos e]; exact ⟨fun _ => rfl, fun _ => Or.inr e⟩
        · rw [if_neg e]; exact ⟨fun w => w.elim id (fun w => absurd w e), Or.inl⟩
      · have hz : (qa_sn (qa_tg (c 0) (K 0) (L 0) (R 0) (qa_dg code)) j).1 i = true := (hs i (by omega)).mp (Classical.byContradiction z)
        have es := qa_sn_t htg hz
        refine nm_r (nI_1 j) ?_
        have := ih (j + 1) n x4 (by omega) (by omega) (by rw [es]; exact hs)
        rw [es] at this
        exact this
    · have htg : qa_tg (c 0) (K 0) (L 0) (R 0) (qa_dg code) j = none := hn
      have es := qa_sn_n htg
      have := ih (j + 1) n x4 (by omega) (by omega) (by rw [es]; exact hs)
      rw [es] at this
      exact this
theorem qy_cs9 {post : Int32 → SY → Prop} (W : qa_W rl vw vl rm h0 h1 c K L R) (B : qa_A 24 c K L R bc bk bx bw)
    (pp : ∀ r bf2 bg2, qa_Iv (c 0) (K 0) (L 0) (R 0) (qa_Dy 3125) r → post (nI r) (yr, yv, yl, ym, y0, y1, yt, bc, bk, bx, bw, bf2, bg2)) :
    ∀ d code n r (bf bg : Nat → Int32), code + d = 3125 → d < n → qa_Iv (c 0) (K 0) (L 0) (R 0) (qa_Dy code) r → wY_coreSize_9 post n (nI r) (nI code) yr yv yl ym y0 y1 yt bc bk bx bw bf bg := by
  intro d
  induction d with
  | zero =>
    intro code n r bf bg hi hn I
    obtain ⟨n, rfl⟩ : ∃ m, n = m + 1 := ⟨n - 1, by omega⟩
    have e : code = 3125 := by omega
    subst e
    exact br_t (nI_le (a := 3125) (by omega) (by omega)) (pp r bf bg I)
  | succ d ih =>
    intro code n r bf bg hi hn I
    obtain ⟨n, rfl⟩ : ∃ m, n = m + 1 := ⟨n - 1, by omega⟩
    refine br_f (nI_ge (b := 3125) (by omega) (by decide)) ?_
    refine qy_spread (by omega) (fun bf2 bg2 hg => ⟨c 0 + 1, ?_⟩)
    exact qy_cs29 W B (fun v hv => (hg v hv).1) I (fun r2 I2 => ih (code + 1) n r2 bf2 bg2 (by omega) (by omega) I2) (c 0) 0 (c 0 + 1) 0 (by omega) (by omega) (fun t _ => by rw [b_0]; exact Iff.rfl)
theorem qy_coreSize {post : Int32 → SY → Prop} (W : qa_W rl vw vl rm h0 h1 c K L R) (B : qa_A 24 c K L R bc bk bx bw)
    (pp : ∀ r bf2 bg2, qa_Iv (c 0) (K 0) (L 0) (R 0) (qa_Dy 3125) r → post (nI r) (yr, yv, yl, ym, y0, y1, yt, bc, bk, bx, bw, bf2, bg2)) : wpY_coreSize post (yr, yv, yl, ym, y0, y1, yt, bc, bk, bx, bw, bf, bg) := by
  refine nm_r (e' := nI (c 0)) (B 0 (by decide)).1 ⟨3126, ?_⟩
  exact qy_cs9 W B pp 3125 0 3126 (c 0) bf bg (by omega) (by omega) (qa_Iv_0 (fun x y z h => absurd h.2.2.2 (Nat.not_lt_zero _)))
end
