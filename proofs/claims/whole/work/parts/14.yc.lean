/-! the reference's questions -/
section
variable {rl vw vl rm h0 h1 : Nat} {c : Nat → Nat} {K L R : Nat → Nat → Nat} {yr yv yl ym y0 y1 yt : Int32} {bc bk bx bw bf bg : Nat → Int32}
theorem qa_W_3 (W : qa_W rl vw vl rm h0 h1 c K L R) : ∀ v, v < 3 → c (3 + v) ≤ 3 := by
  intro v hv
  have := (W.2.2.2.2.2.2 (3 + v) (by omega)).1
  rw [qa_lm_3 (by omega)] at this
  exact this
theorem qy_ce46 {post : Int32 → SY → Prop} {mask : Int32} {a b : Nat} (W : qa_W rl vw vl rm h0 h1 c K L R) (ha : a < vl) (hb : b < vl)
    (p1 : qa_Mt (c 0) (K 0) (L 0) (R 0) (qa_FX c K L R (qa_on mask (K 2)) (K 2) (L 2) (R 2) (fun i => vl + 2 * qa_rk (qa_on mask (K 2)) i) (c 2)) (vl + 2 * qa_rk (qa_on mask (K 2)) (c 2)) a b → ∀ yt2 bc2 bk2 bx2 bw2 bf2, qa_A 24 c K L R bc2 bk2 bx2 bw2 → post 1 (nI rl, nI vw, nI vl, nI rm, nI h0, nI h1, yt2, bc2, bk2, bx2, bw2, bf2, bg))
    (p0 : ¬ qa_Mt (c 0) (K 0) (L 0) (R 0) (qa_FX c K L R (qa_on mask (K 2)) (K 2) (L 2) (R 2) (fun i => vl + 2 * qa_rk (qa_on mask (K 2)) i) (c 2)) (vl + 2 * qa_rk (qa_on mask (K 2)) (c 2)) a b → ∀ yt2 bc2 bk2 bx2 bw2 bf2, qa_A 24 c K L R bc2 bk2 bx2 bw2 → post 0 (nI rl, nI vw, nI vl, nI rm, nI h0, nI h1, yt2, bc2, bk2, bx2, bw2, bf2, bg)) :
    ∀ d j n n0 (bc bk bx bw bf : Nat → Int32), j + d = c 2 → d < n → n0 ≤ 3 * j → qa_A 24 c K L R bc bk bx bw → qa_YF bc bk bx bw n0 (qa_FX c K L R (qa_on mask (K 2)) (K 2) (L 2) (R 2) (fun i => vl + 2 * qa_rk (qa_on mask (K 2)) i) j) →
      wY_certain_46 post mask (nI a) (nI b) n (nI (48 + j)) (nI rl) (nI vw) (nI vl) (nI rm) (nI h0) (nI h1) (nI (vl + 2 * qa_rk (qa_on mask (K 2)) j)) bc bk bx bw bf bg := by
  have hl := W.2.2.1.2
  have h8 := qa_W_8 W 2 (by decide)
  intro d
  induction d with
  | zero =>
    intro j n n0 bc bk bx bw bf hj hn h3 B Y
    obtain ⟨n, rfl⟩ : ∃ m, n = m + 1 := ⟨n - 1, by omega⟩
    have hrk := qa_rk_le (qa_on mask (K 2)) j
    have e : j = c 2 := by omega
    subst e
    refine br_t ?_ ?_
    · rw [(B 2 (by decide)).1, show (48 : Int32) + nI (c 2) = nI (48 + c 2) from nI_add 48 _]
      exact nI_le (by omega) (by omega)
    · exact qy_matches W B Y (by omega) (by omega) (by omega) (by omega) (fun z bf2 => p1 z _ bc bk bx bw bf2 B) (fun z bf2 => p0 z _ bc bk bx bw bf2 B)
  | succ d ih =>
    intro j n n0 bc bk bx bw bf hj hn h3 B Y
    obtain ⟨n, rfl⟩ : ∃ m, n = m + 1 := ⟨n - 1, by omega⟩
    have hrk := qa_rk_le (qa_on mask (K 2)) j
    obtain ⟨e1, e2, e3⟩ := (B 2 (by decide)).2 j (by omega)
    obtain ⟨b1, b2, b3⟩ := qa_W_b W (s := 2) (by decide) j (by omega)
    have hcl : (nI (48 + j)).toNatClampNeg = 2 * 24 + j := nI_clamp (by omega)
    have hin : vp_in (nI (48 + j)) 168 := vp_in_nI (by omega) (by omega)
    have hw := qa_W_3 W _ b1
    refine br_f ?_ ⟨hin, ?_⟩
    · rw [(B 2 (by decide)).1, show (48 : Int32) + nI (c 2) = nI (48 + c 2) from nI_add 48 _]
      exact nI_ge (by omega) (by omega)
    · rw [hcl, e1, e2, e3]
      refine ek_if (qa_on_t (V := K 2) (i := j)).symm (fun h => ⟨hin, hin, hin, ?_⟩) (fun h => nm_r (qn_s _ _) ?_)
      · refine qy_vouch W B b1 (by omega) (by omega) (by omega) (by omega) Y (fun k x y => qa_FX_t h) (fun bc2 bk2 bx2 bw2 bf2 B2 Y2 => nm_r (qn_s _ _) ?_)
        have := ih (j + 1) n _ bc2 bk2 bx2 bw2 bf2 (by omega) (by omega) (by omega) B2 Y2
        rw [show vl + 2 * qa_rk (qa_on mask (K 2)) (j + 1) = vl + 2 * qa_rk (qa_on mask (K 2)) j + 2 by rw [qa_rk_t h]; omega] at this
        exact this
      · have := ih (j + 1) n n0 bc bk bx bw bf (by omega) (by omega) (by omega) B (qa_YF_cg Y (fun k x y => qa_FX_f h))
        rw [qa_rk_f h] at this
        exact this
theorem qy_certain {post : Int32 → SY → Prop} {mask : Int32} {a b : Nat} (W : qa_W rl vw vl rm h0 h1 c K L R) (B : qa_A 24 c K L R bc bk bx bw) (ha : a < vl) (hb : b < vl)
    (p1 : qa_Mt (c 0) (K 0) (L 0) (R 0) (qa_FX c K L R (qa_on mask (K 2)) (K 2) (L 2) (R 2) (fun i => vl + 2 * qa_rk (qa_on mask (K 2)) i) (c 2)) (vl + 2 * qa_rk (qa_on mask (K 2)) (c 2)) a b → ∀ yt2 bc2 bk2 bx2 bw2 bf2, qa_A 24 c K L R bc2 bk2 bx2 bw2 → post 1 (nI rl, nI vw, nI vl, nI rm, nI h0, nI h1, yt2, bc2, bk2, bx2, bw2, bf2, bg))
    (p0 : ¬ qa_Mt (c 0) (K 0) (L 0) (R 0) (qa_FX c K L R (qa_on mask (K 2)) (K 2) (L 2) (R 2) (fun i => vl + 2 * qa_rk (qa_on mask (K 2)) i) (c 2)) (vl + 2 * qa_rk (qa_on mask (K 2)) (c 2)) a b → ∀ yt2 bc2 bk2 bx2 bw2 bf2, qa_A 24 c K L R bc2 bk2 bx2 bw2 → post 0 (nI rl, nI vw, nI vl, nI rm, nI h0, nI h1, yt2, bc2, bk2, bx2, bw2, bf2, bg)) :
    wpY_certain post (nI rl, nI vw, nI vl, nI rm, nI h0, nI h1, yt, bc, bk, bx, bw, bf, bg) mask (nI a) (nI b) := by
  have hl := W.2.2.1.2
  refine br_f (nI_pos (by omega)) (br_f (nI_ge ha (by omega)) (br_f (nI_pos (by omega)) (br_t (nI_lt hb (by omega)) (nm_e ⟨c 2 + 1, ?_⟩))))
  exact qy_ce46 W ha hb p1 p0 (c 2) 0 (c 2 + 1) 0 _ _ _ _ _ (by omega) (by omega) (by omega) (qa_A_c6 B) (qa_YF_0 pk_us (fun _ _ _ => qa_FX_0))
theorem qy_so16 {post : Int32 → SY → Prop} (W : qa_W rl vw vl rm h0 h1 c K L R)
    (p1 : qa_Mt (c 0) (K 0) (L 0) (R 0) (qa_FX c K L R (qa_on (-1) (K 1)) (K 1) (L 1) (R 1) (fun i => 5 + 2 * qa_rk (qa_on (-1) (K 1)) i) (c 1)) (5 + 2 * qa_rk (qa_on (-1) (K 1)) (c 1)) h0 h1 → ∀ yt2 bc2 bk2 bx2 bw2 bf2, qa_A 24 c K L R bc2 bk2 bx2 bw2 → post 1 (nI rl, nI vw, nI vl, nI rm, nI h0, nI h1, yt2, bc2, bk2, bx2, bw2, bf2, bg))
    (p0 : ¬ qa_Mt (c 0) (K 0) (L 0) (R 0) (qa_FX c K L R (qa_on (-1) (K 1)) (K 1) (L 1) (R 1) (fun i => 5 + 2 * qa_rk (qa_on (-1) (K 1)) i) (c 1)) (5 + 2 * qa_rk (qa_on (-1) (K 1)) (c 1)) h0 h1 → ∀ yt2 bc2 bk2 bx2 bw2 bf2, qa_A 24 c K L R bc2 bk2 bx2 bw2 → post 0 (nI rl, nI vw, nI vl, nI rm, nI h0, nI h1, yt2, bc2, bk2, bx2, bw2, bf2, bg)) :
    ∀ d j n n0 (bc bk bx bw bf : Nat → Int32), j + d = c 1 → d < n → n0 ≤ 3 * j → qa_A 24 c K L R bc bk bx bw → qa_YF bc bk bx bw n0 (qa_FX c K L R (qa_on (-1) (K 1)) (K 1) (L 1) (R 1) (fun i => 5 + 2 * qa_rk (qa_on (-1) (K 1)) i) j) →
      wY_sound_16 post n (nI (24 + j)) (nI rl) (nI vw) (nI vl) (nI rm) (nI h0) (nI h1) (nI (5 + 2 * qa_rk (qa_on (-1) (K 1)) j)) bc bk bx bw bf bg := by
  have hh0 := W.2.2.2.2.1
  have hh1 := W.2.2.2.2.2.1
  have h8 := qa_W_8 W 1 (by decide)
  intro d
  induction d with
  | zero =>
    intro j n n0 bc bk bx bw bf hj hn h3 B Y
    obtain ⟨n, rfl⟩ : ∃ m, n = m + 1 := ⟨n - 1, by omega⟩
    have hrk := qa_rk_le (qa_on (-1) (K 1)) j
    have e : j = c 1 := by omega
    subst e
    refine br_t ?_ ?_
    · rw [(B 1 (by decide)).1, show (24 : Int32) + nI (c 1) = nI (24 + c 1) from nI_add 24 _]
      exact nI_le (by omega) (by omega)
    · exact qy_matches W B Y (by omega) (by omega) (by omega) (by omega) (fun z bf2 => p1 z _ bc bk bx bw bf2 B) (fun z bf2 => p0 z _ bc bk bx bw bf2 B)
  | succ d ih =>
    intro j n n0 bc bk bx bw bf hj hn h3 B Y
    obtain ⟨n, rfl⟩ : ∃ m, n = m + 1 := ⟨n - 1, by omega⟩
    have hrk := qa_rk_le (qa_on (-1) (K 1)) j
    obtain ⟨e1, e2, e3⟩ := (B 1 (by decide)).2 j (by omega)
    obtain ⟨b1, b2, b3⟩ := qa_W_b W (s := 1) (by decide) j (by omega)
    have hcl : (nI (24 + j)).toNatClampNeg = 1 * 24 + j := nI_clamp (by omega)
    have hin : vp_in (nI (24 + j)) 168 := vp_in_nI (by omega) (by omega)
    have hw := qa_W_3 W _ b1
    have h : qa_on (-1) (K 1) j = true := qa_on_t.mpr ((by decide : ∀ v, v < 3 → ((-1 : Int32) >>> (nI v &&& 31)) &&& 1 = 1) _ b1)
    refine br_f ?_ ⟨hin, hin, hin, ?_⟩
    · rw [(B 1 (by decide)).1, show (24 : Int32) + nI (c 1) = nI (24 + c 1) from nI_add 24 _]
      exact nI_ge (by omega) (by omega)
    · rw [hcl, e1, e2, e3]
      refine qy_vouch W B b1 (by omega) (by omega) (by omega) (by omega) Y (fun k x y => qa_FX_t h) (fun bc2 bk2 bx2 bw2 bf2 B2 Y2 => nm_r (qn_s _ _) ?_)
      have := ih (j + 1) n _ bc2 bk2 bx2 bw2 bf2 (by omega) (by omega) (by omega) B2 Y2
      rw [show 5 + 2 * qa_rk (qa_on (-1) (K 1)) (j + 1) = 5 + 2 * qa_rk (qa_on (-1) (K 1)) j + 2 by rw [qa_rk_t h]; omega] at this
      exact this
theorem qy_sound {post : Int32 → SY → Prop} (W : qa_W rl vw vl rm h0 h1 c K L R) (B : qa_A 24 c K L R bc bk bx bw)
    (p1 : qa_Mt (c 0) (K 0) (L 0) (R 0) (qa_FX c K L R (qa_on (-1) (K 1)) (K 1) (L 1) (R 1) (fun i => 5 + 2 * qa_rk (qa_on (-1) (K 1)) i) (c 1)) (5 + 2 * qa_rk (qa_on (-1) (K 1)) (c 1)) h0 h1 → ∀ yt2 bc2 bk2 bx2 bw2 bf2, qa_A 24 c K L R bc2 bk2 bx2 bw2 → post 1 (nI rl, nI vw, nI vl, nI rm, nI h0, nI h1, yt2, bc2, bk2, bx2, bw2, bf2, bg))
    (p0 : ¬ qa_Mt (c 0) (K 0) (L 0) (R 0) (qa_FX c K L R (qa_on (-1) (K 1)) (K 1) (L 1) (R 1) (fun i => 5 + 2 * qa_rk (qa_on (-1) (K 1)) i) (c 1)) (5 + 2 * qa_rk (qa_on (-1) (K 1)) (c 1)) h0 h1 → ∀ yt2 bc2 bk2 bx2 bw2 bf2, qa_A 24 c K L R bc2 bk2 bx2 bw2 → post 0 (nI rl, nI vw, nI vl, nI rm, nI h0, nI h1, yt2, bc2, bk2, bx2, bw2, bf2, bg)) :
    wpY_sound post (nI rl, nI vw, nI vl, nI rm, nI h0, nI h1, yt, bc, bk, bx, bw, bf, bg) := by
  refine nm_e ⟨c 1 + 1, ?_⟩
  exact qy_so16 W p1 p0 (c 1) 0 (c 1 + 1) 0 _ _ _ _ _ (by omega) (by omega) (by omega) (qa_A_c6 B) (qa_YF_0 pk_us (fun _ _ _ => qa_FX_0))
theorem qy_re15 {post : Int32 → SY → Prop} {mask : Int32} (W : qa_W rl vw vl rm h0 h1 c K L R)
    (p1 : qa_Mt (c 0) (K 0) (L 0) (R 0) (qa_FX c K L R (qa_on mask (fun i => i)) (fun i => i) (fun _ => 0) (fun _ => 0) (fun i => 1 + 2 * qa_rk (qa_on mask (fun i => i)) i) vw) (1 + 2 * qa_rk (qa_on mask (fun i => i)) vw) 0 0 → ∀ yt2 bc2 bk2 bx2 bw2 bf2, qa_A 24 c K L R bc2 bk2 bx2 bw2 → post 1 (nI rl, nI vw, nI vl, nI rm, nI h0, nI h1, yt2, bc2, bk2, bx2, bw2, bf2, bg))
    (p0 : ¬ qa_Mt (c 0) (K 0) (L 0) (R 0) (qa_FX c K L R (qa_on mask (fun i => i)) (fun i => i) (fun _ => 0) (fun _ => 0) (fun i => 1 + 2 * qa_rk (qa_on mask (fun i => i)) i) vw) (1 + 2 * qa_rk (qa_on mask (fun i => i)) vw) 0 0 → ∀ yt2 bc2 bk2 bx2 bw2 bf2, qa_A 24 c K L R bc2 bk2 bx2 bw2 → post 0 (nI rl, nI vw, nI vl, nI rm, nI h0, nI h1, yt2, bc2, bk2, bx2, bw2, bf2, bg)) :
    ∀ d j n n0 (bc bk bx bw bf : Nat → Int32), j + d = vw → d < n → n0 ≤ 3 * j → qa_A 24 c K L R bc bk bx bw → qa_YF bc bk bx bw n0 (qa_FX c K L R (qa_on mask (fun i => i)) (fun i => i) (fun _ => 0) (fun _ => 0) (fun i => 1 + 2 * qa_rk (qa_on mask (fun i => i)) i) j) →
      wY_rewritable_15 post mask n (nI j) (nI rl) (nI vw) (nI vl) (nI rm) (nI h0) (nI h1) (nI (1 + 2 * qa_rk (qa_on mask (fun i => i)) j)) bc bk bx bw bf bg := by
  have hv := W.2.1.2
  intro d
  induction d with
  | zero =>
    intro j n n0 bc bk bx bw bf hj hn h3 B Y
    obtain ⟨n, rfl⟩ : ∃ m, n = m + 1 := ⟨n - 1, by omega⟩
    have hrk := qa_rk_le (qa_on mask (fun i => i)) j
    have e : j = vw := by omega
    subst e
    refine br_t (nI_le (by omega) (by omega)) ?_
    exact qy_matches (p := 0) (q := 0) W B Y (by omega) (by omega) (by omega) (by omega) (fun z bf2 => p1 z _ bc bk bx bw bf2 B) (fun z bf2 => p0 z _ bc bk bx bw bf2 B)
  | succ d ih =>
    intro j n n0 bc bk bx bw bf hj hn h3 B Y
    obtain ⟨n, rfl⟩ : ∃ m, n = m + 1 := ⟨n - 1, by omega⟩
    have hrk := qa_rk_le (qa_on mask (fun i => i)) j
    have hw := qa_W_3 W j (by omega)
    refine br_f (nI_ge (by omega) (by omega)) ?_
    refine ek_if (qa_on_t (V := fun i => i) (i := j)).symm (fun h => ?_) (fun h => nm_r (nI_1 j) ?_)
    · refine qy_vouch (v := j) (p := 0) (q := 0) W B (by omega) (by omega) (by omega) (by omega) (by omega) Y (fun k x y => qa_FX_t h) (fun bc2 bk2 bx2 bw2 bf2 B2 Y2 => nm_r (nI_1 j) ?_)
      have := ih (j + 1) n _ bc2 bk2 bx2 bw2 bf2 (by omega) (by omega) (by omega) B2 Y2
      rw [show 1 + 2 * qa_rk (qa_on mask (fun i => i)) (j + 1) = 1 + 2 * qa_rk (qa_on mask (fun i => i)) j + 2 by rw [qa_rk_t h]; omega] at this
      exact this
    · have := ih (j + 1) n n0 bc bk bx bw bf (by omega) (by omega) (by omega) B (qa_YF_cg Y (fun k x y => qa_FX_f h))
      rw [qa_rk_f h] at this
      exact this
theorem qy_rewritable {post : Int32 → SY → Prop} {mask : Int32} (W : qa_W rl vw vl rm h0 h1 c K L R) (B : qa_A 24 c K L R bc bk bx bw)
    (p1 : qa_Mt (c 0) (K 0) (L 0) (R 0) (qa_FX c K L R (qa_on mask (fun i => i)) (fun i => i) (fun _ => 0) (fun _ => 0) (fun i => 1 + 2 * qa_rk (qa_on mask (fun i => i)) i) vw) (1 + 2 * qa_rk (qa_on mask (fun i => i)) vw) 0 0 → ∀ yt2 bc2 bk2 bx2 bw2 bf2, qa_A 24 c K L R bc2 bk2 bx2 bw2 → post 1 (nI rl, nI vw, nI vl, nI rm, nI h0, nI h1, yt2, bc2, bk2, bx2, bw2, bf2, bg))
    (p0 : ¬ qa_Mt (c 0) (K 0) (L 0) (R 0) (qa_FX c K L R (qa_on mask (fun i => i)) (fun i => i) (fun _ => 0) (fun _ => 0) (fun i => 1 + 2 * qa_rk (qa_on mask (fun i => i)) i) vw) (1 + 2 * qa_rk (qa_on mask (fun i => i)) vw) 0 0 → ∀ yt2 bc2 bk2 bx2 bw2 bf2, qa_A 24 c K L R bc2 bk2 bx2 bw2 → post 0 (nI rl, nI vw, nI vl, nI rm, nI h0, nI h1, yt2, bc2, bk2, bx2, bw2, bf2, bg)) :
    wpY_rewritable post (nI rl, nI vw, nI vl, nI rm, nI h0, nI h1, yt, bc, bk, bx, bw, bf, bg) mask := by
  refine nm_e ⟨vw + 1, ?_⟩
  exact qy_re15 W p1 p0 vw 0 (vw + 1) 0 _ _ _ _ _ (by omega) (by omega) (by omega) (qa_A_c6 B) (qa_YF_0 pk_us (fun _ _ _ => qa_FX_0))
/-! by codes -/
theorem qy_ch28 {post : Int32 → SY → Prop} {a b : Nat} (W : qa_W rl vw vl rm h0 h1 c K L R) (B : qa_A 24 c K L R bc bk bx bw) (ha : a < vl) (hb : b < vl) :
    ∀ d code n (bf bg : Nat → Int32), code + d = 3125 → d < n →
      ((∃ i, code ≤ i ∧ i < 3125 ∧ (qa_dg i h0 = a ∧ qa_dg i h1 = b ∧ qa_Ca (c 1) (K 1) (L 1) (R 1) (qa_In (c 2) (K 2) (L 2) (R 2)) (qa_dg i))) → ∀ bf2 bg2, post 1 (nI rl, nI vw, nI vl, nI rm, nI h0, nI h1, yt, bc, bk, bx, bw, bf2, bg2)) →
      ((¬ ∃ i, code ≤ i ∧ i < 3125 ∧ (qa_dg i h0 = a ∧ qa_dg i h1 = b ∧ qa_Ca (c 1) (K 1) (L 1) (R 1) (qa_In (c 2) (K 2) (L 2) (R 2)) (qa_dg i))) → ∀ bf2 bg2, post 0 (nI rl, nI vw, nI vl, nI rm, nI h0, nI h1, yt, bc, bk, bx, bw, bf2, bg2)) →
      wY_candidateHas_28 post (nI a) (nI b) n (nI code) (nI rl) (nI vw) (nI vl) (nI rm) (nI h0) (nI h1) yt bc bk bx bw bf bg := by
  have hl := W.2.2.1.2
  have hh0 := W.2.2.2.2.1
  have hh1 := W.2.2.2.2.2.1
  have hL : ∀ j, j < c 1 → L 1 j < 5 ∧ R 1 j < 5 := fun j hj => (qa_W_b W (by decide) j hj).2
  intro d
  induction d with
  | zero =>
    intro code n bf bg hi hn p1 p0
    obtain ⟨n, rfl⟩ : ∃ m, n = m + 1 := ⟨n - 1, by omega⟩
    exact br_t (nI_le (a := 3125) (by omega) (by omega)) (p0 (qa_ex_no (by omega)) bf bg)
  | succ d ih =>
    intro code n bf bg hi hn p1 p0
    obtain ⟨n, rfl⟩ : ∃ m, n = m + 1 := ⟨n - 1, by omega⟩
    have d0 := qa_dg_lt code h0
    have d1 := qa_dg_lt code h1
    have nxt : ∀ bf2 bg2, (¬ (qa_dg code h0 = a ∧ qa_dg code h1 = b ∧ qa_Ca (c 1) (K 1) (L 1) (R 1) (qa_In (c 2) (K 2) (L 2) (R 2)) (qa_dg code))) → wY_candidateHas_28 post (nI a) (nI b) n (nI (code + 1)) (nI rl) (nI vw) (nI vl) (nI rm) (nI h0) (nI h1) yt bc bk bx bw bf2 bg2 := fun bf2 bg2 z =>
      ih (code + 1) n bf2 bg2 (by omega) (by omega) (fun w => p1 ((qa_ex_s (by omega)).mpr (Or.inr w))) (fun w => p0 (fun y => ((qa_ex_s (by omega)).mp y).elim z w))
    refine br_f (nI_ge (b := 3125) (by omega) (by decide)) ?_
    refine qy_spread (by omega) (fun bf2 bg2 hg => ?_)
    refine ⟨vp_in_nI hh0 (by omega), pk_eq (qa_dg code h0) a (fun e0 => ⟨vp_in_nI hh1 (by omega), pk_eq (qa_dg code h1) b (fun e1 => ?_) (fun e1 => nm_r (nI_1 code) (nxt bf2 bg2 (fun z => e1 z.2.1))) (by rw [nI_clamp (by omega)]; exact (hg h1 hh1).1)⟩) (fun e0 => nm_r (nI_1 code) (nxt bf2 bg2 (fun z => e0 z.1))) (by rw [nI_clamp (by omega)]; exact (hg h0 hh0).1)⟩
    exact qy_carried (s := 1) (t := 2) (by decide) (by decide) (qa_S_A W B (by decide)) (qa_S_A W B (by decide)) (Nat.le_refl 5) hL (fun v hv => ⟨(hg v hv).1, Nat.lt_trans (qa_dg_lt code v) (by decide)⟩) (fun z => br_f qn_10 (p1 ⟨code, Nat.le_refl _, by omega, e0, e1, z⟩ bf2 bg2)) (fun z => br_t rfl (nm_r (nI_1 code) (nxt bf2 bg2 (fun w => z w.2.2))))
theorem qy_candidateHas {post : Int32 → SY → Prop} {a b : Nat} (W : qa_W rl vw vl rm h0 h1 c K L R) (B : qa_A 24 c K L R bc bk bx bw) (ha : a < vl) (hb : b < vl)
    (p1 : qa_Cd h0 h1 a b (c 1) (K 1) (L 1) (R 1) (qa_In (c 2) (K 2) (L 2) (R 2)) 5 → ∀ bf2 bg2, post 1 (nI rl, nI vw, nI vl, nI rm, nI h0, nI h1, yt, bc, bk, bx, bw, bf2, bg2)) (p0 : ¬ qa_Cd h0 h1 a b (c 1) (K 1) (L 1) (R 1) (qa_In (c 2) (K 2) (L 2) (R 2)) 5 → ∀ bf2 bg2, post 0 (nI rl, nI vw, nI vl, nI rm, nI h0, nI h1, yt, bc, bk, bx, bw, bf2, bg2)) :
    wpY_candidateHas post (nI rl, nI vw, nI vl, nI rm, nI h0, nI h1, yt, bc, bk, bx, bw, bf, bg) (nI a) (nI b) := by
  have hl := W.2.2.1.2
  have hL : ∀ j, j < c 1 → L 1 j < 5 ∧ R 1 j < 5 := fun j hj => (qa_W_b W (by decide) j hj).2
  have hcd := qa_Cd_code (a := a) (b := b) (m := c 1) (K := K 1) (F := qa_In (c 2) (K 2) (L 2) (R 2)) W.2.2.2.2.1 W.2.2.2.2.2.1 hL
  refine br_f (nI_pos (by omega)) (br_f (nI_ge ha (by omega)) (br_f (nI_pos (by omega)) (br_t (nI_lt hb (by omega)) ⟨3126, ?_⟩)))
  refine qy_ch28 W B ha hb 3125 0 3126 bf bg (by omega) (by omega) (fun z => p1 (hcd.mpr ?_)) (fun z => p0 (fun w => z ?_))
  · obtain ⟨i, _, h1, h2⟩ := z
    exact ⟨i, h1, h2⟩
  · obtain ⟨i, h1, h2⟩ := hcd.mp w
    exact ⟨i, Nat.zero_le _, h1, h2⟩
theorem qy_bf17 {post : Int32 → SY → Prop} {v p q : Nat} (W : qa_W rl vw vl rm h0 h1 c K L R) (B : qa_A 24 c K L R bc bk bx bw) (hv : v < 3) (hp : p < 5) (hq : q < 5) :
    ∀ d i n (bf : Nat → Int32), i + d = 25 → d < n → bf 0 = nI p → bf 1 = nI q →
      ((∃ i', i ≤ i' ∧ i' < 25 ∧ qa_Ca (c (3 + v)) (K (3 + v)) (L (3 + v)) (R (3 + v)) (qa_In (c 0) (K 0) (L 0) (R 0)) (qa_g5 p q (i' / 5) (i' % 5) 0)) → ∀ bf2, post 1 (yr, yv, yl, ym, y0, y1, yt, bc, bk, bx, bw, bf2, bg)) →
      ((¬ ∃ i', i ≤ i' ∧ i' < 25 ∧ qa_Ca (c (3 + v)) (K (3 + v)) (L (3 + v)) (R (3 + v)) (qa_In (c 0) (K 0) (L 0) (R 0)) (qa_g5 p q (i' / 5) (i' % 5) 0)) → ∀ bf2, post 0 (yr, yv, yl, ym, y0, y1, yt, bc, bk, bx, bw, bf2, bg)) →
      wY_bodyFits_17 post (nI v) yr yv yl ym y0 y1 yt n (nI i) bc bk bx bw bf bg := by
  have h5 : ¬ (5 : Int32) = 0 := by decide
  intro d
  induction d with
  | zero =>
    intro i n bf hi hn i0 i1 p1 p0
    obtain ⟨n, rfl⟩ : ∃ m, n = m + 1 := ⟨n - 1, by omega⟩
    exact br_t (nI_le (a := 25) (by omega) (by omega)) (p0 (qa_ex_no (by omega)) bf)
  | succ d ih =>
    intro i n bf hi hn i0 i1 p1 p0
    obtain ⟨n, rfl⟩ : ∃ m, n = m + 1 := ⟨n - 1, by omega⟩
    have k0 : upd (upd bf 2 (nI (i / 5))) 3 (nI (i % 5)) 0 = nI p := by rw [pk_un (by decide), pk_un (by decide)]; exact i0
    have k1 : upd (upd bf 2 (nI (i / 5))) 3 (nI (i % 5)) 1 = nI q := by rw [pk_un (by decide), pk_un (by decide)]; exact i1
    have k2 : upd (upd bf 2 (nI (i / 5))) 3 (nI (i % 5)) 2 = nI (i / 5) := by rw [pk_un (by decide), pk_us]
    have hg : ∀ w, w < 4 → upd (upd bf 2 (nI (i / 5))) 3 (nI (i % 5)) w = nI (qa_g5 p q (i / 5) (i % 5) 0 w) ∧ qa_g5 p q (i / 5) (i % 5) 0 w < 1000 := fun w hw =>
      match w, hw with
      | 0, _ => ⟨k0, (by omega : p < 1000)⟩
      | 1, _ => ⟨k1, (by omega : q < 1000)⟩
      | 2, _ => ⟨k2, (by omega : i / 5 < 1000)⟩
      | 3, _ => ⟨pk_us, (by omega : i % 5 < 1000)⟩
    refine br_f (nI_ge (b := 25) (by omega) (by decide)) ⟨h5, nm_r (e' := upd bf 2 (nI (i / 5))) (by rw [show nI i / 5 = nI (i / 5) from pk_div (d := 5) (by omega) (by decide) (by decide)]) ⟨h5, nm_r (e' := upd (upd bf 2 (nI (i / 5))) 3 (nI (i % 5))) (by rw [show nI i - nI i / 5 * 5 = nI (i % 5) from pk_rem (d := 5) (by omega) (by decide) (by decide)]) ?_⟩⟩
    rw [qn_3]
    refine qy_carried (s := 3 + v) (t := 0) (by omega) (by decide) (qa_S_A W B (by omega)) (qa_S_A W B (by decide)) (T := 4) (by decide) (fun j hj => (qa_W_v W v hv j hj).2) hg (fun z => br_f qn_10 (p1 ⟨i, Nat.le_refl _, by omega, z⟩ _)) (fun z => br_t rfl (nm_r (nI_1 i) (ih (i + 1) n _ (by omega) (by omega) k0 k1 (fun w => p1 ((qa_ex_s (by omega)).mpr (Or.inr w))) (fun w => p0 (fun y => ((qa_ex_s (by omega)).mp y).elim z w)))))
theorem qy_bodyFits {post : Int32 → SY → Prop} {v p q : Nat} (W : qa_W rl vw vl rm h0 h1 c K L R) (B : qa_A 24 c K L R bc bk bx bw) (hv : v < 3) (hp : p < 5) (hq : q < 5)
    (p1 : qa_Vg c K L R v p q → ∀ bf2, post 1 (yr, yv, yl, ym, y0, y1, yt, bc, bk, bx, bw, bf2, bg)) (p0 : ¬ qa_Vg c K L R v p q → ∀ bf2, post 0 (yr, yv, yl, ym, y0, y1, yt, bc, bk, bx, bw, bf2, bg)) : wpY_bodyFits post (yr, yv, yl, ym, y0, y1, yt, bc, bk, bx, bw, bf, bg) (nI v) (nI p) (nI q) := by
  refine nm_e (nm_e ⟨26, ?_⟩)
  exact qy_bf17 W B hv hp hq 25 0 26 _ (by omega) (by omega) ((pk_un (by decide)).trans pk_us) pk_us (fun z => p1 (qa_Vg_n.mpr z)) (fun z => p0 (fun w => z (qa_Vg_n.mp w)))
theorem qy_co48 {post : Int32 → SY → Prop} {J2 : _} {code : Nat} {g : Nat → Nat} (W : qa_W rl vw vl rm h0 h1 c K L R) (B : qa_A 24 c K L R bc bk bx bw) (hg : ∀ v, v < 5 → bg v = nI (g v) ∧ g v < 5) :
    ∀ d j n (bf : Nat → Int32), j + d = c 1 → d < n →
      ((∀ i, j ≤ i → i < c 1 → qa_Vg c K L R (K 1 i) (g (L 1 i)) (g (R 1 i))) → ∀ bf2, post 1 (yr, yv, yl, ym, y0, y1, yt, bc, bk, bx, bw, bf2, bg)) →
      ((¬ ∀ i, j ≤ i → i < c 1 → qa_Vg c K L R (K 1 i) (g (L 1 i)) (g (R 1 i))) → ∀ bf2, J2 (nI (code + 1)) yr yv yl ym y0 y1 yt bc bk bx bw bf2 bg) →
      wY_complete_48 post J2 (nI code) n 1 (nI (24 + j)) yr yv yl ym y0 y1 yt bc bk bx bw bf bg := by
  have h8 := qa_W_8 W 1 (by decide)
  intro d
  induction d with
  | zero =>
    intro j n bf hj hn p1 p0
    obtain ⟨n, rfl⟩ : ∃ m, n = m + 1 := ⟨n - 1, by omega⟩
    refine br_f qn_10 (br_t ?_ (br_f qn_10 (p1 (fun i q1 q2 => absurd q1 (by omega)) bf)))
    rw [(B 1 (by decide)).1, show (24 : Int32) + nI (c 1) = nI (24 + c 1) from nI_add 24 _]
    exact nI_le (by omega) (by omega)
  | succ d ih =>
    intro j n bf hj hn p1 p0
    obtain ⟨n, rfl⟩ : ∃ m, n = m + 1 := ⟨n - 1, by omega⟩
    obtain ⟨e1, e2, e3⟩ := (B 1 (by decide)).2 j (by omega)
    obtain ⟨b1, b2, b3⟩ := qa_W_b W (s := 1) (by decide) j (by omega)
    obtain ⟨g1, g2⟩ := hg _ b2
    obtain ⟨g3, g4⟩ := hg _ b3
    have hcl : (nI (24 + j)).toNatClampNeg = 1 * 24 + j := nI_clamp (by omega)
    have hin : vp_in (nI (24 + j)) 168 := vp_in_nI (by omega) (by omega)
    refine br_f qn_10 (br_f ?_ ⟨hin, hin, ?_⟩)
    · rw [(B 1 (by decide)).1, show (24 : Int32) + nI (c 1) = nI (24 + c 1) from nI_add 24 _]
      exact nI_ge (by omega) (by omega)
    · rw [hcl, e1, e2, e3, nI_clamp (show L 1 j < 2 ^ 31 by omega), nI_clamp (show R 1 j < 2 ^ 31 by omega), g1, g3]
      refine ⟨vp_in_nI (by omega) (by omega), hin, vp_in_nI (by omega) (by omega), ?_⟩
      refine qy_bodyFits W B b1 g2 g4 (fun z bf2 => nm_r (qn_s _ _) (ih (j + 1) n bf2 (by omega) (by omega) (fun w => p1 (fun i q1 q2 => ?_)) (fun w => p0 (fun q => w (fun i q1 q2 => q i (by omega) q2))))) (fun z bf2 => nm_r (qn_s _ _) ?_)
      · by_cases e : i = j
        · subst e; exact z
        · exact w i (by omega) q2
      · obtain ⟨n, rfl⟩ : ∃ m, n = m + 1 := ⟨n - 1, by omega⟩
        exact br_t rfl (br_t rfl (nm_r (nI_1 code) (p0 (fun q => z (q j (by omega) (by omega))) bf2)))
theorem qy_co2 {post : Int32 → SY → Prop} (W : qa_W rl vw vl rm h0 h1 c K L R) (B : qa_A 24 c K L R bc bk bx bw) :
    ∀ d code n (bf bg : Nat → Int32), code + d = 3125 → d < n →
      ((∃ i, code ≤ i ∧ i < 3125 ∧ (qa_dg i h0 = 0 ∧ qa_dg i h1 = 1 ∧ ∀ j, j < c 1 → qa_Vg c K L R (K 1 j) (qa_dg i (L 1 j)) (qa_dg i (R 1 j)))) → ∀ bf2 bg2, post 1 (nI rl, nI vw, nI vl, nI rm, nI h0, nI h1, yt, bc, bk, bx, bw, bf2, bg2)) →
      ((¬ ∃ i, code ≤ i ∧ i < 3125 ∧ (qa_dg i h0 = 0 ∧ qa_dg i h1 = 1 ∧ ∀ j, j < c 1 → qa_Vg c K L R (K 1 j) (qa_dg i (L 1 j)) (qa_dg i (R 1 j)))) → ∀ bf2 bg2, post 0 (nI rl, nI vw, nI vl, nI rm, nI h0, nI h1, yt, bc, bk, bx, bw, bf2, bg2)) →
      wY_complete_2 post n (nI code) (nI rl) (nI vw) (nI vl) (nI rm) (nI h0) (nI h1) yt bc bk bx bw bf bg := by
  have hh0 := W.2.2.2.2.1
  have hh1 := W.2.2.2.2.2.1
  intro d
  induction d with
  | zero =>
    intro code n bf bg hi hn p1 p0
    obtain ⟨n, rfl⟩ : ∃ m, n = m + 1 := ⟨n - 1, by omega⟩
    exact br_t (nI_le (a := 3125) (by omega) (by omega)) (p0 (qa_ex_no (by omega)) bf bg)
  | succ d ih =>
    intro code n bf bg hi hn p1 p0
    obtain ⟨n, rfl⟩ : ∃ m, n = m + 1 := ⟨n - 1, by omega⟩
    have d0 := qa_dg_lt code h0
    have d1 := qa_dg_lt code h1
    have nxt : ∀ bf2 bg2, (¬ (qa_dg code h0 = 0 ∧ qa_dg code h1 = 1 ∧ ∀ j, j < c 1 → qa_Vg c K L R (K 1 j) (qa_dg code (L 1 j)) (qa_dg code (R 1 j)))) → wY_complete_2 post n (nI (code + 1)) (nI rl) (nI vw) (nI vl) (nI rm) (nI h0) (nI h1) yt bc bk bx bw bf2 bg2 := fun bf2 bg2 z =>
      ih (code + 1) n bf2 bg2 (by omega) (by omega) (fun w => p1 ((qa_ex_s (by omega)).mpr (Or.inr w))) (fun w => p0 (fun y => ((qa_ex_s (by omega)).mp y).elim z w))
    have z48 : ∀ bf2 bg2, (¬ (qa_dg code h0 = 0 ∧ qa_dg code h1 = 1 ∧ ∀ j, j < c 1 → qa_Vg c K L R (K 1 j) (qa_dg code (L 1 j)) (qa_dg code (R 1 j)))) → ∃ n48, wY_complete_48 post (wY_complete_2 post n) (nI code) n48 0 24 (nI rl) (nI vw) (nI vl) (nI rm) (nI h0) (nI h1) yt bc bk bx bw bf2 bg2 := fun bf2 bg2 z =>
      ⟨1, br_t rfl (br_t rfl (nm_r (nI_1 code) (nxt bf2 bg2 z)))⟩
    refine br_f (nI_ge (b := 3125) (by omega) (by decide)) ?_
    refine qy_spread (by omega) (fun bf2 bg2 hg => ?_)
    refine ⟨vp_in_nI hh0 (by omega), pk_eq (qa_dg code h0) 0 (fun e0 => ⟨vp_in_nI hh1 (by omega), pk_eq (qa_dg code h1) 1 (fun e1 => ?_) (fun e1 => z48 bf2 bg2 (fun z => e1 z.2.1)) (by rw [nI_clamp (by omega)]; exact (hg h1 hh1).2)⟩) (fun e0 => z48 bf2 bg2 (fun z => e0 z.1)) (by rw [nI_clamp (by omega)]; exact (hg h0 hh0).2)⟩
    refine ⟨c 1 + 1, qy_co48 W B (fun v hv => ⟨(hg v hv).2, qa_dg_lt code v⟩) (c 1) 0 (c 1 + 1) bf2 (by omega) (by omega) (fun z bf3 => p1 ⟨code, Nat.le_refl _, by omega, e0, e1, fun j hj => z j (Nat.zero_le _) hj⟩ bf3 bg2) (fun z bf3 => nxt bf3 bg2 (fun w => z (fun i _ h2 => w.2.2 i h2)))⟩
theorem qy_complete {post : Int32 → SY → Prop} (W : qa_W rl vw vl rm h0 h1 c K L R) (B : qa_A 24 c K L R bc bk bx bw)
    (p1 : (∃ i, i < 3125 ∧ (qa_dg i h0 = 0 ∧ qa_dg i h1 = 1 ∧ ∀ j, j < c 1 → qa_Vg c K L R (K 1 j) (qa_dg i (L 1 j)) (qa_dg i (R 1 j)))) → ∀ bf2 bg2, post 1 (nI rl, nI vw, nI vl, nI rm, nI h0, nI h1, yt, bc, bk, bx, bw, bf2, bg2))
    (p0 : (¬ ∃ i, i < 3125 ∧ (qa_dg i h0 = 0 ∧ qa_dg i h1 = 1 ∧ ∀ j, j < c 1 → qa_Vg c K L R (K 1 j) (qa_dg i (L 1 j)) (qa_dg i (R 1 j)))) → ∀ bf2 bg2, post 0 (nI rl, nI vw, nI vl, nI rm, nI h0, nI h1, yt, bc, bk, bx, bw, bf2, bg2)) : wpY_complete post (nI rl, nI vw, nI vl, nI rm, nI h0, nI h1, yt, bc, bk, bx, bw, bf, bg) := by
  refine ⟨3126, qy_co2 W B 3125 0 3126 bf bg (by omega) (by omega) (fun z => p1 ?_) (fun z => p0 (fun w => z ?_))⟩
  · obtain ⟨i, _, h1, h2⟩ := z
    exact ⟨i, h1, h2⟩
  · obtain ⟨i, h1, h2⟩ := w
    exact ⟨i, Nat.zero_le _, h1, h2⟩
end
