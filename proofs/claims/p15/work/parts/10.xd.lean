/-! the component's questions -/
section
variable {rl vw vl rm h0 h1 : Nat} {c : Nat → Nat} {K L R : Nat → Nat → Nat} {fr fv fl fm f0 f1 : Int32} {ac ak al ar lk im le gr : Nat → Int32}
theorem qa_W_8 (W : qa_W rl vw vl rm h0 h1 c K L R) : ∀ s, s < 6 → c s ≤ 8 := fun _ hs => qa_W_c W hs
theorem qa_W_v (W : qa_W rl vw vl rm h0 h1 c K L R) : ∀ v, v < 3 → ∀ j, j < c (3 + v) → K (3 + v) j < 3 ∧ L (3 + v) j < 4 ∧ R (3 + v) j < 4 := by
  intro v hv j hj
  obtain ⟨a, b, d⟩ := (W.2.2.2.2.2.2 (3 + v) (by omega)).2 j hj
  have e1 := qa_kd_le (s := 3 + v) W.1.2 W.2.1.2
  rw [qa_tm_3 (by omega)] at b d
  omega
theorem qx_certain {post : Int32 → St2 → Prop} {mask : Int32} {a b : Nat} (W : qa_W rl vw vl rm h0 h1 c K L R) (A : qa_A 8 c K L R ac ak al ar) (ha : a < vl) (hb : b < vl)
    (p1 : qa_Mt (c 0) (K 0) (L 0) (R 0) (qa_FX c K L R (qa_on mask (K 2)) (K 2) (L 2) (R 2) (fun i => 5 + 2 * i) (c 2)) 21 a b → ∀ lk2 im2 le2 gr2, post 1 (nI rl, nI vw, nI vl, nI rm, nI h0, nI h1, ac, ak, al, ar, lk2, im2, le2, gr2))
    (p0 : ¬ qa_Mt (c 0) (K 0) (L 0) (R 0) (qa_FX c K L R (qa_on mask (K 2)) (K 2) (L 2) (R 2) (fun i => 5 + 2 * i) (c 2)) 21 a b → ∀ lk2 im2 le2 gr2, post 0 (nI rl, nI vw, nI vl, nI rm, nI h0, nI h1, ac, ak, al, ar, lk2, im2, le2, gr2)) :
    wpX_certain post (nI rl, nI vw, nI vl, nI rm, nI h0, nI h1, ac, ak, al, ar, lk, im, le, gr) mask (nI a) (nI b) := by
  have hl := W.2.2.1.2
  unfold wpX_certain
  refine qx_below (n := vl) (by omega) (fun _ _ _ => br_f qn_10 ?_) (fun z => absurd ⟨a, ha, rfl⟩ z)
  refine qx_below (n := vl) (by omega) (fun _ _ _ => br_f qn_10 ?_) (fun z => absurd ⟨b, hb, rfl⟩ z)
  refine qx_unlinkAll (fun lk1 hz => ?_)
  refine qx_linkFactsOfSection (s := 2) A (by decide) (qa_W_8 W) (qa_W_b W (by decide)) (qa_W_v W) hz (fun lk2 H => ?_)
  exact qx_queryMatches A (qa_W_8 W 0 (by decide)) (qa_W_b W (by decide)) H (by omega) (by omega) (fun z im2 le2 gr2 => br_f qn_10 (p1 z lk2 im2 le2 gr2)) (fun z im2 le2 gr2 => br_t rfl (p0 z lk2 im2 le2 gr2))
theorem qx_sound {post : Int32 → St2 → Prop} (W : qa_W rl vw vl rm h0 h1 c K L R) (A : qa_A 8 c K L R ac ak al ar)
    (p1 : qa_Mt (c 0) (K 0) (L 0) (R 0) (qa_FX c K L R (qa_on (-1) (K 1)) (K 1) (L 1) (R 1) (fun i => 5 + 2 * i) (c 1)) 21 h0 h1 → ∀ lk2 im2 le2 gr2, post 1 (nI rl, nI vw, nI vl, nI rm, nI h0, nI h1, ac, ak, al, ar, lk2, im2, le2, gr2))
    (p0 : ¬ qa_Mt (c 0) (K 0) (L 0) (R 0) (qa_FX c K L R (qa_on (-1) (K 1)) (K 1) (L 1) (R 1) (fun i => 5 + 2 * i) (c 1)) 21 h0 h1 → ∀ lk2 im2 le2 gr2, post 0 (nI rl, nI vw, nI vl, nI rm, nI h0, nI h1, ac, ak, al, ar, lk2, im2, le2, gr2)) :
    wpX_sound post (nI rl, nI vw, nI vl, nI rm, nI h0, nI h1, ac, ak, al, ar, lk, im, le, gr) := by
  have hh0 := W.2.2.2.2.1
  have hh1 := W.2.2.2.2.2.1
  unfold wpX_sound
  refine qx_unlinkAll (fun lk1 hz => ?_)
  refine qx_linkFactsOfSection (s := 1) A (by decide) (qa_W_8 W) (qa_W_b W (by decide)) (qa_W_v W) hz (fun lk2 H => ?_)
  exact qx_queryMatches A (qa_W_8 W 0 (by decide)) (qa_W_b W (by decide)) H (by omega) (by omega) (fun z im2 le2 gr2 => br_f qn_10 (p1 z lk2 im2 le2 gr2)) (fun z im2 le2 gr2 => br_t rfl (p0 z lk2 im2 le2 gr2))
theorem qx_candidateHas {post : Int32 → St2 → Prop} {a b : Nat} (W : qa_W rl vw vl rm h0 h1 c K L R) (A : qa_A 8 c K L R ac ak al ar) (ha : a < vl) (hb : b < vl)
    (p1 : qa_Cd h0 h1 a b (c 1) (K 1) (L 1) (R 1) (qa_In (c 2) (K 2) (L 2) (R 2)) vl → ∀ lk2 im2 le2 gr2, post 1 (nI rl, nI vw, nI vl, nI rm, nI h0, nI h1, ac, ak, al, ar, lk2, im2, le2, gr2))
    (p0 : ¬ qa_Cd h0 h1 a b (c 1) (K 1) (L 1) (R 1) (qa_In (c 2) (K 2) (L 2) (R 2)) vl → ∀ lk2 im2 le2 gr2, post 0 (nI rl, nI vw, nI vl, nI rm, nI h0, nI h1, ac, ak, al, ar, lk2, im2, le2, gr2)) :
    wpX_candidateHas post (nI rl, nI vw, nI vl, nI rm, nI h0, nI h1, ac, ak, al, ar, lk, im, le, gr) (nI a) (nI b) := by
  have hl := W.2.2.1.2
  obtain ⟨T, rfl⟩ : ∃ T, vl = T + 1 := ⟨vl - 1, by omega⟩
  unfold wpX_candidateHas
  refine qx_below (n := T + 1) (by omega) (fun _ _ _ => br_f qn_10 ?_) (fun z => absurd ⟨a, ha, rfl⟩ z)
  refine qx_below (n := T + 1) (by omega) (fun _ _ _ => br_f qn_10 ?_) (fun z => absurd ⟨b, hb, rfl⟩ z)
  refine qx_unlinkAll (fun lk1 hz => ?_)
  refine qx_linkRows A (qa_W_8 W 2 (by decide)) (qa_W_b W (by decide)) hz (fun lk2 H => ?_)
  exact qx_candidateGives A (qa_W_8 W 1 (by decide)) (qa_W_b W (by decide)) H (by omega) (by omega) (by omega) W.2.2.2.2.1 W.2.2.2.2.2.1 (fun z im2 le2 gr2 => br_f qn_10 (p1 z lk2 im2 le2 gr2)) (fun z im2 le2 gr2 => br_t rfl (p0 z lk2 im2 le2 gr2))
end
