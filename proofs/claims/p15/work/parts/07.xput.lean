/-! the component's sections -/
section
variable {rl vw vl rm h0 h1 : Nat} {c : Nat → Nat} {K L R : Nat → Nat → Nat} {ac ak al ar lk im le gr : Nat → Int32}
theorem qa_kd_le (hr : rl ≤ 3) (hv : vw ≤ 3) {s : Nat} : qa_kd rl vw s ≤ 3 := by unfold qa_kd; split <;> omega
theorem qa_W_b (W : qa_W rl vw vl rm h0 h1 c K L R) {s : Nat} (hs : s < 6) : ∀ j, j < c s → K s j < 3 ∧ L s j < 5 ∧ R s j < 5 := by
  intro j hj
  obtain ⟨a, b, d⟩ := (W.2.2.2.2.2.2 s hs).2 j hj
  have e1 := qa_kd_le (s := s) W.1.2 W.2.1.2
  have e2 := qa_tm_le (s := s) W.2.2.1.2
  omega
theorem qa_W_100 (W : qa_W rl vw vl rm h0 h1 c K L R) {s : Nat} (hs : s < 6) : ∀ j, j < c s → K s j < 100 ∧ L s j < 100 ∧ R s j < 100 := by
  intro j hj
  have := qa_W_b W hs j hj
  omega
theorem qx_triT {post : Int32 → Prop} {s k x y : Nat} (W : qa_W rl vw vl rm h0 h1 c K L R) (hs : s < 3 + vw) (hk : k < qa_kd rl vw s) (hx : x < qa_tm vl s) (hy : y < qa_tm vl s) (hp : post 1) : wpX_isTriple post (nI rl, nI vw, nI vl, nI rm, nI h0, nI h1, ac, ak, al, ar, lk, im, le, gr) (nI s) (nI k) (nI x) (nI y) :=
  qx_isTriple W.1.2 W.2.1.2 W.2.2.1.2 (fun _ _ _ _ _ _ _ _ _ _ _ _ => hp) (fun z => absurd ⟨s, k, x, y, rfl, rfl, rfl, rfl, hs, hk, hx, hy⟩ z)
theorem qx_triF {post : Int32 → Prop} {s k x y : Int32} (W : qa_W rl vw vl rm h0 h1 c K L R) (hT : ¬ qa_T rl vw vl s k x y) (hp : post 0) : wpX_isTriple post (nI rl, nI vw, nI vl, nI rm, nI h0, nI h1, ac, ak, al, ar, lk, im, le, gr) s k x y :=
  qx_isTriple W.1.2 W.2.1.2 W.2.2.1.2 (fun s' k' x' y' e1 e2 e3 e4 b1 b2 b3 b4 => absurd ⟨s', k', x', y', e1, e2, e3, e4, b1, b2, b3, b4⟩ hT) (fun _ => hp)
theorem qx_put {post : Int32 → St2 → Prop} {s k x y : Nat} (W : qa_W rl vw vl rm h0 h1 c K L R) (A : qa_A 8 c K L R ac ak al ar) (hs : s < 3 + vw) (hk : k < qa_kd rl vw s) (hx : x < qa_tm vl s) (hy : y < qa_tm vl s)
    (p0 : ∀ i, qa_fd (K s) (L s) (R s) k x y (c s) 0 = some i → post 0 (nI rl, nI vw, nI vl, nI rm, nI h0, nI h1, ac, ak, al, ar, lk, im, le, gr)) (p2 : qa_fd (K s) (L s) (R s) k x y (c s) 0 = none → qa_lm rm s ≤ c s → post (-2) (nI rl, nI vw, nI vl, nI rm, nI h0, nI h1, ac, ak, al, ar, lk, im, le, gr))
    (p1 : qa_fd (K s) (L s) (R s) k x y (c s) 0 = none → c s < qa_lm rm s → post 1 (nI rl, nI vw, nI vl, nI rm, nI h0, nI h1, upd ac s (nI (c s + 1)), upd ak (s * 8 + c s) (nI k), upd al (s * 8 + c s) (nI x), upd ar (s * 8 + c s) (nI y), lk, im, le, gr)) :
    wpX_put post (nI rl, nI vw, nI vl, nI rm, nI h0, nI h1, ac, ak, al, ar, lk, im, le, gr) (nI s) (nI k) (nI x) (nI y) := by
  have hv := W.2.1.2
  have hs6 : s < 6 := by omega
  have h8 := qa_W_c W hs6
  have hl8 := qa_lm_le (s := s) W.2.2.2.1.2
  have hk3 := qa_kd_le (s := s) W.1.2 W.2.1.2
  have ht5 := qa_tm_le (s := s) W.2.2.1.2
  have hins : vp_in (nI s) 6 := vp_in_nI (by omega) (by omega)
  have hcs : (nI s).toNatClampNeg = s := nI_clamp (by omega)
  unfold wpX_put
  refine qx_triT W hs hk hx hy (br_f qn_10 ?_)
  refine qx_place A hs6 h8 (qa_W_100 W hs6) (by omega) (by omega) (by omega) (fun i hi => br_f (qn_m1 ?_) (p0 i hi)) (fun hn => br_t rfl ⟨hins, ?_⟩)
  · have := (qa_fd_some _ _ _ hi).2.1
    omega
  · refine qx_limit hs6 (pk_lt (c s) (qa_lm rm s) (fun h => ?_) (fun h => p2 hn h) (by rw [hcs]; exact (A s hs6).1))
    have hin : vp_in (nI (s * 8 + c s)) 48 := vp_in_nI (by omega) (by omega)
    have hcl : (nI (s * 8 + c s)).toNatClampNeg = s * 8 + c s := nI_clamp (by omega)
    refine ⟨hins, nm_r (e' := nI (s * 8 + c s)) (by rw [hcs, (A s hs6).1, show nI s * 8 = nI (s * 8) from pk_mul s 8, nI_add]) ⟨hin, nm_r (by rw [hcl]) ⟨hin, nm_r (by rw [hcl]) ⟨hin, nm_r (by rw [hcl]) ⟨hins, hins, nm_r (e' := upd ac s (nI (c s + 1))) (by rw [hcs, (A s hs6).1, nI_1]) (p1 hn h)⟩⟩⟩⟩⟩
theorem qx_drop {post : Int32 → St2 → Prop} {s k x y : Nat} (W : qa_W rl vw vl rm h0 h1 c K L R) (A : qa_A 8 c K L R ac ak al ar) (hs : s < 3 + vw) (hk : k < qa_kd rl vw s) (hx : x < qa_tm vl s) (hy : y < qa_tm vl s)
    (p0 : qa_fd (K s) (L s) (R s) k x y (c s) 0 = none → post 0 (nI rl, nI vw, nI vl, nI rm, nI h0, nI h1, ac, ak, al, ar, lk, im, le, gr))
    (p1 : ∀ i, qa_fd (K s) (L s) (R s) k x y (c s) 0 = some i → i < c s → post 1 (nI rl, nI vw, nI vl, nI rm, nI h0, nI h1, upd ac s (nI (c s - 1)), upd ak (s * 8 + i) (nI (K s (c s - 1))), upd al (s * 8 + i) (nI (L s (c s - 1))), upd ar (s * 8 + i) (nI (R s (c s - 1))), lk, im, le, gr)) :
    wpX_drop post (nI rl, nI vw, nI vl, nI rm, nI h0, nI h1, ac, ak, al, ar, lk, im, le, gr) (nI s) (nI k) (nI x) (nI y) := by
  have hv := W.2.1.2
  have hs6 : s < 6 := by omega
  have h8 := qa_W_c W hs6
  have hk3 := qa_kd_le (s := s) W.1.2 W.2.1.2
  have ht5 := qa_tm_le (s := s) W.2.2.1.2
  have hins : vp_in (nI s) 6 := vp_in_nI (by omega) (by omega)
  have hcs : (nI s).toNatClampNeg = s := nI_clamp (by omega)
  unfold wpX_drop
  refine qx_triT W hs hk hx hy (br_f qn_10 ?_)
  refine qx_place A hs6 h8 (qa_W_100 W hs6) (by omega) (by omega) (by omega) (fun i hi => ?_) (fun hn => br_t rfl (p0 hn))
  have hic := (qa_fd_some _ _ _ hi).2.1
  obtain ⟨e1, e2, e3⟩ := (A s hs6).2 (c s - 1) (by omega)
  have hin : vp_in (nI (s * 8 + (c s - 1))) 48 := vp_in_nI (by omega) (by omega)
  have hcl : (nI (s * 8 + (c s - 1))).toNatClampNeg = s * 8 + (c s - 1) := nI_clamp (by omega)
  have hi8 : vp_in (nI (s * 8 + i)) 48 := vp_in_nI (by omega) (by omega)
  have hci : (nI (s * 8 + i)).toNatClampNeg = s * 8 + i := nI_clamp (by omega)
  refine br_f (qn_m1 (by omega)) ⟨hins, hins, nm_r (e' := upd ac s (nI (c s - 1))) (by rw [hcs, (A s hs6).1, show (1 : Int32) = nI 1 from rfl, pk_sub (by omega)]) ⟨hins, nm_r (e' := nI (s * 8 + (c s - 1))) (by rw [hcs, pk_us, show nI s * 8 = nI (s * 8) from pk_mul s 8, nI_add]) ⟨hin, hi8, ?_⟩⟩⟩
  refine nm_r (e' := upd ak (s * 8 + i) (nI (K s (c s - 1)))) (by rw [hcl, hci, e1]) ⟨hin, hi8, nm_r (e' := upd al (s * 8 + i) (nI (L s (c s - 1)))) (by rw [hcl, hci, e2]) ⟨hin, hi8, nm_r (e' := upd ar (s * 8 + i) (nI (R s (c s - 1)))) (by rw [hcl, hci, e3]) (p1 i hi (by omega))⟩⟩
end
