/-! the relation; the methods that keep and show the sections -/
def i_Rel (_ : Nat) (u : SX) (v : SY) : Prop :=
  ∃ (rl vw vl rm h0 h1 : Nat) (c : Nat → Nat) (K L R : Nat → Nat → Nat) (ac ak al ar lk im le gr : Nat → Int32) (yt : Int32) (bc bk bx bw bf bg : Nat → Int32),
    u = (nI rl, nI vw, nI vl, nI rm, nI h0, nI h1, ac, ak, al, ar, lk, im, le, gr) ∧ v = (nI rl, nI vw, nI vl, nI rm, nI h0, nI h1, yt, bc, bk, bx, bw, bf, bg) ∧ qa_W rl vw vl rm h0 h1 c K L R ∧ qa_A 8 c K L R ac ak al ar ∧ qa_A 24 c K L R bc bk bx bw
theorem i_up {k : Nat} {u : SX} {v : SY} (h : i_Rel k u v) : i_Rel (k + 5) u v := h
section
variable {rl vw vl rm h0 h1 : Nat} {c : Nat → Nat} {K L R : Nat → Nat → Nat} {ac ak al ar lk im le gr : Nat → Int32} {yt : Int32} {bc bk bx bw bf bg : Nat → Int32}
theorem qi_mk {k : Nat} (W : qa_W rl vw vl rm h0 h1 c K L R) (A : qa_A 8 c K L R ac ak al ar) (B : qa_A 24 c K L R bc bk bx bw) : i_Rel k (nI rl, nI vw, nI vl, nI rm, nI h0, nI h1, ac, ak, al, ar, lk, im, le, gr) (nI rl, nI vw, nI vl, nI rm, nI h0, nI h1, yt, bc, bk, bx, bw, bf, bg) :=
  ⟨rl, vw, vl, rm, h0, h1, c, K, L, R, ac, ak, al, ar, lk, im, le, gr, yt, bc, bk, bx, bw, bf, bg, rfl, rfl, W, A, B⟩
theorem qa_kd_le (hr : rl ≤ 3) (hv : vw ≤ 3) {s : Nat} : qa_kd rl vw s ≤ 3 := by unfold qa_kd; split <;> omega
theorem qa_W_b (W : qa_W rl vw vl rm h0 h1 c K L R) {s : Nat} (hs : s < 6) : ∀ j, j < c s → K s j < 3 ∧ L s j < 5 ∧ R s j < 5 := by
  intro j hj
  obtain ⟨a, b, d⟩ := (W.2.2.2.2.2.2 s hs).2 j hj
  have e1 := qa_kd_le (s := s) W.1.2 W.2.1.2
  have e2 := qa_tm_le (s := s) W.2.2.1.2
  omega
theorem qa_W_100 (W : qa_W rl vw vl rm h0 h1 c K L R) {s : Nat} (hs : s < 6) : ∀ j, j < c s → K s j < 100 ∧ L s j < 100 ∧ R s j < 100 := by
  intro j hj
  have := qa_W_b W hs j hj
  omega
theorem qa_W_1000 (W : qa_W rl vw vl rm h0 h1 c K L R) {s : Nat} (hs : s < 6) : ∀ j, j < c s → K s j < 1000 ∧ L s j < 1000 ∧ R s j < 1000 := by
  intro j hj
  have := qa_W_b W hs j hj
  omega
theorem qx_triT {post : Int32 → Prop} {s k x y : Nat} (W : qa_W rl vw vl rm h0 h1 c K L R) (hs : s < 3 + vw) (hk : k < qa_kd rl vw s) (hx : x < qa_tm vl s) (hy : y < qa_tm vl s) (hp : post 1) : wpX_isTriple post (nI rl, nI vw, nI vl, nI rm, nI h0, nI h1, ac, ak, al, ar, lk, im, le, gr) (nI s) (nI k) (nI x) (nI y) :=
  qx_isTriple W.1.2 W.2.1.2 W.2.2.1.2 (fun _ _ _ _ _ _ _ _ _ _ _ _ => hp) (fun z => absurd ⟨s, k, x, y, rfl, rfl, rfl, rfl, hs, hk, hx, hy⟩ z)
theorem qx_triF {post : Int32 → Prop} {s k x y : Int32} (W : qa_W rl vw vl rm h0 h1 c K L R) (hT : ¬ qa_T rl vw vl s k x y) (hp : post 0) : wpX_isTriple post (nI rl, nI vw, nI vl, nI rm, nI h0, nI h1, ac, ak, al, ar, lk, im, le, gr) s k x y :=
  qx_isTriple W.1.2 W.2.1.2 W.2.2.1.2 (fun s' k' x' y' e1 e2 e3 e4 b1 b2 b3 b4 => absurd ⟨s', k', x', y', e1, e2, e3, e4, b1, b2, b3, b4⟩ hT) (fun _ => hp)
theorem qy_badT {post : Int32 → Prop} {s k x y : Nat} (W : qa_W rl vw vl rm h0 h1 c K L R) (hs : s < 3 + vw) (hk : k < qa_kd rl vw s) (hx : x < qa_tm vl s) (hy : y < qa_tm vl s) (hp : post 0) : wpY_bad post (nI rl, nI vw, nI vl, nI rm, nI h0, nI h1, yt, bc, bk, bx, bw, bf, bg) (nI s) (nI k) (nI x) (nI y) :=
  qy_bad W.1.2 W.2.1.2 W.2.2.1.2 (fun _ _ _ _ _ _ _ _ _ _ _ _ => hp) (fun z => absurd ⟨s, k, x, y, rfl, rfl, rfl, rfl, hs, hk, hx, hy⟩ z)
theorem qy_badF {post : Int32 → Prop} {s k x y : Int32} (W : qa_W rl vw vl rm h0 h1 c K L R) (hT : ¬ qa_T rl vw vl s k x y) (hp : post 1) : wpY_bad post (nI rl, nI vw, nI vl, nI rm, nI h0, nI h1, yt, bc, bk, bx, bw, bf, bg) s k x y :=
  qy_bad W.1.2 W.2.1.2 W.2.2.1.2 (fun s' k' x' y' e1 e2 e3 e4 b1 b2 b3 b4 => absurd ⟨s', k', x', y', e1, e2, e3, e4, b1, b2, b3, b4⟩ hT) (fun _ => hp)
theorem qx_put {post : Int32 → SX → Prop} {s k x y : Nat} (W : qa_W rl vw vl rm h0 h1 c K L R) (A : qa_A 8 c K L R ac ak al ar) (hs : s < 3 + vw) (hk : k < qa_kd rl vw s) (hx : x < qa_tm vl s) (hy : y < qa_tm vl s)
    (p0 : ∀ i, qa_fd (K s) (L s) (R s) k x y (c s) 0 = some i → post 0 (nI rl, nI vw, nI vl, nI rm, nI h0, nI h1, ac, ak, al, ar, lk, im, le, gr)) (p2 : qa_fd (K s) (L s) (R s) k x y (c s) 0 = none → qa_lm rm s ≤ c s → post (-2) (nI rl, nI vw, nI vl, nI rm, nI h0, nI h1, ac, ak, al, ar, lk, im, le, gr))
    (p1 : qa_fd (K s) (L s) (R s) k x y (c s) 0 = none → c s < qa_lm rm s → post 1 (nI rl, nI vw, nI vl, nI rm, nI h0, nI h1, upd ac s (nI (c s + 1)), upd ak (s * 8 + c s) (nI k), upd al (s * 8 + c s) (nI x), upd ar (s * 8 + c s) (nI y), lk, im, le, gr)) :
    wpX_put post (nI rl, nI vw, nI vl, nI rm, nI h0, nI h1, ac, ak, al, ar, lk, im, le, gr) (nI s) (nI k) (nI x) (nI y) := by
  have hv := W.2.1.2
  have hs6 : s < 6 := by omega
  have h8 := qa_W_c W hs6
  have hl8 := qa_lm_le (s := s) W.2.2.2.1.2
  have hk3 := qa_kd_le (s := s) W.1.2 W.2.1.2
  have ht5 := qa_tm_le (s := s) W.2.2.1.2
  have hins : vp_in (nI s) 6 := vp_in_nI (by omega) (by omega)
  have hcs : (nI s).toNatClampNeg = s := nI_clamp (by omega)
  unfold wpX_put
  refine qx_triT W hs hk hx hy (br_f qn_10 ?_)
  refine qx_place A hs6 h8 (qa_W_100 W hs6) (by omega) (by omega) (by omega) (fun i hi => br_f (qn_m1 ?_) (p0 i hi)) (fun hn => br_t rfl ⟨hins, ?_⟩)
  · have := (qa_fd_some _ _ _ hi).2.1
    omega
  · refine qx_limit hs6 (pk_lt (c s) (qa_lm rm s) (fun h => ?_) (fun h => p2 hn h) (by rw [hcs]; exact (A s hs6).1))
    have hin : vp_in (nI (s * 8 + c s)) 48 := vp_in_nI (by omega) (by omega)
    have hcl : (nI (s * 8 + c s)).toNatClampNeg = s * 8 + c s := nI_clamp (by omega)
    refine ⟨hins, nm_r (e' := nI (s * 8 + c s)) (by rw [hcs, (A s hs6).1, show nI s * 8 = nI (s * 8) from pk_mul s 8, nI_add]) ⟨hin, nm_r (by rw [hcl]) ⟨hin, nm_r (by rw [hcl]) ⟨hin, nm_r (by rw [hcl]) ⟨hins, hins, nm_r (e' := upd ac s (nI (c s + 1))) (by rw [hcs, (A s hs6).1, nI_1]) (p1 hn h)⟩⟩⟩⟩⟩
theorem qy_put50 {post : Int32 → SY → Prop} {s k x y n : Nat} (hs : s < 6) (h8 : c s ≤ 8) (hn : n ≤ 8) (B : qa_A 24 c K L R bc bk bx bw)
    (p2 : n ≤ c s → post (-2) (nI rl, nI vw, nI vl, nI rm, nI h0, nI h1, yt, bc, bk, bx, bw, bf, bg)) (p1 : c s < n → post 1 (nI rl, nI vw, nI vl, nI rm, nI h0, nI h1, yt, upd bc s (nI (c s + 1)), upd bk (s * 24 + c s) (nI k), upd bx (s * 24 + c s) (nI x), upd bw (s * 24 + c s) (nI y), bf, bg)) :
    wY_put_50 post (nI s) (nI k) (nI x) (nI y) (nI n) (nI rl) (nI vw) (nI vl) (nI rm) (nI h0) (nI h1) yt bc bk bx bw bf bg := by
  have hcs : (nI s).toNatClampNeg = s := nI_clamp (by omega)
  refine ⟨vp_in_nI (by omega) (by omega), pk_lt (c s) n (fun h => ?_) p2 (by rw [hcs]; exact (B s hs).1)⟩
  exact qy_add (m := c s) (by omega) (by omega) (B s hs).1 (p1 h)
theorem qy_put {post : Int32 → SY → Prop} {s k x y : Nat} (W : qa_W rl vw vl rm h0 h1 c K L R) (B : qa_A 24 c K L R bc bk bx bw) (hs : s < 3 + vw) (hk : k < qa_kd rl vw s) (hx : x < qa_tm vl s) (hy : y < qa_tm vl s)
    (p0 : ∀ i, qa_fd (K s) (L s) (R s) k x y (c s) 0 = some i → post 0 (nI rl, nI vw, nI vl, nI rm, nI h0, nI h1, yt, bc, bk, bx, bw, bf, bg)) (p2 : qa_fd (K s) (L s) (R s) k x y (c s) 0 = none → qa_lm rm s ≤ c s → post (-2) (nI rl, nI vw, nI vl, nI rm, nI h0, nI h1, yt, bc, bk, bx, bw, bf, bg))
    (p1 : qa_fd (K s) (L s) (R s) k x y (c s) 0 = none → c s < qa_lm rm s → post 1 (nI rl, nI vw, nI vl, nI rm, nI h0, nI h1, yt, upd bc s (nI (c s + 1)), upd bk (s * 24 + c s) (nI k), upd bx (s * 24 + c s) (nI x), upd bw (s * 24 + c s) (nI y), bf, bg)) :
    wpY_put post (nI rl, nI vw, nI vl, nI rm, nI h0, nI h1, yt, bc, bk, bx, bw, bf, bg) (nI s) (nI k) (nI x) (nI y) := by
  have hv := W.2.1.2
  have hs6 : s < 6 := by omega
  have h8 := qa_W_c W hs6
  have hl8 := qa_lm_le (s := s) W.2.2.2.1.2
  have hk3 := qa_kd_le (s := s) W.1.2 W.2.1.2
  have ht5 := qa_tm_le (s := s) W.2.2.1.2
  unfold wpY_put
  refine qy_badT W hs hk hx hy (br_t rfl ?_)
  refine qy_find (by omega) (by omega) (B s hs6).1 (B s hs6).2 (qa_W_1000 W hs6) (by omega) (by omega) (by omega) (fun i hi => br_f (nI_pos ?_) (p0 i hi)) (fun hn => br_t (by decide) ?_)
  · have := (qa_fd_some _ _ _ hi).2.1
    omega
  · have H := fun (n : Nat) (e : qa_lm rm s = n) => qy_put50 (post := post) (rl := rl) (vw := vw) (vl := vl) (rm := rm) (h0 := h0) (h1 := h1) (yt := yt) (bf := bf) (bg := bg) (k := k) (x := x) (y := y) (n := n) hs6 h8 (by omega) B (by rw [← e]; exact p2 hn) (by rw [← e]; exact p1 hn)
    refine pk_eq s 2 (fun e => ?_) (fun e => pk_lt s 3 (fun h => ?_) (fun h => ?_))
    · exact H rm (by rw [e]; rfl)
    · exact H 4 (by rw [qa_lm, if_neg e, if_neg (by omega)])
    · exact H 3 (qa_lm_3 h)
theorem qx_drop {post : Int32 → SX → Prop} {s k x y : Nat} (W : qa_W rl vw vl rm h0 h1 c K L R) (A : qa_A 8 c K L R ac ak al ar) (hs : s < 3 + vw) (hk : k < qa_kd rl vw s) (hx : x < qa_tm vl s) (hy : y < qa_tm vl s)
    (p0 : qa_fd (K s) (L s) (R s) k x y (c s) 0 = none → post 0 (nI rl, nI vw, nI vl, nI rm, nI h0, nI h1, ac, ak, al, ar, lk, im, le, gr))
    (p1 : ∀ i, qa_fd (K s) (L s) (R s) k x y (c s) 0 = some i → i < c s → post 1 (nI rl, nI vw, nI vl, nI rm, nI h0, nI h1, upd ac s (nI (c s - 1)), upd ak (s * 8 + i) (nI (K s (c s - 1))), upd al (s * 8 + i) (nI (L s (c s - 1))), upd ar (s * 8 + i) (nI (R s (c s - 1))), lk, im, le, gr)) :
    wpX_drop post (nI rl, nI vw, nI vl, nI rm, nI h0, nI h1, ac, ak, al, ar, lk, im, le, gr) (nI s) (nI k) (nI x) (nI y) := by
  have hv := W.2.1.2
  have hs6 : s < 6 := by omega
  have h8 := qa_W_c W hs6
  have hk3 := qa_kd_le (s := s) W.1.2 W.2.1.2
  have ht5 := qa_tm_le (s := s) W.2.2.1.2
  have hins : vp_in (nI s) 6 := vp_in_nI (by omega) (by omega)
  have hcs : (nI s).toNatClampNeg = s := nI_clamp (by omega)
  unfold wpX_drop
  refine qx_triT W hs hk hx hy (br_f qn_10 ?_)
  refine qx_place A hs6 h8 (qa_W_100 W hs6) (by omega) (by omega) (by omega) (fun i hi => ?_) (fun hn => br_t rfl (p0 hn))
  have hic := (qa_fd_some _ _ _ hi).2.1
  obtain ⟨e1, e2, e3⟩ := (A s hs6).2 (c s - 1) (by omega)
  have hin : vp_in (nI (s * 8 + (c s - 1))) 48 := vp_in_nI (by omega) (by omega)
  have hcl : (nI (s * 8 + (c s - 1))).toNatClampNeg = s * 8 + (c s - 1) := nI_clamp (by omega)
  have hi8 : vp_in (nI (s * 8 + i)) 48 := vp_in_nI (by omega) (by omega)
  have hci : (nI (s * 8 + i)).toNatClampNeg = s * 8 + i := nI_clamp (by omega)
  refine br_f (qn_m1 (by omega)) ⟨hins, hins, nm_r (e' := upd ac s (nI (c s - 1))) (by rw [hcs, (A s hs6).1, show (1 : Int32) = nI 1 from rfl, pk_sub (by omega)]) ⟨hins, nm_r (e' := nI (s * 8 + (c s - 1))) (by rw [hcs, pk_us, show nI s * 8 = nI (s * 8) from pk_mul s 8, nI_add]) ⟨hin, hi8, ?_⟩⟩⟩
  refine nm_r (e' := upd ak (s * 8 + i) (nI (K s (c s - 1)))) (by rw [hcl, hci, e1]) ⟨hin, hi8, nm_r (e' := upd al (s * 8 + i) (nI (L s (c s - 1)))) (by rw [hcl, hci, e2]) ⟨hin, hi8, nm_r (e' := upd ar (s * 8 + i) (nI (R s (c s - 1)))) (by rw [hcl, hci, e3]) (p1 i hi (by omega))⟩⟩
theorem qy_drop {post : Int32 → SY → Prop} {s k x y : Nat} (W : qa_W rl vw vl rm h0 h1 c K L R) (B : qa_A 24 c K L R bc bk bx bw) (hs : s < 3 + vw) (hk : k < qa_kd rl vw s) (hx : x < qa_tm vl s) (hy : y < qa_tm vl s)
    (p0 : qa_fd (K s) (L s) (R s) k x y (c s) 0 = none → post 0 (nI rl, nI vw, nI vl, nI rm, nI h0, nI h1, yt, bc, bk, bx, bw, bf, bg))
    (p1 : ∀ i, qa_fd (K s) (L s) (R s) k x y (c s) 0 = some i → i < c s → post 1 (nI rl, nI vw, nI vl, nI rm, nI h0, nI h1, yt, upd bc s (nI (c s - 1)), upd bk (s * 24 + i) (nI (K s (c s - 1))), upd bx (s * 24 + i) (nI (L s (c s - 1))), upd bw (s * 24 + i) (nI (R s (c s - 1))), bf, bg)) :
    wpY_drop post (nI rl, nI vw, nI vl, nI rm, nI h0, nI h1, yt, bc, bk, bx, bw, bf, bg) (nI s) (nI k) (nI x) (nI y) := by
  have hv := W.2.1.2
  have hs6 : s < 6 := by omega
  have h8 := qa_W_c W hs6
  have hk3 := qa_kd_le (s := s) W.1.2 W.2.1.2
  have ht5 := qa_tm_le (s := s) W.2.2.1.2
  have hins : vp_in (nI s) 7 := vp_in_nI (by omega) (by omega)
  have hcs : (nI s).toNatClampNeg = s := nI_clamp (by omega)
  unfold wpY_drop
  refine qy_badT W hs hk hx hy (br_t rfl ?_)
  refine qy_find (by omega) (by omega) (B s hs6).1 (B s hs6).2 (qa_W_1000 W hs6) (by omega) (by omega) (by omega) (fun i hi => ?_) (fun hn => br_f (by decide) (p0 hn))
  have hic := (qa_fd_some _ _ _ hi).2.1
  obtain ⟨e1, e2, e3⟩ := (B s hs6).2 (c s - 1) (by omega)
  have hin : vp_in (nI (s * 24 + (c s - 1))) 168 := vp_in_nI (by omega) (by omega)
  have hcl : (nI (s * 24 + (c s - 1))).toNatClampNeg = s * 24 + (c s - 1) := nI_clamp (by omega)
  have hi8 : vp_in (nI (s * 24 + i)) 168 := vp_in_nI (by omega) (by omega)
  have hci : (nI (s * 24 + i)).toNatClampNeg = s * 24 + i := nI_clamp (by omega)
  refine br_t (nI_pos' (by omega)) ⟨hins, hins, nm_r (e' := upd bc s (nI (c s - 1))) (by rw [hcs, (B s hs6).1, show (1 : Int32) = nI 1 from rfl, pk_sub (by omega)]) ⟨hins, nm_r (e' := nI (s * 24 + (c s - 1))) (by rw [hcs, pk_us, show nI s * 24 = nI (s * 24) from pk_mul s 24, nI_add]) ⟨hin, hi8, ?_⟩⟩⟩
  refine nm_r (e' := upd bk (s * 24 + i) (nI (K s (c s - 1)))) (by rw [hcl, hci, e1]) ⟨hin, hi8, nm_r (e' := upd bx (s * 24 + i) (nI (L s (c s - 1)))) (by rw [hcl, hci, e2]) ⟨hin, hi8, nm_r (e' := upd bw (s * 24 + i) (nI (R s (c s - 1)))) (by rw [hcl, hci, e3]) (p1 i hi (by omega))⟩⟩
end
theorem i_vc_put {k : Nat} {u : SX} {v : SY} (I : i_Rel k u v) (hk : k + 5 ≤ 2564) (v1 : Int32) (v2 : Int32) (v3 : Int32) (v4 : Int32) : wpX_put (fun r u' => wpY_put (fun r' v' => r' = r ∧ i_Rel (k + 5) u' v') v v1 v2 v3 v4) u v1 v2 v3 v4 := by
  obtain ⟨rl, vw, vl, rm, h0, h1, c, K, L, R, ac, ak, al, ar, lk, im, le, gr, yt, bc, bk, bx, bw, bf, bg, rfl, rfl, W, A, B⟩ := I
  by_cases hT : qa_T rl vw vl v1 v2 v3 v4
  · obtain ⟨s, k', x, y, rfl, rfl, rfl, rfl, hs, hk', hx, hy⟩ := hT
    have hv := W.2.1.2
    have hc8 : ∀ s, s < 6 → c s ≤ 8 := fun s hs => qa_W_c W hs
    have hl8 := qa_lm_le (s := s) W.2.2.2.1.2
    refine qx_put W A hs hk' hx hy (fun i hi => ?_) (fun hn hf => ?_) (fun hn hf => ?_)
    · exact qy_put W B hs hk' hx hy (fun _ _ => ⟨rfl, qi_mk W A B⟩) (fun z => absurd (hi.symm.trans z) (by simp)) (fun z => absurd (hi.symm.trans z) (by simp))
    · exact qy_put W B hs hk' hx hy (fun _ z => absurd (hn.symm.trans z) (by simp)) (fun _ _ => ⟨rfl, qi_mk W A B⟩) (fun _ z => absurd hf (by omega))
    · refine qy_put W B hs hk' hx hy (fun _ z => absurd (hn.symm.trans z) (by simp)) (fun _ z => absurd hf (by omega)) (fun _ _ => ⟨rfl, ?_⟩)
      exact qi_mk (qa_W_set (i := c s) (by omega) (Or.inr ⟨rfl, rfl⟩) hk' hx hy W) (qa_A_set (Or.inl rfl) hc8 (by omega) (by omega) (Or.inr ⟨rfl, rfl⟩) A) (qa_A_set (Or.inr rfl) hc8 (by omega) (by omega) (Or.inr ⟨rfl, rfl⟩) B)
  · unfold wpX_put
    refine qx_triF W hT (br_t rfl ?_)
    unfold wpY_put
    exact qy_badF W hT (br_f qn_10 ⟨rfl, qi_mk W A B⟩)
theorem i_vc_drop {k : Nat} {u : SX} {v : SY} (I : i_Rel k u v) (hk : k + 5 ≤ 2564) (v1 : Int32) (v2 : Int32) (v3 : Int32) (v4 : Int32) : wpX_drop (fun r u' => wpY_drop (fun r' v' => r' = r ∧ i_Rel (k + 5) u' v') v v1 v2 v3 v4) u v1 v2 v3 v4 := by
  obtain ⟨rl, vw, vl, rm, h0, h1, c, K, L, R, ac, ak, al, ar, lk, im, le, gr, yt, bc, bk, bx, bw, bf, bg, rfl, rfl, W, A, B⟩ := I
  by_cases hT : qa_T rl vw vl v1 v2 v3 v4
  · obtain ⟨s, k', x, y, rfl, rfl, rfl, rfl, hs, hk', hx, hy⟩ := hT
    have hv := W.2.1.2
    have hs6 : s < 6 := by omega
    have hc8 : ∀ s, s < 6 → c s ≤ 8 := fun s hs => qa_W_c W hs
    have h8 := hc8 s hs6
    refine qx_drop W A hs hk' hx hy (fun hn => ?_) (fun i hi hic => ?_)
    · exact qy_drop W B hs hk' hx hy (fun _ => ⟨rfl, qi_mk W A B⟩) (fun _ z => absurd (hn.symm.trans z) (by simp))
    · refine qy_drop W B hs hk' hx hy (fun z => absurd (hi.symm.trans z) (by simp)) (fun i' hi' _ => ⟨rfl, ?_⟩)
      have ei : i = i' := Option.some.inj (hi.symm.trans hi')
      subst ei
      obtain ⟨z1, z2⟩ := W.2.2.2.2.2.2 s hs6
      obtain ⟨q1, q2, q3⟩ := z2 (c s - 1) (by omega)
      exact qi_mk (qa_W_set (i := i) (by omega) (Or.inl (by omega)) q1 q2 q3 W) (qa_A_set (Or.inl rfl) hc8 (by omega) (by omega) (Or.inl (by omega)) A) (qa_A_set (Or.inr rfl) hc8 (by omega) (by omega) (Or.inl (by omega)) B)
  · unfold wpX_drop
    refine qx_triF W hT (br_t rfl ?_)
    unfold wpY_drop
    exact qy_badF W hT (br_f qn_10 ⟨rfl, qi_mk W A B⟩)
theorem i_vc_has {k : Nat} {u : SX} {v : SY} (I : i_Rel k u v) (hk : k + 5 ≤ 2564) (v1 : Int32) (v2 : Int32) (v3 : Int32) (v4 : Int32) : wpX_has (fun r => wpY_has (fun r' => r' = r ∧ i_Rel (k + 5) u v) v v1 v2 v3 v4) u v1 v2 v3 v4 := by
  obtain ⟨rl, vw, vl, rm, h0, h1, c, K, L, R, ac, ak, al, ar, lk, im, le, gr, yt, bc, bk, bx, bw, bf, bg, rfl, rfl, W, A, B⟩ := I
  by_cases hT : qa_T rl vw vl v1 v2 v3 v4
  · obtain ⟨s, k', x, y, rfl, rfl, rfl, rfl, hs, hk', hx, hy⟩ := hT
    have hv := W.2.1.2
    have hs6 : s < 6 := by omega
    have h8 := qa_W_c W hs6
    have hk3 := qa_kd_le (s := s) W.1.2 W.2.1.2
    have ht5 := qa_tm_le (s := s) W.2.2.1.2
    unfold wpX_has
    refine qx_triT W hs hk' hx hy (br_f qn_10 ?_)
    refine qx_place A hs6 h8 (qa_W_100 W hs6) (by omega) (by omega) (by omega) (fun i hi => br_f (qn_m1 ?_) ?_) (fun hn => br_t rfl ?_)
    · have := (qa_fd_some _ _ _ hi).2.1
      omega
    · unfold wpY_has
      refine qy_badT W hs hk' hx hy (br_t rfl ?_)
      refine qy_find (by omega) (by omega) (B s hs6).1 (B s hs6).2 (qa_W_1000 W hs6) (by omega) (by omega) (by omega) (fun i' hi' => br_f (nI_pos ?_) ⟨rfl, qi_mk W A B⟩) (fun hn => absurd (hi.symm.trans hn) (by simp))
      have := (qa_fd_some _ _ _ hi').2.1
      omega
    · unfold wpY_has
      refine qy_badT W hs hk' hx hy (br_t rfl ?_)
      exact qy_find (by omega) (by omega) (B s hs6).1 (B s hs6).2 (qa_W_1000 W hs6) (by omega) (by omega) (by omega) (fun i' hi' => absurd (hn.symm.trans hi') (by simp)) (fun hn => br_t (by decide) ⟨rfl, qi_mk W A B⟩)
  · unfold wpX_has
    refine qx_triF W hT (br_t rfl ?_)
    unfold wpY_has
    exact qy_badF W hT (br_f qn_10 ⟨rfl, qi_mk W A B⟩)
theorem i_vc_size {k : Nat} {u : SX} {v : SY} (I : i_Rel k u v) (hk : k + 5 ≤ 2564) (v1 : Int32) : wpX_size (fun r => wpY_size (fun r' => r' = r ∧ i_Rel (k + 5) u v) v v1) u v1 := by
  obtain ⟨rl, vw, vl, rm, h0, h1, c, K, L, R, ac, ak, al, ar, lk, im, le, gr, yt, bc, bk, bx, bw, bf, bg, rfl, rfl, W, A, B⟩ := I
  have hv := W.2.1.2
  unfold wpX_size
  refine qx_section hv (fun j hj ej => br_f qn_10 ?_) (fun z => br_t rfl ?_)
  · subst ej
    have hcs : (nI j).toNatClampNeg = j := nI_clamp (by omega)
    refine ⟨vp_in_nI (by omega) (by omega), br_f (nI_pos (by omega)) (br_t (by rw [qn_2]; exact nI_le (by omega) (by omega)) ⟨vp_in_nI (by omega) (by omega), ?_, qi_mk W A B⟩)⟩
    rw [hcs, (A j (by omega)).1, (B j (by omega)).1]
  · rcases qa_in_or v1 (n := 3 + vw) (by omega) with q | ⟨-, h | ⟨h, h'⟩⟩
    · exact absurd q z
    · exact br_t h ⟨rfl, qi_mk W A B⟩
    · refine br_f h (br_f ?_ ⟨rfl, qi_mk W A B⟩)
      obtain ⟨j, hj, rfl⟩ := nI_of h
      rw [nI_leI (by omega) hj] at h'
      rw [qn_2]
      exact nI_ge (by omega) hj
theorem i_vc_clear {k : Nat} {u : SX} {v : SY} (I : i_Rel k u v) (hk : k + 5 ≤ 2564) (v1 : Int32) : wpX_clear (fun r u' => wpY_clear (fun r' v' => r' = r ∧ i_Rel (k + 5) u' v') v v1) u v1 := by
  obtain ⟨rl, vw, vl, rm, h0, h1, c, K, L, R, ac, ak, al, ar, lk, im, le, gr, yt, bc, bk, bx, bw, bf, bg, rfl, rfl, W, A, B⟩ := I
  have hv := W.2.1.2
  unfold wpX_clear
  refine qx_section hv (fun j hj ej => br_f qn_10 ?_) (fun z => br_t rfl ?_)
  · subst ej
    have hcs : (nI j).toNatClampNeg = j := nI_clamp (by omega)
    have A' : qa_A 8 (qa_set c j 0) K L R (upd ac j 0) ak al ar := qa_A_cut (Nat.zero_le _) A
    have B' : qa_A 24 (qa_set c j 0) K L R (upd bc j 0) bk bx bw := qa_A_cut (Nat.zero_le _) B
    have W' : qa_W rl vw vl rm h0 h1 (qa_set c j 0) K L R := qa_W_cut (Nat.zero_le _) W
    have ea := (A j (by omega)).1
    have eb := (B j (by omega)).1
    refine ⟨vp_in_nI (by omega) (by omega), nm_r (by rw [hcs, ea]) ⟨vp_in_nI (by omega) (by omega), nm_r (e' := upd ac j 0) (by rw [hcs]) ?_⟩⟩
    have ple : nI j ≤ 2 + nI vw := by rw [qn_2]; exact nI_le (by omega) (by omega)
    refine pk_eq j 1 (fun e => ?_) (fun e => ?_)
    · refine br_f (nI_pos (by omega)) (br_t ple ⟨vp_in_nI (by omega) (by omega), nm_r (by rw [hcs, eb]) ⟨vp_in_nI (by omega) (by omega), nm_r (e' := upd bc j 0) (by rw [hcs]) ?_⟩⟩)
      refine br_t (by rw [e]; rfl) ⟨rfl, ?_⟩
      exact qi_mk (h0 := 0) (h1 := 1) (qa_W_head (by decide) (by decide) W') A' B'
    · refine br_f (nI_pos (by omega)) (br_t ple ⟨vp_in_nI (by omega) (by omega), nm_r (by rw [hcs, eb]) ⟨vp_in_nI (by omega) (by omega), nm_r (e' := upd bc j 0) (by rw [hcs]) ?_⟩⟩)
      exact pk_eq j 1 (fun e' => absurd e' e) (fun _ => ⟨rfl, qi_mk W' A' B'⟩)
  · rcases qa_in_or v1 (n := 3 + vw) (by omega) with q | ⟨-, h | ⟨h, h'⟩⟩
    · exact absurd q z
    · exact br_t h ⟨rfl, qi_mk W A B⟩
    · refine br_f h (br_f ?_ ⟨rfl, qi_mk W A B⟩)
      obtain ⟨j, hj, rfl⟩ := nI_of h
      rw [nI_leI (by omega) hj] at h'
      rw [qn_2]
      exact nI_ge (by omega) hj
theorem i_vc_head {k : Nat} {u : SX} {v : SY} (I : i_Rel k u v) (hk : k + 5 ≤ 2564) (v1 : Int32) (v2 : Int32) : wpX_head (fun r u' => wpY_head (fun r' v' => r' = r ∧ i_Rel (k + 5) u' v') v v1 v2) u v1 v2 := by
  obtain ⟨rl, vw, vl, rm, h0, h1, c, K, L, R, ac, ak, al, ar, lk, im, le, gr, yt, bc, bk, bx, bw, bf, bg, rfl, rfl, W, A, B⟩ := I
  have n5 : ∀ {x : Int32}, ¬ x < 0 → nI 5 ≤ x → ∃ j : Nat, j < 2 ^ 31 ∧ 5 ≤ j ∧ x = nI j := by
    intro x h h'
    obtain ⟨j, hj, rfl⟩ := nI_of h
    rw [nI_leI (by omega) hj] at h'
    exact ⟨j, hj, h', rfl⟩
  unfold wpX_head
  refine qx_below (n := 5) (by decide) (fun x hx ex => br_f qn_10 ?_) (fun z => br_t rfl ?_)
  · subst ex
    refine qx_below (n := 5) (by decide) (fun y hy ey => br_f qn_10 ?_) (fun z => br_t rfl ?_)
    · subst ey
      exact br_f (nI_pos (by omega)) (br_f (nI_nlt (b := x) (a := 4) (by omega) (by decide)) (br_f (nI_pos (by omega)) (br_t (nI_le (b := 4) (by omega) (by decide)) ⟨rfl, qi_mk (qa_W_head hx hy W) A B⟩)))
    · refine br_f (nI_pos (by omega)) (br_f (nI_nlt (b := x) (a := 4) (by omega) (by decide)) ?_)
      rcases qa_in_or v2 (n := 5) (by decide) with q | ⟨-, h | ⟨h, h'⟩⟩
      · exact absurd q z
      · exact br_t h ⟨rfl, qi_mk W A B⟩
      · obtain ⟨j, hj, h5, rfl⟩ := n5 h h'
        exact br_f h (br_f (nI_ge (a := 4) (by omega) hj) ⟨rfl, qi_mk W A B⟩)
  · rcases qa_in_or v1 (n := 5) (by decide) with q | ⟨-, h | ⟨h, h'⟩⟩
    · exact absurd q z
    · exact br_t h ⟨rfl, qi_mk W A B⟩
    · obtain ⟨j, hj, h5, rfl⟩ := n5 h h'
      exact br_f h (br_t (nI_lt (a := 4) (by omega) hj) ⟨rfl, qi_mk W A B⟩)
theorem i_vc_headAt {k : Nat} {u : SX} {v : SY} (I : i_Rel k u v) (hk : k + 5 ≤ 2564) (v1 : Int32) : wpX_headAt (fun r => wpY_headAt (fun r' => r' = r ∧ i_Rel (k + 5) u v) v v1) u v1 := by
  obtain ⟨rl, vw, vl, rm, h0, h1, c, K, L, R, ac, ak, al, ar, lk, im, le, gr, yt, bc, bk, bx, bw, bf, bg, rfl, rfl, W, A, B⟩ := I
  by_cases e0 : v1 = 0
  · exact br_t e0 (br_t e0 ⟨rfl, qi_mk W A B⟩)
  · by_cases e1 : v1 = 1
    · exact br_f e0 (br_t e1 (br_f e0 (br_t e1 ⟨rfl, qi_mk W A B⟩)))
    · exact br_f e0 (br_f e1 (br_f e0 (br_f e1 ⟨rfl, qi_mk W A B⟩)))
theorem qi_cl (x : Int32) (n : Nat) (hn : 1 ≤ n) (hn2 : n < 2 ^ 31) : ∃ r : Nat, (1 ≤ r ∧ r ≤ n) ∧ (∀ post : Int32 → Prop, post (nI r) → wpX_clamp post x (nI n)) ∧ (∀ (v : SY) (post : Int32 → Prop), post (nI r) → wpY_clamp post v x (nI n)) := by
  by_cases h : (1 : Int32) ≤ x
  · have h0 : ¬ x < 0 := fun z => absurd (Int32.lt_of_le_of_lt h z) (by decide)
    obtain ⟨j, hj, rfl⟩ := nI_of h0
    have h1 : 1 ≤ j := (nI_leI (a := 1) (by decide) hj).mp h
    by_cases h2 : j ≤ n
    · exact ⟨j, ⟨h1, h2⟩, fun post hp => br_t h (br_t (nI_le h2 hn2) hp), fun ⟨_, _, _, _, _, _, _, _, _, _, _, _, _⟩ post hp => br_t h (br_t (nI_le h2 hn2) hp)⟩
    · exact ⟨n, ⟨hn, Nat.le_refl _⟩, fun post hp => br_t h (br_f (nI_ge (by omega) hj) hp), fun ⟨_, _, _, _, _, _, _, _, _, _, _, _, _⟩ post hp => br_t h (br_f (nI_ge (by omega) hj) hp)⟩
  · exact ⟨1, ⟨by omega, hn⟩, fun post hp => br_f h hp, fun ⟨_, _, _, _, _, _, _, _, _, _, _, _, _⟩ post hp => br_f h hp⟩
theorem i_vc0 (k0 : Int32) (k1 : Int32) (k2 : Int32) (k3 : Int32) : wpX_init (fun u => wpY_init (fun v => i_Rel 4 u v) k0 k1 k2 k3) k0 k1 k2 k3 := by
  obtain ⟨rl, b1, x1, y1⟩ := qi_cl k0 3 (by decide) (by decide)
  obtain ⟨vw, b2, x2, y2⟩ := qi_cl k1 3 (by decide) (by decide)
  obtain ⟨vl, b3, x3, y3⟩ := qi_cl k2 4 (by decide) (by decide)
  obtain ⟨rm, b4, x4, y4⟩ := qi_cl k3 8 (by decide) (by decide)
  unfold wpX_init
  refine x1 _ (x2 _ (x3 _ (x4 _ ?_)))
  unfold wpY_init
  refine y1 _ _ (y2 _ _ (y3 _ _ (y4 _ _ ?_)))
  have A : ∀ w, qa_A w (fun _ => 0) (fun _ _ => 0) (fun _ _ => 0) (fun _ _ => 0) (fun _ => 0) (fun _ => 0) (fun _ => 0) (fun _ => 0) := fun w s hs => ⟨rfl, fun j hj => absurd hj (Nat.not_lt_zero j)⟩
  exact qi_mk (h0 := 0) (h1 := 1) (c := fun _ => 0) (K := fun _ _ => 0) (L := fun _ _ => 0) (R := fun _ _ => 0) ⟨b1, b2, b3, b4, by decide, by decide, fun s hs => ⟨Nat.zero_le _, fun j hj => absurd hj (Nat.not_lt_zero j)⟩⟩ (A 8) (A 24)
