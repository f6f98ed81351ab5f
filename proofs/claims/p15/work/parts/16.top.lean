/-! the rounds, the building of the object, the law -/
section
variable {rl vw vl h0 h1 : Nat} {c : Nat → Nat} {K L R : Nat → Nat → Nat} {ac ak al ar lk im le gr : Nat → Int32}
theorem qx_put_any {post : Int32 → St2 → Prop} {s k x y : Int32} (W : qa_W rl vw vl 6 h0 h1 c K L R) (A : qa_A 8 c K L R ac ak al ar)
    (pp : ∀ r (c2 : Nat → Nat) (K2 L2 R2 : Nat → Nat → Nat) (ac2 ak2 al2 ar2 : Nat → Int32), qa_W rl vw vl 6 h0 h1 c2 K2 L2 R2 → qa_A 8 c2 K2 L2 R2 ac2 ak2 al2 ar2 → post r (nI rl, nI vw, nI vl, nI 6, nI h0, nI h1, ac2, ak2, al2, ar2, lk, im, le, gr)) :
    wpX_put post (nI rl, nI vw, nI vl, nI 6, nI h0, nI h1, ac, ak, al, ar, lk, im, le, gr) s k x y := by
  by_cases hT : qa_T rl vw vl s k x y
  · obtain ⟨s, k, x, y, rfl, rfl, rfl, rfl, hs, hk, hx, hy⟩ := hT
    have hv := W.2.1.2
    have hl8 := qa_lm_le (s := s) W.2.2.2.1.2
    refine qx_put W A hs hk hx hy (fun _ _ => pp _ c K L R ac ak al ar W A) (fun _ _ => pp _ c K L R ac ak al ar W A) (fun _ hf => ?_)
    exact pp _ _ _ _ _ _ _ _ _ (qa_W_set (i := c s) (by omega) (Or.inr ⟨rfl, rfl⟩) hk hx hy W) (qa_A_set (Or.inl rfl) (qa_W_8 W) (by omega) (by omega) (Or.inr ⟨rfl, rfl⟩) A)
  · unfold wpX_put
    exact qx_triF W hT (br_t rfl (pp _ c K L R ac ak al ar W A))
theorem qx_drop_any {post : Int32 → St2 → Prop} {s k x y : Int32} (W : qa_W rl vw vl 6 h0 h1 c K L R) (A : qa_A 8 c K L R ac ak al ar)
    (pp : ∀ r (c2 : Nat → Nat) (K2 L2 R2 : Nat → Nat → Nat) (ac2 ak2 al2 ar2 : Nat → Int32), qa_W rl vw vl 6 h0 h1 c2 K2 L2 R2 → qa_A 8 c2 K2 L2 R2 ac2 ak2 al2 ar2 → post r (nI rl, nI vw, nI vl, nI 6, nI h0, nI h1, ac2, ak2, al2, ar2, lk, im, le, gr)) :
    wpX_drop post (nI rl, nI vw, nI vl, nI 6, nI h0, nI h1, ac, ak, al, ar, lk, im, le, gr) s k x y := by
  by_cases hT : qa_T rl vw vl s k x y
  · obtain ⟨s, k, x, y, rfl, rfl, rfl, rfl, hs, hk, hx, hy⟩ := hT
    have hv := W.2.1.2
    have hs6 : s < 6 := by omega
    have h8 := qa_W_8 W s hs6
    refine qx_drop W A hs hk hx hy (fun _ => pp _ c K L R ac ak al ar W A) (fun i hi hic => ?_)
    obtain ⟨z1, z2⟩ := W.2.2.2.2.2.2 s hs6
    obtain ⟨q1, q2, q3⟩ := z2 (c s - 1) (by omega)
    exact pp _ _ _ _ _ _ _ _ _ (qa_W_set (i := i) (by omega) (Or.inl (by omega)) q1 q2 q3 W) (qa_A_set (Or.inl rfl) (qa_W_8 W) (by omega) (by omega) (Or.inl (by omega)) A)
  · unfold wpX_drop
    exact qx_triF W hT (br_t rfl (pp _ c K L R ac ak al ar W A))
theorem qp_597 {N kc ks rd k kb : Nat} {xs : Nat → Int32} {J315 : _} (hN : N ≤ 260) (hkb : kb ≤ 1000) (hk : k + 20 < kb) (hrd : rd < 2)
    (W : qa_W rl vw vl 6 h0 h1 c K L R) (A : qa_A 8 c K L R ac ak al ar)
    (pp : ∀ (k nr nq : Nat) (x9 x11 : Int64) (h0 h1 : Nat) (cc : Nat → Nat) (KK LL RR : Nat → Nat → Nat) (ac ak al ar lk im le gr : Nat → Int32), k < kb → nr ≤ 6 → nq ≤ 4 → qa_W rl vw vl 6 h0 h1 cc KK LL RR → qa_A 8 cc KK LL RR ac ak al ar → J315 (nI k) x9 x11 (nI nr) (nI nq) (nI rd + 1) (nI rl) (nI vw) (nI vl) (nI 6) (nI h0) (nI h1) ac ak al ar lk im le gr) :
    wL_law_597 (fun r => r = 1) N xs J315 (nI rl) (nI vw) (nI vl) (nI (vl * vl)) (nI k) (nI rd) kc ks (nI rl) (nI vw) (nI vl) (nI 6) (nI h0) (nI h1) ac ak al ar lk im le gr :=
  ⟨vw * (vl * vl) + 1, qp_612 hN hkb hk hrd W A pp (vw * (vl * vl)) 0 (vw * (vl * vl) + 1) 0 (fun _ => 0) (by omega) (by omega) qp_RB_0⟩
theorem qp_514 {N kc ks rd k kb : Nat} {xs : Nat → Int32} {J315 : _} (hN : N ≤ 260) (hkb : kb ≤ 1000) (hk : k + 40 < kb) (hrd : rd < 2)
    (W : qa_W rl vw vl 6 h0 h1 c K L R) (A : qa_A 8 c K L R ac ak al ar)
    (pp : ∀ (k nr nq : Nat) (x9 x11 : Int64) (h0 h1 : Nat) (cc : Nat → Nat) (KK LL RR : Nat → Nat → Nat) (ac ak al ar lk im le gr : Nat → Int32), k < kb → nr ≤ 6 → nq ≤ 4 → qa_W rl vw vl 6 h0 h1 cc KK LL RR → qa_A 8 cc KK LL RR ac ak al ar → J315 (nI k) x9 x11 (nI nr) (nI nq) (nI rd + 1) (nI rl) (nI vw) (nI vl) (nI 6) (nI h0) (nI h1) ac ak al ar lk im le gr) :
    wL_law_514 (fun r => r = 1) N xs J315 (nI rl) (nI vw) (nI vl) (nI (vl * vl)) (nI k) (nI rd) kc ks (nI rl) (nI vw) (nI vl) (nI 6) (nI h0) (nI h1) ac ak al ar lk im le gr := by
  have hr := W.1
  have hv := W.2.1
  unfold wL_law_514
  rw [show nI k + 10 = nI (k + 10) from nI_add k 10, show nI k + 11 = nI (k + 11) from nI_add k 11, show nI k + 12 = nI (k + 12) from nI_add k 12, show nI k + 13 = nI (k + 13) from nI_add k 13]
  have fin : ∀ (c2 : Nat → Nat) (K2 L2 R2 : Nat → Nat → Nat) (ac2 ak2 al2 ar2 : Nat → Int32), qa_W rl vw vl 6 h0 h1 c2 K2 L2 R2 → qa_A 8 c2 K2 L2 R2 ac2 ak2 al2 ar2 → wL_law_594 (fun r => r = 1) N xs J315 (nI rl) (nI vw) (nI vl) (nI (vl * vl)) (nI k) (nI rd) kc ks (nI rl) (nI vw) (nI vl) (nI 6) (nI h0) (nI h1) ac2 ak2 al2 ar2 lk im le gr := fun c2 K2 L2 R2 ac2 ak2 al2 ar2 W2 A2 =>
    nm_r (nI_add k 14) (qp_597 hN hkb (by omega) hrd W2 A2 pp)
  refine qp_pick hN (by omega) (by omega) (by omega) (fun r1 _ => nm_e (qp_pick hN (by omega) (by omega) (by omega) (fun r2 _ => qp_pick (n := 4) hN (by omega) (by decide) (by decide) (fun r3 _ => qp_pick (n := 4) hN (by omega) (by decide) (by decide) (fun r4 _ => ?_)))))
  refine qx_put_any W A (fun r c2 K2 L2 R2 ac2 ak2 al2 ar2 W2 A2 => br_c (fun _ => ?_) (fun _ => fin c2 K2 L2 R2 ac2 ak2 al2 ar2 W2 A2))
  exact qx_drop_any W2 A2 (fun r c3 K3 L3 R3 ac3 ak3 al3 ar3 W3 A3 => fin c3 K3 L3 R3 ac3 ak3 al3 ar3 W3 A3)
theorem qp_464 {N kc ks rd k kb : Nat} {xs : Nat → Int32} {J315 : _} (hN : N ≤ 260) (hkb : kb ≤ 1000) (hk : k + 40 < kb) (hrd : rd < 2)
    (W : qa_W rl vw vl 6 h0 h1 c K L R) (A : qa_A 8 c K L R ac ak al ar)
    (pp : ∀ (k nr nq : Nat) (x9 x11 : Int64) (h0 h1 : Nat) (cc : Nat → Nat) (KK LL RR : Nat → Nat → Nat) (ac ak al ar lk im le gr : Nat → Int32), k < kb → nr ≤ 6 → nq ≤ 4 → qa_W rl vw vl 6 h0 h1 cc KK LL RR → qa_A 8 cc KK LL RR ac ak al ar → J315 (nI k) x9 x11 (nI nr) (nI nq) (nI rd + 1) (nI rl) (nI vw) (nI vl) (nI 6) (nI h0) (nI h1) ac ak al ar lk im le gr) :
    wL_law_464 (fun r => r = 1) N xs J315 (nI rl) (nI vw) (nI vl) (nI (vl * vl)) (nI k) (nI rd) kc ks (nI rl) (nI vw) (nI vl) (nI 6) (nI h0) (nI h1) ac ak al ar lk im le gr := by
  have hr := W.1
  unfold wL_law_464
  rw [show nI k + 6 = nI (k + 6) from nI_add k 6, show nI k + 7 = nI (k + 7) from nI_add k 7, show nI k + 8 = nI (k + 8) from nI_add k 8, show nI k + 9 = nI (k + 9) from nI_add k 9]
  refine qp_pick (n := 2) hN (by omega) (by decide) (by decide) (fun r1 _ => br_c (fun _ => ?_) (fun _ => qp_514 hN hkb hk hrd W A pp))
  refine qp_pick hN (by omega) (by omega) (by omega) (fun r2 _ => qp_pick (n := 5) hN (by omega) (by decide) (by decide) (fun r3 _ => qp_pick (n := 5) hN (by omega) (by decide) (by decide) (fun r4 _ => ?_)))
  exact qx_put_any W A (fun r c2 K2 L2 R2 ac2 ak2 al2 ar2 W2 A2 => qp_514 hN hkb hk hrd W2 A2 pp)
theorem qp_372 {N kc ks rd k nq kb : Nat} {xs : Nat → Int32} {x11 : Int64} {J315 : _} (hN : N ≤ 260) (hkb : kb ≤ 1000) (hk : k + 40 < kb) (hrd : rd < 2) (hnq : nq ≤ 4)
    (W : qa_W rl vw vl 6 h0 h1 c K L R) (A : qa_A 8 c K L R ac ak al ar)
    (pp : ∀ (k nr nq : Nat) (x9 x11 : Int64) (h0 h1 : Nat) (cc : Nat → Nat) (KK LL RR : Nat → Nat → Nat) (ac ak al ar lk im le gr : Nat → Int32), k < kb → nr ≤ 6 → nq ≤ 4 → qa_W rl vw vl 6 h0 h1 cc KK LL RR → qa_A 8 cc KK LL RR ac ak al ar → J315 (nI k) x9 x11 (nI nr) (nI nq) (nI rd + 1) (nI rl) (nI vw) (nI vl) (nI 6) (nI h0) (nI h1) ac ak al ar lk im le gr) :
    wL_law_372 (fun r => r = 1) N xs J315 (nI rl) (nI vw) (nI vl) (nI (vl * vl)) (nI k) x11 (nI nq) (nI rd) kc ks (nI rl) (nI vw) (nI vl) (nI 6) (nI h0) (nI h1) ac ak al ar lk im le gr := by
  have hr := W.1
  have hv := W.2.1
  have hl := W.2.2.1
  have z25 : ¬ (25 : Int32) = 0 := by decide
  have z5 : ¬ (5 : Int32) = 0 := by decide
  unfold wL_law_372
  rw [nI_1 k, show nI k + 2 = nI (k + 2) from nI_add k 2, show nI k + 3 = nI (k + 3) from nI_add k 3, show nI k + 4 = nI (k + 4) from nI_add k 4, show nI k + 5 = nI (k + 5) from nI_add k 5]
  refine qp_pick hN (by omega) (by omega) (by omega) (fun r1 _ => qp_pick hN (by omega) (by omega) (by omega) (fun r2 _ => qp_pick hN (by omega) (by omega) (by omega) (fun r3 _ => ?_)))
  refine qx_put_any W A (fun r c2 K2 L2 R2 ac2 ak2 al2 ar2 W2 A2 => pk_le nq 0 (fun h => qp_464 hN hkb hk hrd W2 A2 pp) (fun h => ?_))
  refine qp_pick (n := 2) hN (by omega) (by decide) (by decide) (fun r4 _ => br_c (fun _ => ?_) (fun _ => qp_464 hN hkb hk hrd W2 A2 pp))
  refine qp_pick hN (by omega) h (by omega) (fun r5 _ => qp_at_any (fun z => ⟨z25, z5, z5, z5, ?_⟩))
  exact qx_drop_any W2 A2 (fun r c3 K3 L3 R3 ac3 ak3 al3 ar3 W3 A3 => qp_464 hN hkb hk hrd W3 A3 pp)
theorem qp_315 {N kc ks k n : Nat} {xs : Nat → Int32} {x9 x11 : Int64} (hN : N ≤ 260) (hk : k < 600) (W : qa_W rl vw vl 6 h0 h1 c K L R) (A : qa_A 8 c K L R ac ak al ar) :
    wL_law_315 (fun r => r = 1) N xs (nI rl) (nI vw) (nI vl) (nI (vl * vl)) kc ks (n + 3) (nI k) x9 x11 0 0 0 (nI rl) (nI vw) (nI vl) (nI 6) (nI h0) (nI h1) ac ak al ar lk im le gr := by
  have hl := W.2.2.1
  have hvv : vl * vl ≤ 16 := Nat.mul_le_mul hl.2 hl.2
  have hv1 : 0 < vl * vl := Nat.mul_pos (by omega) (by omega)
  have z5 : ¬ nI (vl * vl) = 0 := nI_ne0 hv1 (by omega)
  have z4 : ¬ nI vl = 0 := nI_ne0 (by omega) (by omega)
  have R2 : ∀ (k nr nq : Nat) (x9 x11 : Int64) (h0 h1 : Nat) (cc : Nat → Nat) (KK LL RR : Nat → Nat → Nat) (ac ak al ar lk im le gr : Nat → Int32), k < 1000 → nr ≤ 6 → nq ≤ 4 → qa_W rl vw vl 6 h0 h1 cc KK LL RR → qa_A 8 cc KK LL RR ac ak al ar → wL_law_315 (fun r => r = 1) N xs (nI rl) (nI vw) (nI vl) (nI (vl * vl)) kc ks (n + 1) (nI k) x9 x11 (nI nr) (nI nq) (nI 1 + 1) (nI rl) (nI vw) (nI vl) (nI 6) (nI h0) (nI h1) ac ak al ar lk im le gr :=
    fun k nr nq x9 x11 h0 h1 cc KK LL RR ac ak al ar lk im le gr _ _ _ _ _ => br_t (by decide) rfl
  have R1 : ∀ (k nr nq : Nat) (x9 x11 : Int64) (h0 h1 : Nat) (cc : Nat → Nat) (KK LL RR : Nat → Nat → Nat) (ac ak al ar lk im le gr : Nat → Int32), k < 700 → nr ≤ 6 → nq ≤ 4 → qa_W rl vw vl 6 h0 h1 cc KK LL RR → qa_A 8 cc KK LL RR ac ak al ar → wL_law_315 (fun r => r = 1) N xs (nI rl) (nI vw) (nI vl) (nI (vl * vl)) kc ks (n + 2) (nI k) x9 x11 (nI nr) (nI nq) (nI 0 + 1) (nI rl) (nI vw) (nI vl) (nI 6) (nI h0) (nI h1) ac ak al ar lk im le gr := by
    intro k nr nq x9 x11 h0 h1 cc KK LL RR ac ak al ar lk im le gr hk7 hnr hnq W A
    refine br_f (by decide) (br_t (by decide) (pk_le nr 0 (fun h => ?_) (fun h => ?_)))
    · exact qp_372 (rd := 1) (kb := 1000) hN (by decide) (by omega) (by decide) hnq W A R2
    · refine qp_pick hN (by omega) h (by omega) (fun r5 _ => qp_at_any (fun z => ⟨z5, z4, z4, z4, ?_⟩))
      exact qx_drop_any W A (fun r c3 K3 L3 R3 ac3 ak3 al3 ar3 W3 A3 => qp_372 (rd := 1) (kb := 1000) hN (by decide) (by omega) (by decide) hnq W3 A3 R2)
  refine br_f (by decide) (br_f (by decide) ?_)
  exact qp_597 (rd := 0) (kb := 700) hN (by decide) (by omega) (by decide) W A R1
/-! the building -/
theorem qp_250 {N kc ks m : Nat} {xs : Nat → Int32} (hN : N ≤ 260) (hm : m ≤ 6) :
    ∀ d i n k (c : Nat → Nat) (K L R : Nat → Nat → Nat) (ac ak al ar lk im le gr : Nat → Int32), i + d = m → d < n → k + 3 * d < 500 → qa_W rl vw vl 6 h0 h1 c K L R → qa_A 8 c K L R ac ak al ar →
      wL_law_250 (fun r => r = 1) N xs (nI rl) (nI vw) (nI vl) (nI (vl * vl)) (nI m) kc ks n (nI k) (nI i) (nI rl) (nI vw) (nI vl) (nI 6) (nI h0) (nI h1) ac ak al ar lk im le gr := by
  intro d
  induction d with
  | zero =>
    intro i n k c K L R ac ak al ar lk im le gr hi hn hk W A
    obtain ⟨n, rfl⟩ : ∃ m, n = m + 1 := ⟨n - 1, by omega⟩
    exact br_t (nI_le (by omega) (by omega)) ⟨3, qp_315 (n := 0) hN (by omega) W A⟩
  | succ d ih =>
    intro i n k c K L R ac ak al ar lk im le gr hi hn hk W A
    obtain ⟨n, rfl⟩ : ∃ m, n = m + 1 := ⟨n - 1, by omega⟩
    have hv := W.2.1
    have hl := W.2.2.1
    refine br_f (nI_ge (by omega) (by omega)) ?_
    rw [nI_1 k, show nI k + 2 = nI (k + 2) from nI_add k 2]
    refine qp_pick hN (by omega) (by omega) (by omega) (fun r1 _ => qp_pick hN (by omega) (by omega) (by omega) (fun r2 _ => qp_pick hN (by omega) (by omega) (by omega) (fun r3 _ => ?_)))
    exact qx_put_any W A (fun r c2 K2 L2 R2 ac2 ak2 al2 ar2 W2 A2 => nm_r (nI_add k 3) (nm_r (nI_1 i) (ih (i + 1) n (k + 3) c2 K2 L2 R2 ac2 ak2 al2 ar2 lk im le gr (by omega) (by omega) (by omega) W2 A2)))
theorem qp_193 {N kc ks k i : Nat} {xs : Nat → Int32} {x8 x9 x10 x11 x12 x14 z0 : Int32} {J58 J136 : _} (hN : N ≤ 260) (hk : k < 900) (W : qa_W rl vw vl 6 h0 h1 c K L R) (A : qa_A 8 c K L R ac ak al ar)
    (pp : ∀ (c : Nat → Nat) (K L R : Nat → Nat → Nat) (ac ak al ar : Nat → Int32), qa_W rl vw vl 6 h0 h1 c K L R → qa_A 8 c K L R ac ak al ar → J136 (nI (k + 3)) (nI (i + 1)) (nI rl) (nI vw) (nI vl) (nI 6) (nI h0) (nI h1) ac ak al ar lk im le gr) :
    wL_law_193 (fun r => r = 1) N xs J58 J136 (nI rl) (nI vw) (nI vl) (nI (vl * vl)) (nI k) x8 x9 x10 x11 x12 (nI i) x14 z0 kc ks (nI rl) (nI vw) (nI vl) (nI 6) (nI h0) (nI h1) ac ak al ar lk im le gr := by
  have hr := W.1
  unfold wL_law_193
  rw [nI_1 rl]
  refine qp_pick hN (by omega) (by omega) (by omega) (fun r1 _ => ⟨nI_ne0 (by omega) (by omega), ?_⟩)
  exact qx_put_any W A (fun r c2 K2 L2 R2 ac2 ak2 al2 ar2 W2 A2 => nm_r (nI_add k 3) (nm_r (nI_1 i) (pp c2 K2 L2 R2 ac2 ak2 al2 ar2 W2 A2)))
theorem qp_166 {N kc ks k i rg : Nat} {xs : Nat → Int32} {x8 x9 x11 x12 z0 : Int32} {J58 J136 : _} (hN : N ≤ 260) (hk : k < 900) (hrg : 0 < rg) (hrg2 : rg < 10) (W : qa_W rl vw vl 6 h0 h1 c K L R) (A : qa_A 8 c K L R ac ak al ar)
    (pp : ∀ (c : Nat → Nat) (K L R : Nat → Nat → Nat) (ac ak al ar : Nat → Int32), qa_W rl vw vl 6 h0 h1 c K L R → qa_A 8 c K L R ac ak al ar → J136 (nI (k + 3)) (nI (i + 1)) (nI rl) (nI vw) (nI vl) (nI 6) (nI h0) (nI h1) ac ak al ar lk im le gr) :
    wL_law_166 (fun r => r = 1) N xs J58 J136 (nI rl) (nI vw) (nI vl) (nI (vl * vl)) (nI k) x8 x9 (nI rg) x11 x12 (nI i) z0 kc ks (nI rl) (nI vw) (nI vl) (nI 6) (nI h0) (nI h1) ac ak al ar lk im le gr := by
  unfold wL_law_166
  refine br_c (fun _ => ?_) (fun _ => br_c (fun _ => qp_193 hN hk W A pp) (fun _ => qp_193 hN hk W A pp))
  rw [show nI k + 2 = nI (k + 2) from nI_add k 2]
  exact qp_pick hN (by omega) hrg (by omega) (fun r _ => qp_193 hN hk W A pp)
theorem qp_136 {N kc ks m rg kb : Nat} {xs : Nat → Int32} {x8 x9 x12 : Int32} {J58 : _} (hN : N ≤ 260) (hrg : 0 < rg) (hrg2 : rg < 10) (hm : m ≤ 4) (hkb : kb < 900)
    (pp : ∀ (k : Nat) (c : Nat → Nat) (K L R : Nat → Nat → Nat) (ac ak al ar lk im le gr : Nat → Int32), k ≤ kb → qa_W rl vw vl 6 h0 h1 c K L R → qa_A 8 c K L R ac ak al ar → J58 (nI k) (x8 + 1) (nI rl) (nI vw) (nI vl) (nI 6) (nI h0) (nI h1) ac ak al ar lk im le gr) :
    ∀ d i n k (c : Nat → Nat) (K L R : Nat → Nat → Nat) (ac ak al ar lk im le gr : Nat → Int32), i + d = m → d < n → k + 3 * d ≤ kb → qa_W rl vw vl 6 h0 h1 c K L R → qa_A 8 c K L R ac ak al ar →
      wL_law_136 (fun r => r = 1) N xs J58 (nI rl) (nI vw) (nI vl) (nI (vl * vl)) x8 x9 (nI rg) (nI m) x12 kc ks n (nI k) (nI i) (nI rl) (nI vw) (nI vl) (nI 6) (nI h0) (nI h1) ac ak al ar lk im le gr := by
  intro d
  induction d with
  | zero =>
    intro i n k c K L R ac ak al ar lk im le gr hi hn hk W A
    obtain ⟨n, rfl⟩ : ∃ m, n = m + 1 := ⟨n - 1, by omega⟩
    exact br_t (nI_le (by omega) (by omega)) (nm_e (pp k c K L R ac ak al ar lk im le gr (by omega) W A))
  | succ d ih =>
    intro i n k c K L R ac ak al ar lk im le gr hi hn hk W A
    obtain ⟨n, rfl⟩ : ∃ m, n = m + 1 := ⟨n - 1, by omega⟩
    have nx : ∀ (c : Nat → Nat) (K L R : Nat → Nat → Nat) (ac ak al ar : Nat → Int32), qa_W rl vw vl 6 h0 h1 c K L R → qa_A 8 c K L R ac ak al ar → wL_law_136 (fun r => r = 1) N xs J58 (nI rl) (nI vw) (nI vl) (nI (vl * vl)) x8 x9 (nI rg) (nI m) x12 kc ks n (nI (k + 3)) (nI (i + 1)) (nI rl) (nI vw) (nI vl) (nI 6) (nI h0) (nI h1) ac ak al ar lk im le gr :=
      fun c K L R ac ak al ar W A => ih (i + 1) n (k + 3) c K L R ac ak al ar lk im le gr (by omega) (by omega) (by omega) W A
    refine br_f (nI_ge (by omega) (by omega)) (br_c (fun _ => ?_) (fun _ => br_c (fun _ => qp_166 hN (by omega) hrg hrg2 W A nx) (fun _ => qp_166 hN (by omega) hrg hrg2 W A nx)))
    rw [nI_1 k]
    exact qp_pick hN (by omega) hrg (by omega) (fun r _ => qp_166 hN (by omega) hrg hrg2 W A nx)
theorem qp_105 {N kc ks k rg q : Nat} {xs : Nat → Int32} {x8 x9 : Int32} {J58 : _} (hN : N ≤ 260) (hk : k < 800) (hrg : 0 < rg) (hrg2 : rg < 10) (hq : 0 < q) (hq4 : q ≤ 4) (W : qa_W rl vw vl 6 h0 h1 c K L R) (A : qa_A 8 c K L R ac ak al ar)
    (pp : ∀ (k' : Nat) (c : Nat → Nat) (K L R : Nat → Nat → Nat) (ac ak al ar lk im le gr : Nat → Int32), k' ≤ k + 14 → qa_W rl vw vl 6 h0 h1 c K L R → qa_A 8 c K L R ac ak al ar → J58 (nI k') (x8 + 1) (nI rl) (nI vw) (nI vl) (nI 6) (nI h0) (nI h1) ac ak al ar lk im le gr) :
    wL_law_105 (fun r => r = 1) N xs J58 (nI rl) (nI vw) (nI vl) (nI (vl * vl)) (nI k) x8 x9 (nI rg) (nI q) (nI k) 1 kc ks (nI rl) (nI vw) (nI vl) (nI 6) (nI h0) (nI h1) ac ak al ar lk im le gr := by
  unfold wL_law_105
  rw [nI_1 k]
  refine qp_pick hN (by omega) hq (by omega) (fun r hr => nm_r (nI_add 1 r) (qp_pick (n := 3) hN (by omega) (by decide) (by decide) (fun r2 _ => br_c (fun _ => nm_r (nI_add k 2) ⟨1 + r + 1, ?_⟩) (fun _ => nm_r (nI_add k 2) ⟨1 + r + 1, ?_⟩))))
  · exact qp_136 (kb := k + 14) hN hrg hrg2 (by omega) (by omega) pp (1 + r) 0 (1 + r + 1) (k + 2) c K L R ac ak al ar lk im le gr (by omega) (by omega) (by omega) W A
  · exact qp_136 (kb := k + 14) hN hrg hrg2 (by omega) (by omega) pp (1 + r) 0 (1 + r + 1) (k + 2) c K L R ac ak al ar lk im le gr (by omega) (by omega) (by omega) W A
theorem qp_58 {N kc ks : Nat} {xs : Nat → Int32} (hN : N ≤ 260) :
    ∀ d t n k (c : Nat → Nat) (K L R : Nat → Nat → Nat) (ac ak al ar lk im le gr : Nat → Int32), t + d = vw → d < n → k + 14 * d < 300 → qa_W rl vw vl 6 h0 h1 c K L R → qa_A 8 c K L R ac ak al ar →
      wL_law_58 (fun r => r = 1) N xs (nI rl) (nI vw) (nI vl) (nI (vl * vl)) kc ks n (nI k) (nI t) (nI rl) (nI vw) (nI vl) (nI 6) (nI h0) (nI h1) ac ak al ar lk im le gr := by
  intro d
  induction d with
  | zero =>
    intro t n k c K L R ac ak al ar lk im le gr hi hn hk W A
    obtain ⟨n, rfl⟩ : ∃ m, n = m + 1 := ⟨n - 1, by omega⟩
    have hv := W.2.1
    refine br_t (nI_le (by omega) (by omega)) (nm_r (nI_1 k) (qp_pick (n := 4) hN (by omega) (by decide) (by decide) (fun r hr => nm_r (nI_add 3 r) ⟨3 + r + 1, ?_⟩)))
    exact qp_250 hN (by omega) (3 + r) 0 (3 + r + 1) (k + 1) c K L R ac ak al ar lk im le gr (by omega) (by omega) (by omega) W A
  | succ d ih =>
    intro t n k c K L R ac ak al ar lk im le gr hi hn hk W A
    obtain ⟨n, rfl⟩ : ∃ m, n = m + 1 := ⟨n - 1, by omega⟩
    have hv := W.2.1
    have h0t : (0 : Int32) ≤ nI t := nI_pos' (by omega)
    refine br_f (nI_ge (by omega) (by omega)) (br_t h0t (br_t h0t (br_t h0t ?_)))
    refine qp_105 (rg := 4) (q := 3) hN (by omega) (by decide) (by decide) (by decide) (by decide) W A (fun k' c K L R ac ak al ar lk im le gr hk' W A => ?_)
    rw [nI_1 t]
    exact ih (t + 1) n k' c K L R ac ak al ar lk im le gr (by omega) (by omega) (by omega) W A
end
theorem qp_cl {post : Int32 → Prop} {x n : Nat} (h1 : 1 ≤ x) (h2 : x ≤ n) (hn : n < 2 ^ 31) (hp : post (nI x)) : wpX_clamp post () (nI x) (nI n) :=
  br_t (nI_le (a := 1) h1 (by omega)) (br_t (nI_le h2 hn) hp)
theorem i_vc (xs : Nat → Int32) (L : Nat) (hL : L ≤ 260) : wpL_law (fun r => r = 1) L xs := by
  unfold wpL_law
  refine qp_pick (k := 0) (n := 3) hL (by decide) (by decide) (by decide) (fun r1 h1 => nm_r (nI_add 1 r1) ?_)
  refine qp_pick (k := 1) (n := 3) hL (by decide) (by decide) (by decide) (fun r2 h2 => nm_r (nI_add 1 r2) ?_)
  refine qp_pick (k := 2) (n := 3) hL (by decide) (by decide) (by decide) (fun r3 h3 => nm_r (nI_add 2 r3) (nm_r (pk_mul (2 + r3) (2 + r3)) ⟨8, 228, by decide, by decide, ?_⟩))
  refine ⟨by decide, by decide, by decide, by decide, by decide, by decide, by decide, by decide, by decide, by decide, by decide, by decide, by decide, by decide, by decide, by decide, ?_⟩
  refine qp_cl (n := 3) (by omega) (by omega) (by decide) (qp_cl (n := 3) (by omega) (by omega) (by decide) (qp_cl (n := 4) (by omega) (by omega) (by decide) (qp_cl (x := 6) (n := 8) (by omega) (by omega) (by decide) ?_)))
  have A : qa_A 8 (fun _ => 0) (fun _ _ => 0) (fun _ _ => 0) (fun _ _ => 0) (fun _ => 0) (fun _ => 0) (fun _ => 0) (fun _ => 0) := fun s hs => ⟨rfl, fun j hj => absurd hj (Nat.not_lt_zero j)⟩
  have W : qa_W (1 + r1) (1 + r2) (2 + r3) 6 0 1 (fun _ => 0) (fun _ _ => 0) (fun _ _ => 0) (fun _ _ => 0) := ⟨⟨by omega, by omega⟩, ⟨by omega, by omega⟩, ⟨by omega, by omega⟩, ⟨by decide, by decide⟩, by decide, by decide, fun s hs => ⟨Nat.zero_le _, fun j hj => absurd hj (Nat.not_lt_zero j)⟩⟩
  refine ⟨1 + r2 + 2, ?_⟩
  have hm : ¬ (0 : Int32) ≤ -1 := by decide
  refine br_f (fun z => ?_) (br_f hm (br_f hm (br_f hm ?_)))
  · have : (0 : Int32) ≤ nI (1 + r2) := nI_pos' (by omega)
    exact hm (Int32.le_trans this z)
  · refine qp_105 (k := 3) (rg := 5) (q := 4) hL (by decide) (by decide) (by decide) (by decide) (by decide) W A (fun k' c K L R ac ak al ar lk im le gr hk' W A => ?_)
    exact qp_58 hL (1 + r2) 0 (1 + r2 + 1) k' c K L R ac ak al ar lk im le gr (by omega) (by omega) (by omega) W A
