/-! the first half of a round: a candidate, and what was read back -/
section
variable {rl vw vl h0 h1 : Nat} {c : Nat → Nat} {K L R : Nat → Nat → Nat} {cc : Nat → Nat} {KK LL RR : Nat → Nat → Nat} {ac ak al ar lk im le gr : Nat → Int32}
theorem qp_used {used : Int32} {m v : Nat} (h : used &&& (nI m ^^^ (-1)) = 0) (hv : v < 32) (hu : bt used v = true) : m.testBit v = true := by
  have e : bt (used &&& (nI m ^^^ (-1))) v = false := by rw [h, b_0]
  rw [b_and, b_xor, hu, b_m1 v hv, qp_bt hv, Bool.true_and] at e
  cases q : m.testBit v
  · rw [q] at e; exact absurd e (by decide)
  · rfl
theorem qp_first {m a b hb0 hb1 : Nat} {used hi : Int32} (Wb : qa_W rl vw vl 6 hb0 hb1 c K L R) (W : qa_W rl vw vl 6 h0 h1 cc KK LL RR) (G : qp_AG c K L R cc KK LL RR) (hhi : ∀ v, v < vw → bt hi v = false)
    (hU : ∀ j, j < cc 1 → bt used (KK 1 j) = true) (hs : qa_Mt (cc 0) (KK 0) (LL 0) (RR 0) (qa_FX cc KK LL RR (qa_on (-1) (KK 1)) (KK 1) (LL 1) (RR 1) (fun i => 5 + 2 * i) (cc 1)) 21 h0 h1)
    (hc : qa_Cd h0 h1 a b (cc 1) (KK 1) (LL 1) (RR 1) (qa_In (cc 2) (KK 2) (LL 2) (RR 2)) vl) (hm : used &&& (nI m ^^^ (-1)) = 0) : qp_CC c K L R (nI m ||| hi) a b := by
  obtain ⟨g, e0, e1, g2, g3⟩ := hc
  obtain ⟨q1, q2, q3, q4⟩ := G 0 (by decide)
  obtain ⟨r1, r2, r3, r4⟩ := G 2 (by decide)
  have hv := Wb.2.1.2
  have hl := Wb.2.2.1
  rw [qp_AG_FX G, q1, q2, q3, q4] at hs
  refine qp_comp (g := g) (qa_W_8 Wb 2 (by decide)) (fun i hi j hj => (qa_W_v Wb _ (qa_W_b W (s := 1) (by decide) i hi).1 j hj).2) (fun i hi => (qa_W_b W (s := 1) (by decide) i hi).2) (fun v hv => by have := g2 v hv; omega) (fun i hi' ho => ?_) W.2.2.2.2.1 W.2.2.2.2.2.1 e0 e1 hs
  have z := g3 i hi'
  rw [r1, r2, r3, r4] at z
  obtain ⟨i', z1, z2, z3, z4⟩ := z
  have hkv : KK 1 i < vw := ((W.2.2.2.2.2.2 1 (by decide)).2 i hi').1
  refine ⟨i', z1, ?_, z2, z3, z4⟩
  rw [qp_onm (vw := vw) (by rw [z2]; exact hkv) hv hhi, z2]
  exact qp_used hm (by omega) (hU i hi')
theorem qp_1008 {N p nr nq kc ks : Nat} {xs : Nat → Int32} {cs : Nat → Nat} {x7 x15 x20 used hi : Int32} {x11 : Int64} {J315 J971 : _} (W : qa_W rl vw vl 6 h0 h1 cc KK LL RR) (A : qa_A 8 cc KK LL RR ac ak al ar) (G : qp_AG c K L R cc KK LL RR) (hp : p < vl * vl)
    (hC : ∀ m, used &&& (nI m ^^^ (-1)) = 0 → qp_CC c K L R (nI m ||| hi) (p / vl) (p % vl))
    (pp : ∀ lk im le gr, J971 (nI (p + 1)) (nI rl) (nI vw) (nI vl) (nI 6) (nI h0) (nI h1) ac ak al ar lk im le gr) :
    ∀ d m n (lk im le gr : Nat → Int32), m + d = 2 ^ vw → d < n → wL_law_1008 (fun r => r = 1) N xs J315 J971 (nI rl) (nI vw) (nI vl) (nI (vl * vl)) x7 (lN (qp_pk cs nr)) x11 (nI nr) (nI nq) x15 hi used x20 (nI p) kc ks n (nI m) (nI rl) (nI vw) (nI vl) (nI 6) (nI h0) (nI h1) ac ak al ar lk im le gr := by
  have hv := W.2.1.2
  have hl := W.2.2.1
  have h8 := qp_2pow hv
  have hvv : vl * vl ≤ 16 := Nat.mul_le_mul hl.2 hl.2
  have z4 : ¬ nI vl = 0 := nI_ne0 (by omega) (by omega)
  have hd : p / vl < vl := (Nat.div_lt_iff_lt_mul (by omega)).mpr hp
  intro d
  induction d with
  | zero =>
    intro m n lk im le gr hm hn
    obtain ⟨n, rfl⟩ : ∃ m, n = m + 1 := ⟨n - 1, by omega⟩
    exact br_t (by rw [qp_sh vw (by omega)]; exact nI_le (by omega) (by omega)) (nm_r (nI_1 p) (pp lk im le gr))
  | succ d ih =>
    intro m n lk im le gr hm hn
    obtain ⟨n, rfl⟩ : ∃ m, n = m + 1 := ⟨n - 1, by omega⟩
    refine br_f (by rw [qp_sh vw (by omega)]; exact nI_ge (by omega) (by omega)) (br_c (fun hu => ⟨z4, z4, ?_⟩) (fun hu => nm_r (nI_1 m) (ih (m + 1) n lk im le gr (by omega) (by omega))))
    rw [show nI p / nI vl = nI (p / vl) from pk_div (by omega) (by omega) (by omega), show nI p - nI (p / vl) * nI vl = nI (p % vl) from by
      have e := pk_rem (a := p) (d := vl) (by omega) (by omega) (by omega)
      rw [pk_div (by omega) (by omega) (by omega)] at e
      exact e]
    exact qp_cert W A G hd (Nat.mod_lt _ (by omega)) (fun _ lk2 im2 le2 gr2 => br_t rfl (nm_r (nI_1 m) (ih (m + 1) n lk2 im2 le2 gr2 (by omega) (by omega)))) (fun z => absurd (hC m hu) z)
theorem qp_971 {N nr nq kc ks hb0 hb1 : Nat} {xs : Nat → Int32} {cs KQ LQ RQ : Nat → Nat} {x7 x15 used hi : Int32} {x11 : Int64} {J315 : _}
    (Wb : qa_W rl vw vl 6 hb0 hb1 c K L R) (BS : qp_BS vw vl c K L R nr cs nq KQ LQ RQ hi) (W : qa_W rl vw vl 6 h0 h1 cc KK LL RR) (A : qa_A 8 cc KK LL RR ac ak al ar) (G : qp_AG c K L R cc KK LL RR) (hU : ∀ j, j < cc 1 → bt used (KK 1 j) = true)
    (hs : qa_Mt (cc 0) (KK 0) (LL 0) (RR 0) (qa_FX cc KK LL RR (qa_on (-1) (KK 1)) (KK 1) (LL 1) (RR 1) (fun i => 5 + 2 * i) (cc 1)) 21 h0 h1)
    (pp : ∀ (h0 h1 : Nat) (cc : Nat → Nat) (KK LL RR : Nat → Nat → Nat) (ac ak al ar lk im le gr : Nat → Int32), qa_W rl vw vl 6 h0 h1 cc KK LL RR → qa_A 8 cc KK LL RR ac ak al ar → qp_AG c K L R cc KK LL RR → J315 x7 (lN (qp_pk cs nr)) x11 (nI nr) (nI nq) (x15 + 1) (nI rl) (nI vw) (nI vl) (nI 6) (nI h0) (nI h1) ac ak al ar lk im le gr) :
    ∀ d p n (lk im le gr : Nat → Int32), p + d = vl * vl → d < n → wL_law_971 (fun r => r = 1) N xs J315 (nI rl) (nI vw) (nI vl) (nI (vl * vl)) x7 (lN (qp_pk cs nr)) x11 (nI nr) (nI nq) x15 hi used 1 kc ks n (nI p) (nI rl) (nI vw) (nI vl) (nI 6) (nI h0) (nI h1) ac ak al ar lk im le gr := by
  have hl := W.2.2.1
  have hvv : vl * vl ≤ 16 := Nat.mul_le_mul hl.2 hl.2
  have z4 : ¬ nI vl = 0 := nI_ne0 (by omega) (by omega)
  intro d
  induction d with
  | zero =>
    intro p n lk im le gr hp hn
    obtain ⟨n, rfl⟩ : ∃ m, n = m + 1 := ⟨n - 1, by omega⟩
    exact br_f qn_10 (br_t (nI_le (by omega) (by omega)) ⟨vl * vl + 1, qp_1067 Wb BS pp (vl * vl) 0 (vl * vl + 1) h0 h1 cc KK LL RR ac ak al ar lk im le gr (by omega) (by omega) W A G⟩)
  | succ d ih =>
    intro p n lk im le gr hp hn
    obtain ⟨n, rfl⟩ : ∃ m, n = m + 1 := ⟨n - 1, by omega⟩
    have hd : p / vl < vl := (Nat.div_lt_iff_lt_mul (by omega)).mpr (by omega)
    refine br_f qn_10 (br_f (nI_ge (by omega) (by omega)) ⟨z4, z4, ?_⟩)
    rw [show nI p / nI vl = nI (p / vl) from pk_div (by omega) (by omega) (by omega), show nI p - nI (p / vl) * nI vl = nI (p % vl) from by
      have e := pk_rem (a := p) (d := vl) (by omega) (by omega) (by omega)
      rw [pk_div (by omega) (by omega) (by omega)] at e
      exact e]
    refine qx_candidateHas W A hd (Nat.mod_lt _ (by omega)) (fun z lk2 im2 le2 gr2 => br_t rfl ⟨2 ^ vw + 1, ?_⟩) (fun z lk2 im2 le2 gr2 => br_f qn_01 (nm_r (nI_1 p) (ih (p + 1) n lk2 im2 le2 gr2 (by omega) (by omega))))
    exact qp_1008 W A G (by omega) (fun m hm => qp_first Wb W G BS.2.2.2.2.2.2 hU hs z hm) (fun lk im le gr => ih (p + 1) n lk im le gr (by omega) (by omega)) (2 ^ vw) 0 (2 ^ vw + 1) lk2 im2 le2 gr2 (by omega) (by omega)
theorem qx_put_c {post : Int32 → St2 → Prop} {v x y : Nat} (W : qa_W rl vw vl 6 h0 h1 cc KK LL RR) (A : qa_A 8 cc KK LL RR ac ak al ar) (G : qp_AG c K L R cc KK LL RR) (hv : v < vw) (hx : x < 5) (hy : y < 5)
    (pp : ∀ r (c2 : Nat → Nat) (K2 L2 R2 : Nat → Nat → Nat) (ac2 ak2 al2 ar2 : Nat → Int32), qa_W rl vw vl 6 h0 h1 c2 K2 L2 R2 → qa_A 8 c2 K2 L2 R2 ac2 ak2 al2 ar2 → qp_AG c K L R c2 K2 L2 R2 → (∀ j, j < c2 1 → K2 1 j = v ∨ ∃ j', j' < cc 1 ∧ K2 1 j = KK 1 j') → post r (nI rl, nI vw, nI vl, nI 6, nI h0, nI h1, ac2, ak2, al2, ar2, lk, im, le, gr)) :
    wpX_put post (nI rl, nI vw, nI vl, nI 6, nI h0, nI h1, ac, ak, al, ar, lk, im, le, gr) 1 (nI v) (nI x) (nI y) := by
  have old := fun r => pp r cc KK LL RR ac ak al ar W A G (fun j hj => Or.inr ⟨j, hj, rfl⟩)
  refine qx_put (s := 1) W A (by omega) hv hx hy (fun _ _ => old 0) (fun _ _ => old (-2)) (fun _ hr => ?_)
  have h4 : qa_lm 6 1 = 4 := rfl
  refine pp 1 _ _ _ _ _ _ _ _ (qa_W_set (i := cc 1) (by omega) (Or.inr ⟨rfl, rfl⟩) hv hx hy W) (qa_A_set (s := 1) (Or.inl rfl) (qa_W_8 W) (by omega) (by omega) (Or.inr ⟨rfl, rfl⟩) A) (fun s hs => ?_) (fun j hj => ?_)
  · obtain ⟨g1, g2, g3, g4⟩ := G s hs
    refine ⟨by rw [qa_set_n hs]; exact g1, ?_, ?_, ?_⟩
    · rw [← g2]; funext j; exact qa_up2_n (fun q => hs q.1)
    · rw [← g3]; funext j; exact qa_up2_n (fun q => hs q.1)
    · rw [← g4]; funext j; exact qa_up2_n (fun q => hs q.1)
  · rw [qa_set_s] at hj
    by_cases e : j = cc 1
    · subst e; exact Or.inl qa_up2_s
    · exact Or.inr ⟨j, by omega, qa_up2_n (fun q => e q.2)⟩
theorem qp_ren {post : Int32 → Prop} {x e1 e2 : Nat} (hx : x < 5) (h2 : e2 < 5) (pp : ∀ r, r < 5 → post (nI r)) : wpL_ren post () (nI x) (nI e1) (nI e2) := br_c (fun _ => pp e2 h2) (fun _ => pp x hx)
theorem qp_865 {N nr nq kc ks k i v e1 e2 z q : Nat} {xs : Nat → Int32} {cs : Nat → Nat} {x15 used hi : Int32} {x11 : Int64} {J315 J807 : _} (hN : N ≤ 260) (hk : k < 1000) (he1 : e1 < 5) (he2 : e2 < 5) (hq : q < 256) (hz : z < 256)
    (W : qa_W rl vw vl 6 h0 h1 cc KK LL RR) (A : qa_A 8 cc KK LL RR ac ak al ar) (G : qp_AG c K L R cc KK LL RR) (hU : ∀ j, j < cc 1 → bt used (KK 1 j) = true) (hv : v < vw)
    (pp : ∀ (used : Int32) (cc : Nat → Nat) (KK LL RR : Nat → Nat → Nat) (ac ak al ar lk im le gr : Nat → Int32), qa_W rl vw vl 6 h0 h1 cc KK LL RR → qa_A 8 cc KK LL RR ac ak al ar → qp_AG c K L R cc KK LL RR → (∀ j, j < cc 1 → bt used (KK 1 j) = true) → J807 (nI (k + 3)) used (nI (i + 1)) (nI rl) (nI vw) (nI vl) (nI 6) (nI h0) (nI h1) ac ak al ar lk im le gr) :
    wL_law_865 (fun r => r = 1) N xs J315 J807 (nI rl) (nI vw) (nI vl) (nI (vl * vl)) (nI k) (lN (qp_pk cs nr)) x11 (nI nr) (nI nq) x15 hi (nI e1) (nI e2) used (nI i) (nI q) (nI v) (nI z) kc ks (nI rl) (nI vw) (nI vl) (nI 6) (nI h0) (nI h1) ac ak al ar lk im le gr := by
  have hvw := W.2.1.2
  have h5 : ¬ (5 : Int32) = 0 := by decide
  refine ⟨h5, nm_r (e' := nI (z % 5)) (pk_rem (d := 5) (by omega) (by decide) (by decide)) ?_⟩
  rw [show nI k + 2 = nI (k + 2) from nI_add k 2]
  refine qp_pick (n := 5) hN (by omega) (by decide) (by decide) (fun r hr => ?_)
  refine br_c (fun _ => nm_r (nI_add k 3) (nm_r (nI_1 i) (pp used cc KK LL RR ac ak al ar lk im le gr W A G hU))) (fun _ => ⟨h5, h5, ?_⟩)
  rw [show nI q / 5 = nI (q / 5) from pk_div (d := 5) (by omega) (by decide) (by decide), show nI (q / 5) - nI (q / 5) / 5 * 5 = nI (q / 5 % 5) from pk_rem (d := 5) (by omega) (by decide) (by decide)]
  refine qp_ren (Nat.mod_lt _ (by decide)) he2 (fun r1 hr1 => qp_ren (Nat.mod_lt _ (by decide)) he2 (fun r2 hr2 => ?_))
  refine qx_put_c W A G hv hr1 hr2 (fun r c2 K2 L2 R2 ac2 ak2 al2 ar2 W2 A2 G2 hK => nm_e (nm_r (nI_add k 3) (nm_r (nI_1 i) (pp _ c2 K2 L2 R2 ac2 ak2 al2 ar2 lk im le gr W2 A2 G2 (fun j hj => ?_)))))
  rcases hK j hj with e | ⟨j', hj', e⟩
  · rw [e]; exact (qb_or used (by omega) (by omega)).mpr (Or.inr rfl)
  · have hkk := (qa_W_b W (s := 1) (by decide) j' hj').1
    rw [e]; exact (qb_or used (by omega) (by omega)).mpr (Or.inl (hU j' hj'))
theorem qp_807 {N nr nq kc ks e1 e2 hb0 hb1 rd kb : Nat} {xs : Nat → Int32} {cs qs KQ LQ RQ : Nat → Nat} {hi : Int32} {J315 : _} (hN : N ≤ 260) (hkb : kb ≤ 1000) (he1 : e1 < 5) (he2 : e2 < 5) (hqs : ∀ i, i < nq → qs i < 256)
    (Wb : qa_W rl vw vl 6 hb0 hb1 c K L R) (BS : qp_BS vw vl c K L R nr cs nq KQ LQ RQ hi)
    (pp : ∀ (k : Nat) (h0 h1 : Nat) (cc : Nat → Nat) (KK LL RR : Nat → Nat → Nat) (ac ak al ar lk im le gr : Nat → Int32), k < kb → qa_W rl vw vl 6 h0 h1 cc KK LL RR → qa_A 8 cc KK LL RR ac ak al ar → qp_AG c K L R cc KK LL RR → J315 (nI k) (lN (qp_pk cs nr)) (lN (qp_pk qs nq)) (nI nr) (nI nq) (nI rd + 1) (nI rl) (nI vw) (nI vl) (nI 6) (nI h0) (nI h1) ac ak al ar lk im le gr) :
    ∀ d i n k (used : Int32) (h0 h1 : Nat) (cc : Nat → Nat) (KK LL RR : Nat → Nat → Nat) (ac ak al ar lk im le gr : Nat → Int32), i + d = nq → d < n → k + 3 * d < kb → qa_W rl vw vl 6 h0 h1 cc KK LL RR → qa_A 8 cc KK LL RR ac ak al ar → qp_AG c K L R cc KK LL RR → (∀ j, j < cc 1 → bt used (KK 1 j) = true) →
      wL_law_807 (fun r => r = 1) N xs J315 (nI rl) (nI vw) (nI vl) (nI (vl * vl)) (lN (qp_pk cs nr)) (lN (qp_pk qs nq)) (nI nr) (nI nq) (nI rd) hi (nI e1) (nI e2) kc ks n (nI k) used (nI i) (nI rl) (nI vw) (nI vl) (nI 6) (nI h0) (nI h1) ac ak al ar lk im le gr := by
  have hnq := BS.2.1
  have hvw := Wb.2.1
  intro d
  induction d with
  | zero =>
    intro i n k used h0 h1 cc KK LL RR ac ak al ar lk im le gr hi' hn hk W A G hU
    obtain ⟨n, rfl⟩ : ∃ m, n = m + 1 := ⟨n - 1, by omega⟩
    refine br_t (nI_le (by omega) (by omega)) ?_
    refine qp_ren (x := 0) (by decide) he2 (fun r1 hr1 => qp_ren (x := 1) (by decide) he2 (fun r2 hr2 => ?_))
    have W2 := qa_W_head hr1 hr2 W
    refine qx_head hr1 hr2 (qx_sound W2 A (fun z lk2 im2 le2 gr2 => br_t rfl ⟨vl * vl + 1, ?_⟩) (fun z lk2 im2 le2 gr2 => br_f qn_01 ⟨1, br_t rfl ⟨vl * vl + 1, ?_⟩⟩))
    · exact qp_971 Wb BS W2 A G hU z (fun h0 h1 cc KK LL RR ac ak al ar lk im le gr W A G => pp k h0 h1 cc KK LL RR ac ak al ar lk im le gr (by omega) W A G) (vl * vl) 0 (vl * vl + 1) lk2 im2 le2 gr2 (by omega) (by omega)
    · exact qp_1067 Wb BS (fun h0 h1 cc KK LL RR ac ak al ar lk im le gr W A G => pp k h0 h1 cc KK LL RR ac ak al ar lk im le gr (by omega) W A G) (vl * vl) 0 (vl * vl + 1) r1 r2 cc KK LL RR ac ak al ar lk2 im2 le2 gr2 (by omega) (by omega) W2 A G
  | succ d ih =>
    intro i n k used h0 h1 cc KK LL RR ac ak al ar lk im le gr hi' hn hk W A G hU
    obtain ⟨n, rfl⟩ : ∃ m, n = m + 1 := ⟨n - 1, by omega⟩
    have hmod : (i + 1) % nq < nq := Nat.mod_lt _ (by omega)
    have q1 := hqs i (by omega)
    have q2 := hqs _ hmod
    refine br_f (nI_ge (by omega) (by omega)) (qp_at_pk (by omega) hqs (by omega) ⟨nI_ne0 (by omega) (by omega), ?_⟩)
    rw [nI_1 i, nI_1 k, show nI (i + 1) - nI (i + 1) / nI nq * nI nq = nI ((i + 1) % nq) from pk_rem (by omega) (by omega) (by omega)]
    refine qp_at_pk (by omega) hqs hmod (qp_pick hN (by omega) (by omega) (by omega) (fun v hv => ?_))
    have nx : ∀ (used : Int32) (cc : Nat → Nat) (KK LL RR : Nat → Nat → Nat) (ac ak al ar lk im le gr : Nat → Int32), qa_W rl vw vl 6 h0 h1 cc KK LL RR → qa_A 8 cc KK LL RR ac ak al ar → qp_AG c K L R cc KK LL RR → (∀ j, j < cc 1 → bt used (KK 1 j) = true) → wL_law_807 (fun r => r = 1) N xs J315 (nI rl) (nI vw) (nI vl) (nI (vl * vl)) (lN (qp_pk cs nr)) (lN (qp_pk qs nq)) (nI nr) (nI nq) (nI rd) hi (nI e1) (nI e2) kc ks n (nI (k + 3)) used (nI (i + 1)) (nI rl) (nI vw) (nI vl) (nI 6) (nI h0) (nI h1) ac ak al ar lk im le gr :=
      fun used cc KK LL RR ac ak al ar lk im le gr W A G hU => ih (i + 1) n (k + 3) used h0 h1 cc KK LL RR ac ak al ar lk im le gr (by omega) (by omega) (by omega) W A G hU
    refine qp_pick (n := 4) hN (by omega) (by decide) (by decide) (fun r hr => br_c (fun _ => ?_) (fun _ => ?_))
    · exact qp_865 hN (by omega) he1 he2 q1 q2 W A G hU hv nx
    · exact qp_865 hN (by omega) he1 he2 q1 q1 W A G hU hv nx
theorem qp_758 {N nr nq kc ks rd k kb : Nat} {xs : Nat → Int32} {cs qs KQ LQ RQ : Nat → Nat} {hi : Int32} {J315 : _} (hN : N ≤ 260) (hkb : kb ≤ 1000) (hqs : ∀ i, i < nq → qs i < 256) (hk : k + 20 < kb)
    (W : qa_W rl vw vl 6 h0 h1 c K L R) (A : qa_A 8 c K L R ac ak al ar) (BS : qp_BS vw vl c K L R nr cs nq KQ LQ RQ hi)
    (pp : ∀ (k : Nat) (h0 h1 : Nat) (cc : Nat → Nat) (KK LL RR : Nat → Nat → Nat) (ac ak al ar lk im le gr : Nat → Int32), k < kb → qa_W rl vw vl 6 h0 h1 cc KK LL RR → qa_A 8 cc KK LL RR ac ak al ar → qp_AG c K L R cc KK LL RR → J315 (nI k) (lN (qp_pk cs nr)) (lN (qp_pk qs nq)) (nI nr) (nI nq) (nI rd + 1) (nI rl) (nI vw) (nI vl) (nI 6) (nI h0) (nI h1) ac ak al ar lk im le gr) :
    wL_law_758 (fun r => r = 1) N xs J315 (nI rl) (nI vw) (nI vl) (nI (vl * vl)) (nI k) (lN (qp_pk cs nr)) (lN (qp_pk qs nq)) (nI nr) (nI nq) (nI rd) hi kc ks (nI rl) (nI vw) (nI vl) (nI 6) (nI h0) (nI h1) ac ak al ar lk im le gr := by
  have hnq := BS.2.1
  unfold wL_law_758
  refine qx_clear1 W A (c := c) (K := K) (L := L) (R := R) qp_AG_r (fun r cc2 ac2 e1 W2 A2 G2 => ?_)
  refine qp_pick (n := 5) hN (by omega) (by decide) (by decide) (fun e1' he1 => ?_)
  rw [nI_1]
  have H := fun (e2 : Nat) (he2 : e2 < 5) => qp_807 (N := N) (xs := xs) (kc := kc) (ks := ks) (e1 := e1') (e2 := e2) hN hkb he1 he2 hqs W BS pp nq 0 (nq + 1) (k + 2) 0 0 1 cc2 K L R ac2 ak al ar lk im le gr (by omega) (by omega) (by omega) W2 A2 G2 (fun j hj => absurd hj (by omega))
  refine qp_pick (n := 10) hN (by omega) (by decide) (by decide) (fun e2 he2 => pk_le e2 4 (fun h => nm_r (nI_add k 2) ⟨nq + 1, H e2 (by omega)⟩) (fun h => nm_r (nI_add k 2) ⟨nq + 1, H e1' he1⟩))
/-! reading back -/
theorem qx_has {post : Int32 → Prop} {s k x y : Nat} (W : qa_W rl vw vl 6 h0 h1 c K L R) (A : qa_A 8 c K L R ac ak al ar) (hs : s < 3 + vw) (hk : k < qa_kd rl vw s) (hx : x < qa_tm vl s) (hy : y < qa_tm vl s)
    (p1 : qa_In (c s) (K s) (L s) (R s) k x y → post 1) (p0 : ¬ qa_In (c s) (K s) (L s) (R s) k x y → post 0) : wpX_has post (nI rl, nI vw, nI vl, nI 6, nI h0, nI h1, ac, ak, al, ar, lk, im, le, gr) (nI s) (nI k) (nI x) (nI y) := by
  have hv := W.2.1.2
  have hs6 : s < 6 := by omega
  have h8 := qa_W_c W hs6
  have hk3 := qa_kd_le (s := s) W.1.2 W.2.1.2
  have ht5 := qa_tm_le (s := s) W.2.2.1.2
  unfold wpX_has
  refine qx_triT W hs hk hx hy (br_f qn_10 ?_)
  refine qx_place A hs6 h8 (qa_W_100 W hs6) (by omega) (by omega) (by omega) (fun i hi => br_f (qn_m1 ?_) (p1 (qa_in_fd hi))) (fun hn => br_t rfl (p0 (qa_fd_nin hn)))
  have := (qa_fd_some _ _ _ hi).2.1
  omega
theorem qp_hi : ∀ w, w < 4 → ∀ v, v < w → bt (-((1 : Int32) <<< (nI w &&& 31))) v = false := by decide +kernel
theorem qp_682 {N nr kc ks rd k kb : Nat} {xs : Nat → Int32} {cs : Nat → Nat} {J315 : _} (hN : N ≤ 260) (hkb : kb ≤ 1000) (hk : k + 20 < kb) (hrd : rd < 2)
    (W : qa_W rl vw vl 6 h0 h1 c K L R) (A : qa_A 8 c K L R ac ak al ar) (hnr : nr ≤ 6) (hcs : ∀ i, i < nr → cs i < 256 ∧ cs i / (vl * vl) < vw) (hinj : ∀ i j, i < nr → j < nr → cs i = cs j → i = j)
    (hrow : ∀ k x y, qa_In (c 2) (K 2) (L 2) (R 2) k x y ↔ qa_In nr (fun i => cs i / (vl * vl)) (fun i => cs i / vl % vl) (fun i => cs i % vl) k x y)
    (pp : ∀ (k nq : Nat) (x11 : Int64) (h0 h1 : Nat) (cc : Nat → Nat) (KK LL RR : Nat → Nat → Nat) (ac ak al ar lk im le gr : Nat → Int32), k < kb → nq ≤ 4 → qa_W rl vw vl 6 h0 h1 cc KK LL RR → qa_A 8 cc KK LL RR ac ak al ar → J315 (nI k) (lN (qp_pk cs nr)) x11 (nI nr) (nI nq) (nI rd + 1) (nI rl) (nI vw) (nI vl) (nI 6) (nI h0) (nI h1) ac ak al ar lk im le gr) :
    ∀ d code n nq (qs : Nat → Nat), code + d = rl * (5 * 5) → d < n → qp_RB (c 0) (K 0) (L 0) (R 0) 5 code nq qs →
      wL_law_682 (fun r => r = 1) N xs J315 (nI rl) (nI vw) (nI vl) (nI (vl * vl)) (nI k) (lN (qp_pk cs nr)) (nI nr) (nI rd) kc ks (nI rl) (nI vw) (nI vl) (nI 6) (nI h0) (nI h1) ac ak al ar lk im le gr n (lN (qp_pk qs nq)) (nI nq) (nI code) := by
  have hr := W.1.2
  have hv := W.2.1.2
  have hc0 : c 0 ≤ 4 := (W.2.2.2.2.2.2 0 (by decide)).1
  have h25 : rl * (5 * 5) ≤ 75 := by omega
  have e25 : nI rl * 25 = nI (rl * (5 * 5)) := pk_mul rl 25
  have z25 : ¬ (25 : Int32) = 0 := by decide
  have z5 : ¬ (5 : Int32) = 0 := by decide
  intro d
  induction d with
  | zero =>
    intro code n nq qs hc hn RB
    obtain ⟨n, rfl⟩ : ∃ m, n = m + 1 := ⟨n - 1, by omega⟩
    have e : code = rl * (5 * 5) := by omega
    subst e
    have hnq := qp_RB_le RB
    have hqs : ∀ i, i < nq → qs i < 256 := fun i hi => by have := RB.1 i hi; omega
    have hq := qp_RB_end (M := rl) (fun j hj => (W.2.2.2.2.2.2 0 (by decide)).2 j hj) RB
    have BS : ∀ hi, (∀ v, v < vw → bt hi v = false) → qp_BS vw vl c K L R nr cs nq (fun i => qs i / (5 * 5)) (fun i => qs i / 5 % 5) (fun i => qs i % 5) hi := fun hi hh => ⟨hnr, by omega, hcs, hinj, hrow, hq, hh⟩
    refine br_t (by rw [e25]; exact nI_le (by omega) (by omega)) (br_c (fun _ => ?_) (fun _ => ?_))
    · exact qp_758 hN hkb hqs hk W A (BS 0 (fun v _ => b_0 v)) (fun k h0 h1 cc KK LL RR ac ak al ar lk im le gr hk W A _ => pp k nq _ h0 h1 cc KK LL RR ac ak al ar lk im le gr hk (by omega) W A)
    · exact qp_758 hN hkb hqs hk W A (BS _ (fun v hv' => qp_hi vw (by omega) v hv')) (fun k h0 h1 cc KK LL RR ac ak al ar lk im le gr hk W A _ => pp k nq _ h0 h1 cc KK LL RR ac ak al ar lk im le gr hk (by omega) W A)
  | succ d ih =>
    intro code n nq qs hc hn RB
    obtain ⟨n, rfl⟩ : ∃ m, n = m + 1 := ⟨n - 1, by omega⟩
    have hnq := qp_RB_le RB
    have hqs : ∀ i, i < nq → qs i < 256 := fun i hi => by have := RB.1 i hi; omega
    refine br_f (by rw [e25]; exact nI_ge (by omega) (by omega)) (pk_le 4 nq (fun h => nm_r (nI_1 code) (ih (code + 1) n nq qs (by omega) (by omega) (qp_RB_n (qp_RB_full RB (by omega)) RB))) (fun h => ⟨z25, z5, z5, z5, ?_⟩))
    rw [show nI code / 25 = nI (code / (5 * 5)) from pk_div (d := 25) (by omega) (by decide) (by decide), show nI code - nI code / 5 * 5 = nI (code % 5) from pk_rem (d := 5) (by omega) (by decide) (by decide),
      show nI code / 5 = nI (code / 5) from pk_div (d := 5) (by omega) (by decide) (by decide), show nI (code / 5) - nI (code / 5) / 5 * 5 = nI (code / 5 % 5) from pk_rem (d := 5) (by omega) (by decide) (by decide)]
    refine qx_has (s := 0) W A (by omega) (show code / (5 * 5) < rl by omega) (show code / 5 % 5 < 5 by omega) (show code % 5 < 5 by omega) (fun z => br_t rfl (nm_r (qp_pk_or (by omega) hqs (by omega)) (nm_r (nI_1 nq) (nm_r (nI_1 code) (ih (code + 1) n (nq + 1) _ (by omega) (by omega) (qp_RB_y z RB)))))) (fun z => br_f qn_01 (nm_r (nI_1 code) (ih (code + 1) n nq qs (by omega) (by omega) (qp_RB_n z RB))))
theorem qp_612 {N kc ks rd k kb : Nat} {xs : Nat → Int32} {J315 : _} (hN : N ≤ 260) (hkb : kb ≤ 1000) (hk : k + 20 < kb) (hrd : rd < 2)
    (W : qa_W rl vw vl 6 h0 h1 c K L R) (A : qa_A 8 c K L R ac ak al ar)
    (pp : ∀ (k nr nq : Nat) (x9 x11 : Int64) (h0 h1 : Nat) (cc : Nat → Nat) (KK LL RR : Nat → Nat → Nat) (ac ak al ar lk im le gr : Nat → Int32), k < kb → nr ≤ 6 → nq ≤ 4 → qa_W rl vw vl 6 h0 h1 cc KK LL RR → qa_A 8 cc KK LL RR ac ak al ar → J315 (nI k) x9 x11 (nI nr) (nI nq) (nI rd + 1) (nI rl) (nI vw) (nI vl) (nI 6) (nI h0) (nI h1) ac ak al ar lk im le gr) :
    ∀ d code n nr (cs : Nat → Nat), code + d = vw * (vl * vl) → d < n → qp_RB (c 2) (K 2) (L 2) (R 2) vl code nr cs →
      wL_law_612 (fun r => r = 1) N xs J315 (nI rl) (nI vw) (nI vl) (nI (vl * vl)) (nI k) 0 0 (nI rd) kc ks (nI rl) (nI vw) (nI vl) (nI 6) (nI h0) (nI h1) ac ak al ar lk im le gr n (lN (qp_pk cs nr)) (nI nr) (nI code) := by
  have hr := W.1
  have hv := W.2.1.2
  have hl := W.2.2.1
  have hvv : vl * vl ≤ 16 := Nat.mul_le_mul hl.2 hl.2
  have hv1 : 0 < vl * vl := Nat.mul_pos (by omega) (by omega)
  have h48 : vw * (vl * vl) ≤ 48 := Nat.mul_le_mul hv hvv
  have z5 : ¬ nI (vl * vl) = 0 := nI_ne0 hv1 (by omega)
  have z4 : ¬ nI vl = 0 := nI_ne0 (by omega) (by omega)
  have hc2 : c 2 ≤ 6 := (W.2.2.2.2.2.2 2 (by decide)).1
  have ee : nI vw * nI (vl * vl) = nI (vw * (vl * vl)) := pk_mul _ _
  have hdv : ∀ code, code < vw * (vl * vl) → code / (vl * vl) < vw := fun code h => (Nat.div_lt_iff_lt_mul hv1).mpr h
  intro d
  induction d with
  | zero =>
    intro code n nr cs hc hn RB
    obtain ⟨n, rfl⟩ : ∃ m, n = m + 1 := ⟨n - 1, by omega⟩
    have e : code = vw * (vl * vl) := by omega
    subst e
    have hnr := qp_RB_le RB
    refine br_t (by rw [ee]; exact nI_le (by omega) (by omega)) ⟨rl * (5 * 5) + 1, ?_⟩
    exact qp_682 hN hkb hk hrd W A (by omega) (fun i hi => ⟨by have := RB.1 i hi; omega, hdv _ (RB.1 i hi)⟩) (qp_RB_inj RB) (qp_RB_end (M := vw) (fun j hj => (W.2.2.2.2.2.2 2 (by decide)).2 j hj) RB) (fun k nq x11 h0 h1 cc KK LL RR ac ak al ar lk im le gr hk hq W A => pp k nr nq _ x11 h0 h1 cc KK LL RR ac ak al ar lk im le gr hk (by omega) hq W A) (rl * (5 * 5)) 0 (rl * (5 * 5) + 1) 0 (fun _ => 0) (by omega) (by omega) qp_RB_0
  | succ d ih =>
    intro code n nr cs hc hn RB
    obtain ⟨n, rfl⟩ : ∃ m, n = m + 1 := ⟨n - 1, by omega⟩
    have hnr := qp_RB_le RB
    have hcs : ∀ i, i < nr → cs i < 256 := fun i hi => by have := RB.1 i hi; omega
    refine br_f (by rw [ee]; exact nI_ge (by omega) (by omega)) (pk_le 6 nr (fun h => nm_r (nI_1 code) (ih (code + 1) n nr cs (by omega) (by omega) (qp_RB_n (qp_RB_full RB (by omega)) RB))) (fun h => ⟨z5, z4, z4, z4, ?_⟩))
    rw [show nI code / nI (vl * vl) = nI (code / (vl * vl)) from pk_div (by omega) hv1 (by omega), show nI code - nI code / nI vl * nI vl = nI (code % vl) from pk_rem (by omega) (by omega) (by omega),
      show nI code / nI vl = nI (code / vl) from pk_div (by omega) (by omega) (by omega), show nI (code / vl) - nI (code / vl) / nI vl * nI vl = nI (code / vl % vl) from pk_rem (Nat.lt_of_le_of_lt (Nat.div_le_self _ _) (by omega)) (by omega) (by omega)]
    refine qx_has (s := 2) W A (by omega) (show code / (vl * vl) < vw from hdv code (by omega)) (show code / vl % vl < vl from Nat.mod_lt _ (by omega)) (show code % vl < vl from Nat.mod_lt _ (by omega)) (fun z => br_t rfl (nm_r (qp_pk_or (by omega) hcs (by omega)) (nm_r (nI_1 nr) (nm_r (nI_1 code) (ih (code + 1) n (nr + 1) _ (by omega) (by omega) (qp_RB_y z RB)))))) (fun z => br_f qn_01 (nm_r (nI_1 code) (ih (code + 1) n nr cs (by omega) (by omega) (qp_RB_n z RB))))
end
