/-! the second half of a round: certain answers by sets of rows -/
theorem qn_01 : ¬ (0 : Int32) = 1 := by decide
/-- another state with the same sections but for the candidate's -/
def qp_AG (c : Nat → Nat) (K L R : Nat → Nat → Nat) (cc : Nat → Nat) (KK LL RR : Nat → Nat → Nat) : Prop := ∀ s, s ≠ 1 → cc s = c s ∧ KK s = K s ∧ LL s = L s ∧ RR s = R s
theorem qp_AG_r {c : Nat → Nat} {K L R : Nat → Nat → Nat} : qp_AG c K L R c K L R := fun _ _ => ⟨rfl, rfl, rfl, rfl⟩
def qp_CC (c : Nat → Nat) (K L R : Nat → Nat → Nat) (mask : Int32) (a b : Nat) : Prop := qa_Mt (c 0) (K 0) (L 0) (R 0) (qa_FX c K L R (qa_on mask (K 2)) (K 2) (L 2) (R 2) (fun i => 5 + 2 * i) (c 2)) 21 a b
section
variable {rl vw vl h0 h1 : Nat} {c : Nat → Nat} {K L R : Nat → Nat → Nat} {cc : Nat → Nat} {KK LL RR : Nat → Nat → Nat} {ac ak al ar lk im le gr : Nat → Int32}
theorem qp_AG_FX (G : qp_AG c K L R cc KK LL RR) (on : Nat → Bool) (V P Q B : Nat → Nat) (m : Nat) : qa_FX cc KK LL RR on V P Q B m = qa_FX c K L R on V P Q B m := by
  funext k x y
  apply propext
  unfold qa_FX
  constructor
  · rintro ⟨i, h1, h2, h3⟩
    obtain ⟨g1, g2, g3, g4⟩ := G (3 + V i) (by omega)
    rw [g1, g2, g3, g4] at h3
    exact ⟨i, h1, h2, h3⟩
  · rintro ⟨i, h1, h2, h3⟩
    obtain ⟨g1, g2, g3, g4⟩ := G (3 + V i) (by omega)
    rw [← g1, ← g2, ← g3, ← g4] at h3
    exact ⟨i, h1, h2, h3⟩
theorem qp_AG_CC (G : qp_AG c K L R cc KK LL RR) (mask : Int32) (a b : Nat) : qp_CC cc KK LL RR mask a b = qp_CC c K L R mask a b := by
  obtain ⟨g1, g2, g3, g4⟩ := G 0 (by decide)
  obtain ⟨e1, e2, e3, e4⟩ := G 2 (by decide)
  unfold qp_CC
  rw [qp_AG_FX G, g1, g2, g3, g4, e1, e2, e3, e4]
theorem qp_cert {post : Int32 → St2 → Prop} {mask : Int32} {a b : Nat} (W : qa_W rl vw vl 6 h0 h1 cc KK LL RR) (A : qa_A 8 cc KK LL RR ac ak al ar) (G : qp_AG c K L R cc KK LL RR) (ha : a < vl) (hb : b < vl)
    (p1 : qp_CC c K L R mask a b → ∀ lk2 im2 le2 gr2, post 1 (nI rl, nI vw, nI vl, nI 6, nI h0, nI h1, ac, ak, al, ar, lk2, im2, le2, gr2)) (p0 : ¬ qp_CC c K L R mask a b → ∀ lk2 im2 le2 gr2, post 0 (nI rl, nI vw, nI vl, nI 6, nI h0, nI h1, ac, ak, al, ar, lk2, im2, le2, gr2)) :
    wpX_certain post (nI rl, nI vw, nI vl, nI 6, nI h0, nI h1, ac, ak, al, ar, lk, im, le, gr) mask (nI a) (nI b) := by
  have e := qp_AG_CC G mask a b
  exact qx_certain W A ha hb (fun z => p1 (by rw [← e]; exact z)) (fun z => p0 (by rw [← e]; exact z))
theorem qx_clear1 {post : Int32 → St2 → Prop} (W : qa_W rl vw vl 6 h0 h1 cc KK LL RR) (A : qa_A 8 cc KK LL RR ac ak al ar) (G : qp_AG c K L R cc KK LL RR)
    (pp : ∀ r cc2 ac2, cc2 1 = 0 → qa_W rl vw vl 6 0 1 cc2 KK LL RR → qa_A 8 cc2 KK LL RR ac2 ak al ar → qp_AG c K L R cc2 KK LL RR → post r (nI rl, nI vw, nI vl, nI 6, 0, 1, ac2, ak, al, ar, lk, im, le, gr)) :
    wpX_clear post (nI rl, nI vw, nI vl, nI 6, nI h0, nI h1, ac, ak, al, ar, lk, im, le, gr) 1 := by
  unfold wpX_clear
  refine qx_section W.2.1.2 (fun j hj ej => br_f qn_10 ?_) (fun z => absurd ⟨1, by omega, rfl⟩ z)
  have hcl : (1 : Int32).toNatClampNeg = 1 := nI_clamp (n := 1) (by decide)
  refine ⟨vp_in_nI (n := 1) (by decide) (by decide), nm_e ⟨vp_in_nI (n := 1) (by decide) (by decide), nm_r (e' := upd ac 1 0) (by rw [hcl]) (br_t rfl ?_)⟩⟩
  refine pp _ (qa_set cc 1 0) _ qa_set_s (qa_W_head (by decide) (by decide) (qa_W_cut (Nat.zero_le _) W)) (qa_A_cut (Nat.zero_le _) A) (fun s hs => ?_)
  rw [qa_set_n hs]
  exact G s hs
theorem qx_head {post : Int32 → St2 → Prop} {x y : Nat} {fr fv fl fm f0 f1 : Int32} (hx : x < 5) (hy : y < 5) (pp : post 1 (fr, fv, fl, fm, nI x, nI y, ac, ak, al, ar, lk, im, le, gr)) : wpX_head post (fr, fv, fl, fm, f0, f1, ac, ak, al, ar, lk, im, le, gr) (nI x) (nI y) := by
  unfold wpX_head
  refine qx_below (n := 5) (by decide) (fun _ _ _ => br_f qn_10 ?_) (fun z => absurd ⟨x, hx, rfl⟩ z)
  exact qx_below (n := 5) (by decide) (fun _ _ _ => br_f qn_10 pp) (fun z => absurd ⟨y, hy, rfl⟩ z)
theorem qp_2pow (h : vw ≤ 3) : 2 ^ vw ≤ 8 := Nat.pow_le_pow_right (by decide) h (n := 2)
theorem qp_1299 {N p a b nr nq kc ks : Nat} {xs : Nat → Int32} {cs : Nat → Nat} {x7 x15 good hi : Int32} {x11 : Int64} {J315 J1067 : _} (hv : vw ≤ 3) (ha : a < vl) (hb : b < vl) (hgood : ∀ m, m < 2 ^ vw → (qp_CC c K L R (nI m ||| hi) a b ↔ qp_Wi good m))
    (pp : ∀ (h0 h1 : Nat) (cc : Nat → Nat) (KK LL RR : Nat → Nat → Nat) (ac ak al ar lk im le gr : Nat → Int32), qa_W rl vw vl 6 h0 h1 cc KK LL RR → qa_A 8 cc KK LL RR ac ak al ar → qp_AG c K L R cc KK LL RR → J1067 (nI (p + 1)) (nI rl) (nI vw) (nI vl) (nI 6) (nI h0) (nI h1) ac ak al ar lk im le gr) :
    ∀ d m n (h0 h1 : Nat) (cc : Nat → Nat) (KK LL RR : Nat → Nat → Nat) (ac ak al ar lk im le gr : Nat → Int32), m + d = 2 ^ vw → d < n → qa_W rl vw vl 6 h0 h1 cc KK LL RR → qa_A 8 cc KK LL RR ac ak al ar → qp_AG c K L R cc KK LL RR → wL_law_1299 (fun r => r = 1) N xs J315 J1067 (nI rl) (nI vw) (nI vl) (nI (vl * vl)) x7 (lN (qp_pk cs nr)) x11 (nI nr) (nI nq) x15 hi (nI p) (nI a) (nI b) good kc ks n (nI m) (nI rl) (nI vw) (nI vl) (nI 6) (nI h0) (nI h1) ac ak al ar lk im le gr := by
  have h8 := qp_2pow hv
  intro d
  induction d with
  | zero =>
    intro m n h0 h1 cc KK LL RR ac ak al ar lk im le gr hm hn W A G
    obtain ⟨n, rfl⟩ : ∃ m, n = m + 1 := ⟨n - 1, by omega⟩
    exact br_t (by rw [qp_sh vw (by omega)]; exact nI_le (by omega) (by omega)) (nm_r (nI_1 p) (pp h0 h1 cc KK LL RR ac ak al ar lk im le gr W A G))
  | succ d ih =>
    intro m n h0 h1 cc KK LL RR ac ak al ar lk im le gr hm hn W A G
    obtain ⟨n, rfl⟩ : ∃ m, n = m + 1 := ⟨n - 1, by omega⟩
    have hg := hgood m (by omega)
    refine br_f (by rw [qp_sh vw (by omega)]; exact nI_ge (by omega) (by omega)) ?_
    refine qp_cert W A G ha hb (fun z lk2 im2 le2 gr2 => br_t rfl ?_) (fun z lk2 im2 le2 gr2 => br_f qn_01 ?_)
    · exact qp_within (by omega) (fun w => br_t rfl (nm_r (nI_1 m) (ih (m + 1) n h0 h1 cc KK LL RR ac ak al ar lk2 im2 le2 gr2 (by omega) (by omega) W A G))) (fun w => absurd (hg.mp z) w)
    · exact qp_within (by omega) (fun w => absurd (hg.mpr w) z) (fun w => br_t rfl (nm_r (nI_1 m) (ih (m + 1) n h0 h1 cc KK LL RR ac ak al ar lk2 im2 le2 gr2 (by omega) (by omega) W A G)))
/-! the mathematics of one pair of values -/
def qp_SS (c : Nat → Nat) (K L R : Nat → Nat → Nat) (cs : Nat → Nat) (vl nr S a b : Nat) : Prop := qa_Mt (c 0) (K 0) (L 0) (R 0) (qa_FX c K L R (fun i => S.testBit i) (fun i => cs i / (vl * vl)) (fun i => cs i / vl % vl) (fun i => cs i % vl) (fun i => 5 + 2 * i) nr) 21 a b
/-- what has been read back, and the mask's high bits -/
def qp_BS (vw vl : Nat) (c : Nat → Nat) (K L R : Nat → Nat → Nat) (nr : Nat) (cs : Nat → Nat) (nq : Nat) (KQ LQ RQ : Nat → Nat) (hi : Int32) : Prop :=
  nr ≤ 6 ∧ nq ≤ 4 ∧ (∀ i, i < nr → cs i < 256 ∧ cs i / (vl * vl) < vw) ∧ (∀ i j, i < nr → j < nr → cs i = cs j → i = j) ∧ (∀ k x y, qa_In (c 2) (K 2) (L 2) (R 2) k x y ↔ qa_In nr (fun i => cs i / (vl * vl)) (fun i => cs i / vl % vl) (fun i => cs i % vl) k x y) ∧
  (∀ k x y, qa_In (c 0) (K 0) (L 0) (R 0) k x y ↔ qa_In nq KQ LQ RQ k x y) ∧ (∀ v, v < vw → bt hi v = false)
theorem qp_on {mask : Int32} {V : Nat → Nat} {i : Nat} (h : V i < 32) : qa_on mask V i = true ↔ bt mask (V i) = true := qa_on_t.trans (qb_t1 mask h)
theorem qp_onm {hi : Int32} {V : Nat → Nat} {i m : Nat} (h : V i < vw) (hv : vw ≤ 3) (hh : ∀ v, v < vw → bt hi v = false) : qa_on (nI m ||| hi) V i = true ↔ m.testBit (V i) = true := by
  rw [qp_on (by omega), b_or, hh _ h, Bool.or_false, qp_bt (by omega)]
theorem qp_CC_SS {nr nq S m a b : Nat} {cs KQ LQ RQ : Nat → Nat} {hi : Int32} (Wb : qa_W rl vw vl 6 h0 h1 c K L R) (BS : qp_BS vw vl c K L R nr cs nq KQ LQ RQ hi) (ha : a < vl) (hb : b < vl)
    (hS : ∀ i, i < nr → S.testBit i = true → m.testBit (cs i / (vl * vl)) = true) (h : qp_SS c K L R cs vl nr S a b) : qp_CC c K L R (nI m ||| hi) a b := by
  obtain ⟨s1, s2, s3, s4, s5, s6, s7⟩ := BS
  have hv := Wb.2.1.2
  have hl := Wb.2.2.1
  refine qp_comp (g := fun v => v) (qa_W_8 Wb 2 (by decide)) (fun i hi j hj => (qa_W_v Wb _ (by have := (s3 i hi).2; omega) j hj).2) (fun i hi => ?_) (fun v hv => hv) (fun i hi' ho => ?_) (by omega) (by omega) rfl rfl h
  · have h1 : cs i / vl % vl < vl := Nat.mod_lt _ (by omega)
    have h2 : cs i % vl < vl := Nat.mod_lt _ (by omega)
    exact ⟨by show cs i / vl % vl < 5; omega, by show cs i % vl < 5; omega⟩
  · obtain ⟨i', q1, q2, q3, q4⟩ := (s5 _ _ _).mpr ⟨i, hi', rfl, rfl, rfl⟩
    refine ⟨i', q1, ?_, q2, q3, q4⟩
    rw [qp_onm (vw := vw) (by rw [q2]; exact (s3 i hi').2) hv s7, q2]
    exact hS i hi' ho
theorem qp_CC_ex {nr nq m a b : Nat} {cs KQ LQ RQ : Nat → Nat} {hi : Int32} (Wb : qa_W rl vw vl 6 h0 h1 c K L R) (BS : qp_BS vw vl c K L R nr cs nq KQ LQ RQ hi) (ha : a < vl) (hb : b < vl)
    (h : qp_CC c K L R (nI m ||| hi) a b) : ∃ S, S < 2 ^ nr ∧ qp_pc S 8 ≤ nq ∧ (∀ i, i < nr → S.testBit i = true → m.testBit (cs i / (vl * vl)) = true) ∧ qp_SS c K L R cs vl nr S a b := by
  obtain ⟨s1, s2, s3, s4, s5, s6, s7⟩ := BS
  have hv := Wb.2.1.2
  have hl := Wb.2.2.1
  have M1 : qa_Mt (c 0) (K 0) (L 0) (R 0) (qa_FX c K L R (fun i => m.testBit (cs i / (vl * vl))) (fun i => cs i / (vl * vl)) (fun i => cs i / vl % vl) (fun i => cs i % vl) (fun i => 5 + 2 * i) nr) 21 a b := by
    refine qp_comp (g := fun v => v) (by omega) (fun i hi j hj => (qa_W_v Wb _ (qa_W_b Wb (s := 2) (by decide) i hi).1 j hj).2) (fun i hi => (qa_W_b Wb (s := 2) (by decide) i hi).2) (fun v hv => hv) (fun i hi' ho => ?_) (by omega) (by omega) rfl rfl h
    obtain ⟨i', q1, q2, q3, q4⟩ := (s5 _ _ _).mp ⟨i, hi', rfl, rfl, rfl⟩
    refine ⟨i', q1, ?_, q2, q3, q4⟩
    have hkv : K 2 i < vw := ((Wb.2.2.2.2.2.2 2 (by decide)).2 i hi').1
    have := (qp_onm (vw := vw) hkv hv s7).mp ho
    show m.testBit (cs i' / (vl * vl)) = true
    have q2' : cs i' / (vl * vl) = K 2 i := q2
    rw [q2']
    exact this
  have M2 := qp_Mt_set (fun k x y => (s6 k x y).mpr) M1
  obtain ⟨ow, w1, w2⟩ := qp_extract M2
  refine ⟨qp_bm ow nq, qp_bm_lt nq (fun t ht => (w1 t ht).1), qp_pc_bm ow 8 nq, fun i hi' hb' => ?_, ?_⟩
  · obtain ⟨t, ht, e⟩ := (qp_bm_t ow i nq).mp hb'
    rw [← e]
    exact (w1 t ht).2
  · have M3 := w2 (fun i => (qp_bm ow nq).testBit i) (fun j hj => (qp_bm_t ow (ow j) nq).mpr ⟨j, hj, rfl⟩)
    exact qp_Mt_set (fun k x y => (s6 k x y).mp) M3
theorem qp_main {nr nq a b : Nat} {cs KQ LQ RQ : Nat → Nat} {hi good : Int32} (Wb : qa_W rl vw vl 6 h0 h1 c K L R) (BS : qp_BS vw vl c K L R nr cs nq KQ LQ RQ hi) (ha : a < vl) (hb : b < vl)
    (G1 : ∀ w, w < 8 → bt good w = true → ∃ S, qp_vm (fun i => cs i / (vl * vl)) S nr = w ∧ qp_SS c K L R cs vl nr S a b)
    (G2 : ∀ S, S < 2 ^ nr → qp_pc S 8 ≤ nq → qp_SS c K L R cs vl nr S a b → qp_Wi good (qp_vm (fun i => cs i / (vl * vl)) S nr)) :
    ∀ m, m < 2 ^ vw → (qp_CC c K L R (nI m ||| hi) a b ↔ qp_Wi good m) := by
  intro m _
  constructor
  · intro h
    obtain ⟨S, h1, h2, h3, h4⟩ := qp_CC_ex Wb BS ha hb h
    obtain ⟨w, w1, w2, w3⟩ := G2 S h1 h2 h4
    refine ⟨w, w1, w2, qp_wand (fun v hv => ?_)⟩
    obtain ⟨i, i1, i2, i3⟩ := (qp_vm_b (fun i => cs i / (vl * vl)) S v nr).mp (qp_andw w3 hv)
    rw [← i3]
    exact h3 i i1 i2
  · rintro ⟨w, w1, w2, w3⟩
    obtain ⟨S, e, h⟩ := G1 w w1 w2
    refine qp_CC_SS Wb BS ha hb (fun i i1 i2 => qp_andw w3 ?_) h
    rw [← e]
    exact (qp_vm_b (fun i => cs i / (vl * vl)) S _ nr).mpr ⟨i, i1, i2, rfl⟩
/-! the candidate made of the rows of a set -/
def qp_CI (cs : Nat → Nat) (vl S i : Nat) (cc : Nat → Nat) (KK LL RR : Nat → Nat → Nat) : Prop :=
  cc 1 = qp_pc S i ∧ ∀ k x y, qa_In (cc 1) (KK 1) (LL 1) (RR 1) k x y ↔ ∃ i', i' < i ∧ S.testBit i' = true ∧ cs i' / (vl * vl) = k ∧ cs i' / vl % vl = x ∧ cs i' % vl = y
theorem qp_sound_SS {nr nq S a b : Nat} {hb0 hb1 : Nat} {cs KQ LQ RQ : Nat → Nat} {hi : Int32} (Wb : qa_W rl vw vl 6 hb0 hb1 c K L R) (BS : qp_BS vw vl c K L R nr cs nq KQ LQ RQ hi) (ha : a < vl) (hb : b < vl)
    (W : qa_W rl vw vl 6 a b cc KK LL RR) (G : qp_AG c K L R cc KK LL RR) (CI : qp_CI cs vl S nr cc KK LL RR) :
    qa_Mt (cc 0) (KK 0) (LL 0) (RR 0) (qa_FX cc KK LL RR (qa_on (-1) (KK 1)) (KK 1) (LL 1) (RR 1) (fun i => 5 + 2 * i) (cc 1)) 21 a b ↔ qp_SS c K L R cs vl nr S a b := by
  obtain ⟨s1, s2, s3, s4, s5, s6, s7⟩ := BS
  obtain ⟨g1, g2, g3, g4⟩ := G 0 (by decide)
  have hv := Wb.2.1.2
  have hl := Wb.2.2.1
  rw [qp_AG_FX G, g1, g2, g3, g4]
  constructor
  · intro h
    refine qp_comp (g := fun v => v) (by omega) (fun i hi j hj => (qa_W_v Wb _ (qa_W_b W (s := 1) (by decide) i hi).1 j hj).2) (fun i hi => (qa_W_b W (s := 1) (by decide) i hi).2) (fun v hv => hv) (fun i hi' ho => ?_) (by omega) (by omega) rfl rfl h
    obtain ⟨i', q1, q2, q3, q4, q5⟩ := (CI.2 _ _ _).mp ⟨i, hi', rfl, rfl, rfl⟩
    exact ⟨i', q1, q2, q3, q4, q5⟩
  · intro h
    refine qp_comp (g := fun v => v) (qa_W_8 W 1 (by decide)) (fun i hi j hj => (qa_W_v Wb _ (by have := (s3 i hi).2; omega) j hj).2) (fun i hi => ?_) (fun v hv => hv) (fun i hi' ho => ?_) (by omega) (by omega) rfl rfl h
    · have h1 : cs i / vl % vl < vl := Nat.mod_lt _ (by omega)
      have h2 : cs i % vl < vl := Nat.mod_lt _ (by omega)
      exact ⟨by show cs i / vl % vl < 5; omega, by show cs i % vl < 5; omega⟩
    · obtain ⟨i', q1, q2, q3, q4⟩ := (CI.2 _ _ _).mpr ⟨i, hi', ho, rfl, rfl, rfl⟩
      exact ⟨i', q1, qa_on_t.mpr ((by decide : ∀ v, v < 3 → ((-1 : Int32) >>> (nI v &&& 31)) &&& 1 = 1) _ (qa_W_b W (s := 1) (by decide) i' q1).1), q2, q3, q4⟩
theorem qp_cand {nr nq S a b : Nat} {hb0 hb1 : Nat} {cs KQ LQ RQ : Nat → Nat} {hi : Int32} (Wb : qa_W rl vw vl 6 hb0 hb1 c K L R) (BS : qp_BS vw vl c K L R nr cs nq KQ LQ RQ hi) (ha : a < vl) (hb : b < vl)
    (G : qp_AG c K L R cc KK LL RR) (CI : qp_CI cs vl S nr cc KK LL RR) : qa_Cd a b a b (cc 1) (KK 1) (LL 1) (RR 1) (qa_In (cc 2) (KK 2) (LL 2) (RR 2)) vl := by
  obtain ⟨s1, s2, s3, s4, s5, s6, s7⟩ := BS
  obtain ⟨g1, g2, g3, g4⟩ := G 2 (by decide)
  refine ⟨fun v => if v < vl then v else 0, ?_, ?_, fun v _ => ?_, fun j hj => ?_⟩
  · show (if a < vl then a else 0) = a
    rw [if_pos ha]
  · show (if b < vl then b else 0) = b
    rw [if_pos hb]
  · show (if v < vl then v else 0) < vl
    split <;> omega
  · obtain ⟨i, q1, q2, q3, q4, q5⟩ := (CI.2 _ _ _).mp ⟨j, hj, rfl, rfl, rfl⟩
    have h1 : LL 1 j < vl := by rw [← q4]; exact Nat.mod_lt _ (by omega)
    have h2 : RR 1 j < vl := by rw [← q5]; exact Nat.mod_lt _ (by omega)
    show qa_In (cc 2) (KK 2) (LL 2) (RR 2) (KK 1 j) (if LL 1 j < vl then LL 1 j else 0) (if RR 1 j < vl then RR 1 j else 0)
    rw [if_pos h1, if_pos h2, g1, g2, g3, g4]
    exact (s5 _ _ _).mpr ⟨i, q1, q3, q4, q5⟩
end
