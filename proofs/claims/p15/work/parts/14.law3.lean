/-! the second half of a round: the law's loops -/
section
variable {rl vw vl : Nat} {c : Nat → Nat} {K L R : Nat → Nat → Nat}
theorem qp_1196 {N p a b nr nq kc ks S w hb0 hb1 : Nat} {xs : Nat → Int32} {cs KQ LQ RQ : Nat → Nat} {x7 x15 good hi : Int32} {x11 : Int64} {J315 J1067 J1094 : _}
    (Wb : qa_W rl vw vl 6 hb0 hb1 c K L R) (BS : qp_BS vw vl c K L R nr cs nq KQ LQ RQ hi) (ha : a < vl) (hb : b < vl) (hpc : qp_pc S 8 ≤ nq)
    (pp1 : qp_SS c K L R cs vl nr S a b → ∀ (h0 h1 : Nat) (cc : Nat → Nat) (KK LL RR : Nat → Nat → Nat) (ac ak al ar lk im le gr : Nat → Int32), qa_W rl vw vl 6 h0 h1 cc KK LL RR → qa_A 8 cc KK LL RR ac ak al ar → qp_AG c K L R cc KK LL RR → J1094 (good ||| ((1 : Int32) <<< (nI w &&& 31))) (nI (S + 1)) (nI rl) (nI vw) (nI vl) (nI 6) (nI h0) (nI h1) ac ak al ar lk im le gr)
    (pp0 : ¬ qp_SS c K L R cs vl nr S a b → ∀ (h0 h1 : Nat) (cc : Nat → Nat) (KK LL RR : Nat → Nat → Nat) (ac ak al ar lk im le gr : Nat → Int32), qa_W rl vw vl 6 h0 h1 cc KK LL RR → qa_A 8 cc KK LL RR ac ak al ar → qp_AG c K L R cc KK LL RR → J1094 good (nI (S + 1)) (nI rl) (nI vw) (nI vl) (nI 6) (nI h0) (nI h1) ac ak al ar lk im le gr) :
    ∀ d i n (cc : Nat → Nat) (KK LL RR : Nat → Nat → Nat) (ac ak al ar lk im le gr : Nat → Int32), i + d = nr → d < n → qa_W rl vw vl 6 a b cc KK LL RR → qa_A 8 cc KK LL RR ac ak al ar → qp_AG c K L R cc KK LL RR → qp_CI cs vl S i cc KK LL RR →
      wL_law_1196 (fun r => r = 1) N xs J315 J1067 J1094 (nI rl) (nI vw) (nI vl) (nI (vl * vl)) x7 (lN (qp_pk cs nr)) x11 (nI nr) (nI nq) x15 hi (nI p) (nI a) (nI b) good (nI S) (nI w) kc ks n (nI i) (nI rl) (nI vw) (nI vl) (nI 6) (nI a) (nI b) ac ak al ar lk im le gr := by
  have BS' := BS
  obtain ⟨s1, s2, s3, s4, s5, s6, s7⟩ := BS
  have hv := Wb.2.1.2
  have hl := Wb.2.2.1
  have hvv : vl * vl ≤ 16 := Nat.mul_le_mul hl.2 hl.2
  have hv1 : 0 < vl * vl := Nat.mul_pos (by omega) (by omega)
  have z5 : ¬ nI (vl * vl) = 0 := nI_ne0 hv1 (by omega)
  have z4 : ¬ nI vl = 0 := nI_ne0 (by omega) (by omega)
  intro d
  induction d with
  | zero =>
    intro i n cc KK LL RR ac ak al ar lk im le gr hi' hn W A G CI
    obtain ⟨n, rfl⟩ : ∃ m, n = m + 1 := ⟨n - 1, by omega⟩
    have e : i = nr := by omega
    subst e
    have hss := qp_sound_SS Wb BS' ha hb W G CI
    refine br_t (nI_le (by omega) (by omega)) ?_
    refine qx_sound W A (fun z lk2 im2 le2 gr2 => br_t rfl ?_) (fun z lk2 im2 le2 gr2 => br_f qn_01 (nm_r (nI_1 S) (pp0 (fun q => z (hss.mpr q)) a b cc KK LL RR ac ak al ar lk2 im2 le2 gr2 W A G)))
    exact qx_candidateHas W A ha hb (fun _ lk3 im3 le3 gr3 => br_t rfl (nm_e (nm_r (nI_1 S) (pp1 (hss.mp z) a b cc KK LL RR ac ak al ar lk3 im3 le3 gr3 W A G)))) (fun q => absurd (qp_cand Wb BS' ha hb G CI) q)
  | succ d ih =>
    intro i n cc KK LL RR ac ak al ar lk im le gr hi' hn W A G CI
    obtain ⟨n, rfl⟩ : ∃ m, n = m + 1 := ⟨n - 1, by omega⟩
    obtain ⟨t1, t2⟩ := s3 i (by omega)
    have t3 : cs i / vl % vl < vl := Nat.mod_lt _ (by omega)
    have t4 : cs i % vl < vl := Nat.mod_lt _ (by omega)
    refine br_f (nI_ge (by omega) (by omega)) (qp_at_pk (by omega) (fun i hi => (s3 i hi).1) (by omega) ?_)
    refine ek_if (qp_tst (by omega)) (fun hS => ⟨z5, z4, z4, z4, ?_⟩) (fun hS => nm_r (nI_1 i) (ih (i + 1) n cc KK LL RR ac ak al ar lk im le gr (by omega) (by omega) W A G ?_))
    · have e1 : nI (cs i) / nI (vl * vl) = nI (cs i / (vl * vl)) := pk_div (by omega) hv1 (by omega)
      have e2 : nI (cs i) / nI vl = nI (cs i / vl) := pk_div (by omega) (by omega) (by omega)
      have e3 : nI (cs i / vl) - nI (cs i / vl) / nI vl * nI vl = nI (cs i / vl % vl) := pk_rem (Nat.lt_of_le_of_lt (Nat.div_le_self _ _) (by omega)) (by omega) (by omega)
      have e4 : nI (cs i) - nI (cs i) / nI vl * nI vl = nI (cs i % vl) := pk_rem (by omega) (by omega) (by omega)
      have hnot : qa_fd (KK 1) (LL 1) (RR 1) (cs i / (vl * vl)) (cs i / vl % vl) (cs i % vl) (cc 1) 0 = none := by
        cases e : qa_fd (KK 1) (LL 1) (RR 1) (cs i / (vl * vl)) (cs i / vl % vl) (cs i % vl) (cc 1) 0 with
        | none => rfl
        | some j =>
          obtain ⟨i', q1, q2, q3, q4, q5⟩ := (CI.2 _ _ _).mp (qa_in_fd e)
          have := s4 i' i (by omega) (by omega) (qp_dec_inj q3 q4 q5)
          omega
      have hroom : cc 1 < qa_lm 6 1 := by
        have a1 := qp_pc_mono S (8 - (i + 1)) (i + 1)
        rw [show i + 1 + (8 - (i + 1)) = 8 by omega, qp_pc_t hS] at a1
        rw [CI.1]
        show qp_pc S i < 4
        omega
      rw [e4, e2, e3, e1]
      refine qx_put (s := 1) W A (by omega) (show cs i / (vl * vl) < vw from t2) (show cs i / vl % vl < 5 by omega) (show cs i % vl < 5 by omega) (fun j hj => absurd (hnot.symm.trans hj) (by simp)) (fun _ q => absurd hroom (by omega)) (fun _ _ => br_t rfl (nm_r (nI_1 i) ?_))
      refine ih (i + 1) n _ _ _ _ _ _ _ _ lk im le gr (by omega) (by omega) (qa_W_set (i := cc 1) (by omega) (Or.inr ⟨rfl, rfl⟩) t2 (show cs i / vl % vl < 5 by omega) (show cs i % vl < 5 by omega) W)
        (qa_A_set (s := 1) (Or.inl rfl) (qa_W_8 W) (by have : qa_lm 6 1 = 4 := rfl; omega) (by have : qa_lm 6 1 = 4 := rfl; omega) (Or.inr ⟨rfl, rfl⟩) A) (fun s hs => ?_) ⟨?_, fun k x y => ?_⟩
      · obtain ⟨g1, g2, g3, g4⟩ := G s hs
        refine ⟨by rw [qa_set_n hs]; exact g1, ?_, ?_, ?_⟩
        · rw [← g2]; funext j; exact qa_up2_n (fun q => hs q.1)
        · rw [← g3]; funext j; exact qa_up2_n (fun q => hs q.1)
        · rw [← g4]; funext j; exact qa_up2_n (fun q => hs q.1)
      · rw [qa_set_s, qp_pc_t hS, CI.1]
      · rw [qa_set_s]
        constructor
        · rintro ⟨j, hj, q1, q2, q3⟩
          by_cases e : j = cc 1
          · subst e
            rw [qa_up2_s] at q1 q2 q3
            exact ⟨i, by omega, hS, q1, q2, q3⟩
          · rw [qa_up2_n (fun q => e q.2)] at q1 q2 q3
            obtain ⟨i', r1, r2, r3⟩ := (CI.2 k x y).mp ⟨j, by omega, q1, q2, q3⟩
            exact ⟨i', by omega, r2, r3⟩
        · rintro ⟨i', r1, r2, r3, r4, r5⟩
          by_cases e : i' = i
          · subst e
            exact ⟨cc 1, by omega, by rw [qa_up2_s]; exact r3, by rw [qa_up2_s]; exact r4, by rw [qa_up2_s]; exact r5⟩
          · obtain ⟨j, hj, q1, q2, q3⟩ := (CI.2 k x y).mpr ⟨i', by omega, r2, r3, r4, r5⟩
            have z : j ≠ cc 1 := by omega
            exact ⟨j, by omega, by rw [qa_up2_n (fun q => z q.2)]; exact q1, by rw [qa_up2_n (fun q => z q.2)]; exact q2, by rw [qa_up2_n (fun q => z q.2)]; exact q3⟩
    · refine ⟨by rw [qp_pc_f hS]; exact CI.1, fun k x y => (CI.2 k x y).trans ⟨?_, ?_⟩⟩
      · rintro ⟨i', r1, r2⟩
        exact ⟨i', by omega, r2⟩
      · rintro ⟨i', r1, r2, r3⟩
        by_cases e : i' = i
        · subst e; exact absurd r2 hS
        · exact ⟨i', by omega, r2, r3⟩
theorem qp_1122 {N p a b nr nq kc ks S hb0 hb1 h0 h1 : Nat} {xs : Nat → Int32} {cs KQ LQ RQ : Nat → Nat} {x7 x15 good hi : Int32} {x11 : Int64} {J315 J1067 J1094 : _} {cc : Nat → Nat} {KK LL RR : Nat → Nat → Nat} {ac ak al ar lk im le gr : Nat → Int32}
    (Wb : qa_W rl vw vl 6 hb0 hb1 c K L R) (BS : qp_BS vw vl c K L R nr cs nq KQ LQ RQ hi) (ha : a < vl) (hb : b < vl) (hpc : qp_pc S 8 ≤ nq)
    (W : qa_W rl vw vl 6 h0 h1 cc KK LL RR) (A : qa_A 8 cc KK LL RR ac ak al ar) (G : qp_AG c K L R cc KK LL RR)
    (ppw : qp_Wi good (qp_vm (fun i => cs i / (vl * vl)) S nr) → J1094 good (nI (S + 1)) (nI rl) (nI vw) (nI vl) (nI 6) (nI h0) (nI h1) ac ak al ar lk im le gr)
    (pp1 : qp_SS c K L R cs vl nr S a b → ∀ (h0 h1 : Nat) (cc : Nat → Nat) (KK LL RR : Nat → Nat → Nat) (ac ak al ar lk im le gr : Nat → Int32), qa_W rl vw vl 6 h0 h1 cc KK LL RR → qa_A 8 cc KK LL RR ac ak al ar → qp_AG c K L R cc KK LL RR → J1094 (good ||| ((1 : Int32) <<< (nI (qp_vm (fun i => cs i / (vl * vl)) S nr) &&& 31))) (nI (S + 1)) (nI rl) (nI vw) (nI vl) (nI 6) (nI h0) (nI h1) ac ak al ar lk im le gr)
    (pp0 : ¬ qp_SS c K L R cs vl nr S a b → ∀ (h0 h1 : Nat) (cc : Nat → Nat) (KK LL RR : Nat → Nat → Nat) (ac ak al ar lk im le gr : Nat → Int32), qa_W rl vw vl 6 h0 h1 cc KK LL RR → qa_A 8 cc KK LL RR ac ak al ar → qp_AG c K L R cc KK LL RR → J1094 good (nI (S + 1)) (nI rl) (nI vw) (nI vl) (nI 6) (nI h0) (nI h1) ac ak al ar lk im le gr) :
    ∀ d i n, i + d = nr → d < n → wL_law_1122 (fun r => r = 1) N xs J315 J1067 J1094 (nI rl) (nI vw) (nI vl) (nI (vl * vl)) x7 (lN (qp_pk cs nr)) x11 (nI nr) (nI nq) x15 hi (nI p) (nI a) (nI b) good (nI S) kc ks (nI rl) (nI vw) (nI vl) (nI 6) (nI h0) (nI h1) ac ak al ar lk im le gr n (nI (qp_vm (fun i => cs i / (vl * vl)) S i)) (nI i) := by
  have BS' := BS
  obtain ⟨s1, s2, s3, s4, s5, s6, s7⟩ := BS
  have hv := Wb.2.1.2
  have hl := Wb.2.2.1
  have hvv : vl * vl ≤ 16 := Nat.mul_le_mul hl.2 hl.2
  have hv1 : 0 < vl * vl := Nat.mul_pos (by omega) (by omega)
  have z5 : ¬ nI (vl * vl) = 0 := nI_ne0 hv1 (by omega)
  have h8 := qp_2pow hv
  have hw8 : ∀ i, i ≤ nr → qp_vm (fun i => cs i / (vl * vl)) S i < 8 := fun i hi => Nat.lt_of_lt_of_le (qp_vm_lt i (fun j hj => (s3 j (by omega)).2)) h8
  intro d
  induction d with
  | zero =>
    intro i n hi' hn
    obtain ⟨n, rfl⟩ : ∃ m, n = m + 1 := ⟨n - 1, by omega⟩
    have e : i = nr := by omega
    subst e
    refine br_t (nI_le (by omega) (by omega)) ?_
    refine qp_within (hw8 _ (Nat.le_refl _)) (fun z => br_f qn_10 (nm_r (nI_1 S) (ppw z))) (fun z => br_t rfl ?_)
    refine qx_clear1 W A G (fun r cc2 ac2 h1' W2 A2 G2 => ?_)
    refine qx_head (by omega) (by omega) ⟨i + 1, ?_⟩
    refine qp_1196 Wb BS' ha hb hpc pp1 pp0 i 0 (i + 1) cc2 KK LL RR ac2 ak al ar lk im le gr (by omega) (by omega) (qa_W_head (by omega) (by omega) W2) A2 G2 ⟨h1', fun k x y => ?_⟩
    rw [h1']
    exact ⟨fun ⟨j, hj, _⟩ => absurd hj (Nat.not_lt_zero j), fun ⟨j, hj, _⟩ => absurd hj (Nat.not_lt_zero j)⟩
  | succ d ih =>
    intro i n hi' hn
    obtain ⟨n, rfl⟩ : ∃ m, n = m + 1 := ⟨n - 1, by omega⟩
    obtain ⟨t1, t2⟩ := s3 i (by omega)
    refine br_f (nI_ge (by omega) (by omega)) (ek_if (qp_tst (by omega)) (fun hS => ?_) (fun hS => nm_r (nI_1 i) ?_))
    · refine qp_at_pk (by omega) (fun i hi => (s3 i hi).1) (by omega) ⟨z5, nm_r (e' := nI (qp_vm (fun i => cs i / (vl * vl)) S (i + 1))) ?_ (nm_r (nI_1 i) (ih (i + 1) n (by omega) (by omega)))⟩
      rw [show nI (cs i) / nI (vl * vl) = nI (cs i / (vl * vl)) from pk_div (by omega) hv1 (by omega), qp_vm_t hS]
      exact qp_orb _ (hw8 i (by omega)) _ (by omega)
    · have := ih (i + 1) n (by omega) (by omega)
      rw [qp_vm_f hS] at this
      exact this
theorem qp_1094 {N p a b nr nq kc ks hb0 hb1 : Nat} {xs : Nat → Int32} {cs KQ LQ RQ : Nat → Nat} {x7 x15 hi : Int32} {x11 : Int64} {J315 J1067 : _}
    (Wb : qa_W rl vw vl 6 hb0 hb1 c K L R) (BS : qp_BS vw vl c K L R nr cs nq KQ LQ RQ hi) (ha : a < vl) (hb : b < vl)
    (pp : ∀ (h0 h1 : Nat) (cc : Nat → Nat) (KK LL RR : Nat → Nat → Nat) (ac ak al ar lk im le gr : Nat → Int32), qa_W rl vw vl 6 h0 h1 cc KK LL RR → qa_A 8 cc KK LL RR ac ak al ar → qp_AG c K L R cc KK LL RR → J1067 (nI (p + 1)) (nI rl) (nI vw) (nI vl) (nI 6) (nI h0) (nI h1) ac ak al ar lk im le gr) :
    ∀ d S n (good : Int32) (h0 h1 : Nat) (cc : Nat → Nat) (KK LL RR : Nat → Nat → Nat) (ac ak al ar lk im le gr : Nat → Int32), S + d = 2 ^ nr → d < n → qa_W rl vw vl 6 h0 h1 cc KK LL RR → qa_A 8 cc KK LL RR ac ak al ar → qp_AG c K L R cc KK LL RR →
      (∀ w, w < 8 → bt good w = true → ∃ S, qp_vm (fun i => cs i / (vl * vl)) S nr = w ∧ qp_SS c K L R cs vl nr S a b) →
      (∀ S', S' < S → qp_pc S' 8 ≤ nq → qp_SS c K L R cs vl nr S' a b → qp_Wi good (qp_vm (fun i => cs i / (vl * vl)) S' nr)) →
      wL_law_1094 (fun r => r = 1) N xs J315 J1067 (nI rl) (nI vw) (nI vl) (nI (vl * vl)) x7 (lN (qp_pk cs nr)) x11 (nI nr) (nI nq) x15 hi (nI p) (nI a) (nI b) kc ks n good (nI S) (nI rl) (nI vw) (nI vl) (nI 6) (nI h0) (nI h1) ac ak al ar lk im le gr := by
  have BS' := BS
  obtain ⟨s1, s2, s3, s4, s5, s6, s7⟩ := BS
  have hv := Wb.2.1.2
  have h8 := qp_2pow hv
  have h64 : 2 ^ nr ≤ 64 := Nat.pow_le_pow_right (by decide) s1 (n := 2)
  have hw8 : ∀ S, qp_vm (fun i => cs i / (vl * vl)) S nr < 8 := fun S => Nat.lt_of_lt_of_le (qp_vm_lt nr (fun j hj => (s3 j (by omega)).2)) h8
  intro d
  induction d with
  | zero =>
    intro S n good h0 h1 cc KK LL RR ac ak al ar lk im le gr hS hn W A G G1 G2
    obtain ⟨n, rfl⟩ : ∃ m, n = m + 1 := ⟨n - 1, by omega⟩
    refine br_t (by rw [qp_sh nr (by omega)]; exact nI_le (by omega) (by omega)) ⟨2 ^ vw + 1, ?_⟩
    exact qp_1299 hv ha hb (qp_main Wb BS' ha hb G1 (fun S' h1 h2 h3 => G2 S' (by omega) h2 h3)) pp (2 ^ vw) 0 (2 ^ vw + 1) h0 h1 cc KK LL RR ac ak al ar lk im le gr (by omega) (by omega) W A G
  | succ d ih =>
    intro S n good h0 h1 cc KK LL RR ac ak al ar lk im le gr hS hn W A G G1 G2
    obtain ⟨n, rfl⟩ : ∃ m, n = m + 1 := ⟨n - 1, by omega⟩
    have hp8 := qp_pc_le S 8
    have keep : (qp_pc S 8 ≤ nq → qp_SS c K L R cs vl nr S a b → qp_Wi good (qp_vm (fun i => cs i / (vl * vl)) S nr)) → ∀ (h0 h1 : Nat) (cc : Nat → Nat) (KK LL RR : Nat → Nat → Nat) (ac ak al ar lk im le gr : Nat → Int32), qa_W rl vw vl 6 h0 h1 cc KK LL RR → qa_A 8 cc KK LL RR ac ak al ar → qp_AG c K L R cc KK LL RR → wL_law_1094 (fun r => r = 1) N xs J315 J1067 (nI rl) (nI vw) (nI vl) (nI (vl * vl)) x7 (lN (qp_pk cs nr)) x11 (nI nr) (nI nq) x15 hi (nI p) (nI a) (nI b) kc ks n good (nI (S + 1)) (nI rl) (nI vw) (nI vl) (nI 6) (nI h0) (nI h1) ac ak al ar lk im le gr := fun z h0 h1 cc KK LL RR ac ak al ar lk im le gr W A G => by
      refine ih (S + 1) n good h0 h1 cc KK LL RR ac ak al ar lk im le gr (by omega) (by omega) W A G G1 (fun S' h1 h2 h3 => ?_)
      by_cases e : S' = S
      · subst e; exact z h2 h3
      · exact G2 S' (by omega) h2 h3
    refine br_f (by rw [qp_sh nr (by omega)]; exact nI_ge (by omega) (by omega)) (qp_bits (pk_le (qp_pc S 8) nq (fun h => ⟨nr + 1, ?_⟩) (fun h => nm_r (nI_1 S) (keep (fun q => absurd q (by omega)) h0 h1 cc KK LL RR ac ak al ar lk im le gr W A G))))
    refine qp_1122 Wb BS' ha hb h W A G (fun z => keep (fun _ _ => z) h0 h1 cc KK LL RR ac ak al ar lk im le gr W A G) (fun z h0 h1 cc KK LL RR ac ak al ar lk im le gr W A G => ?_) (fun z h0 h1 cc KK LL RR ac ak al ar lk im le gr W A G => keep (fun _ q => absurd q z) h0 h1 cc KK LL RR ac ak al ar lk im le gr W A G) nr 0 (nr + 1) (by omega) (by omega)
    refine ih (S + 1) n _ h0 h1 cc KK LL RR ac ak al ar lk im le gr (by omega) (by omega) W A G (fun w hw hb' => ?_) (fun S' h1 h2 h3 => ?_)
    · rcases (qb_or good (r := qp_vm (fun i => cs i / (vl * vl)) S nr) (by have := hw8 S; omega) (by omega)).mp hb' with q | q
      · exact G1 w hw q
      · exact ⟨S, q.symm, z⟩
    · by_cases e : S' = S
      · subst e
        exact ⟨qp_vm (fun i => cs i / (vl * vl)) S' nr, hw8 S', (qb_or good (by have := hw8 S'; omega) (by have := hw8 S'; omega)).mpr (Or.inr rfl), Nat.and_self _⟩
      · obtain ⟨w, w1, w2, w3⟩ := G2 S' (by omega) h2 h3
        exact ⟨w, w1, (qb_or good (by have := hw8 S; omega) (by omega)).mpr (Or.inl w2), w3⟩
theorem qp_1067 {N nr nq kc ks hb0 hb1 : Nat} {xs : Nat → Int32} {cs KQ LQ RQ : Nat → Nat} {x7 x15 hi : Int32} {x11 : Int64} {J315 : _}
    (Wb : qa_W rl vw vl 6 hb0 hb1 c K L R) (BS : qp_BS vw vl c K L R nr cs nq KQ LQ RQ hi)
    (pp : ∀ (h0 h1 : Nat) (cc : Nat → Nat) (KK LL RR : Nat → Nat → Nat) (ac ak al ar lk im le gr : Nat → Int32), qa_W rl vw vl 6 h0 h1 cc KK LL RR → qa_A 8 cc KK LL RR ac ak al ar → qp_AG c K L R cc KK LL RR → J315 x7 (lN (qp_pk cs nr)) x11 (nI nr) (nI nq) (x15 + 1) (nI rl) (nI vw) (nI vl) (nI 6) (nI h0) (nI h1) ac ak al ar lk im le gr) :
    ∀ d p n (h0 h1 : Nat) (cc : Nat → Nat) (KK LL RR : Nat → Nat → Nat) (ac ak al ar lk im le gr : Nat → Int32), p + d = vl * vl → d < n → qa_W rl vw vl 6 h0 h1 cc KK LL RR → qa_A 8 cc KK LL RR ac ak al ar → qp_AG c K L R cc KK LL RR → wL_law_1067 (fun r => r = 1) N xs J315 (nI rl) (nI vw) (nI vl) (nI (vl * vl)) x7 (lN (qp_pk cs nr)) x11 (nI nr) (nI nq) x15 hi kc ks n (nI p) (nI rl) (nI vw) (nI vl) (nI 6) (nI h0) (nI h1) ac ak al ar lk im le gr := by
  have hl := Wb.2.2.1
  have hvv : vl * vl ≤ 16 := Nat.mul_le_mul hl.2 hl.2
  have z4 : ¬ nI vl = 0 := nI_ne0 (by omega) (by omega)
  intro d
  induction d with
  | zero =>
    intro p n h0 h1 cc KK LL RR ac ak al ar lk im le gr hp hn W A G
    obtain ⟨n, rfl⟩ : ∃ m, n = m + 1 := ⟨n - 1, by omega⟩
    exact br_t (nI_le (by omega) (by omega)) (nm_e (pp h0 h1 cc KK LL RR ac ak al ar lk im le gr W A G))
  | succ d ih =>
    intro p n h0 h1 cc KK LL RR ac ak al ar lk im le gr hp hn W A G
    obtain ⟨n, rfl⟩ : ∃ m, n = m + 1 := ⟨n - 1, by omega⟩
    have hd : p / vl < vl := (Nat.div_lt_iff_lt_mul (by omega)).mpr (by omega)
    refine br_f (nI_ge (by omega) (by omega)) ⟨z4, nm_r (e' := nI (p / vl)) (pk_div (by omega) (by omega) (by omega)) ⟨z4, nm_r (e' := nI (p % vl)) (pk_rem (by omega) (by omega) (by omega)) ⟨2 ^ nr + 1, ?_⟩⟩⟩
    exact qp_1094 Wb BS hd (Nat.mod_lt _ (by omega)) (fun h0 h1 cc KK LL RR ac ak al ar lk im le gr W A G => ih (p + 1) n h0 h1 cc KK LL RR ac ak al ar lk im le gr (by omega) (by omega) W A G) (2 ^ nr) 0 (2 ^ nr + 1) 0 h0 h1 cc KK LL RR ac ak al ar lk im le gr (by omega) (by omega) W A G (fun w _ q => by rw [b_0] at q; exact absurd q (by decide)) (fun S' q => absurd q (Nat.not_lt_zero S'))
end
