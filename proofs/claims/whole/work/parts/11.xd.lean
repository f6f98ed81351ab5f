/-! the component's questions -/
section
variable {rl vw vl rm h0 h1 : Nat} {c : Nat → Nat} {K L R : Nat → Nat → Nat} {fr fv fl fm f0 f1 : Int32} {ac ak al ar lk im le gr : Nat → Int32}
theorem qa_W_8 (W : qa_W rl vw vl rm h0 h1 c K L R) : ∀ s, s < 6 → c s ≤ 8 := fun _ hs => qa_W_c W hs
theorem qa_W_v (W : qa_W rl vw vl rm h0 h1 c K L R) : ∀ v, v < 3 → ∀ j, j < c (3 + v) → K (3 + v) j < 3 ∧ L (3 + v) j < 4 ∧ R (3 + v) j < 4 := by
  intro v hv j hj
  obtain ⟨a, b, d⟩ := (W.2.2.2.2.2.2 (3 + v) (by omega)).2 j hj
  have e1 := qa_kd_le (s := 3 + v) W.1.2 W.2.1.2
  rw [qa_tm_3 (by omega)] at b d
  omega
theorem qx_certain {post : Int32 → SX → Prop} {mask : Int32} {a b : Nat} (W : qa_W rl vw vl rm h0 h1 c K L R) (A : qa_A 8 c K L R ac ak al ar) (ha : a < vl) (hb : b < vl)
    (p1 : qa_Mt (c 0) (K 0) (L 0) (R 0) (qa_FX c K L R (qa_on mask (K 2)) (K 2) (L 2) (R 2) (fun i => 5 + 2 * i) (c 2)) 21 a b → ∀ lk2 im2 le2 gr2, post 1 (nI rl, nI vw, nI vl, nI rm, nI h0, nI h1, ac, ak, al, ar, lk2, im2, le2, gr2))
    (p0 : ¬ qa_Mt (c 0) (K 0) (L 0) (R 0) (qa_FX c K L R (qa_on mask (K 2)) (K 2) (L 2) (R 2) (fun i => 5 + 2 * i) (c 2)) 21 a b → ∀ lk2 im2 le2 gr2, post 0 (nI rl, nI vw, nI vl, nI rm, nI h0, nI h1, ac, ak, al, ar, lk2, im2, le2, gr2)) :
    wpX_certain post (nI rl, nI vw, nI vl, nI rm, nI h0, nI h1, ac, ak, al, ar, lk, im, le, gr) mask (nI a) (nI b) := by
  have hl := W.2.2.1.2
  unfold wpX_certain
  refine qx_below (n := vl) (by omega) (fun _ _ _ => br_f qn_10 ?_) (fun z => absurd ⟨a, ha, rfl⟩ z)
  refine qx_below (n := vl) (by omega) (fun _ _ _ => br_f qn_10 ?_) (fun z => absurd ⟨b, hb, rfl⟩ z)
  refine qx_unlinkAll (fun lk1 hz => ?_)
  refine qx_linkFactsOfSection (s := 2) A (by decide) (qa_W_8 W) (qa_W_b W (by decide)) (qa_W_v W) hz (fun lk2 H => ?_)
  exact qx_queryMatches A (qa_W_8 W 0 (by decide)) (qa_W_b W (by decide)) H (by omega) (by omega) (fun z im2 le2 gr2 => br_f qn_10 (p1 z lk2 im2 le2 gr2)) (fun z im2 le2 gr2 => br_t rfl (p0 z lk2 im2 le2 gr2))
theorem qx_sound {post : Int32 → SX → Prop} (W : qa_W rl vw vl rm h0 h1 c K L R) (A : qa_A 8 c K L R ac ak al ar)
    (p1 : qa_Mt (c 0) (K 0) (L 0) (R 0) (qa_FX c K L R (qa_on (-1) (K 1)) (K 1) (L 1) (R 1) (fun i => 5 + 2 * i) (c 1)) 21 h0 h1 → ∀ lk2 im2 le2 gr2, post 1 (nI rl, nI vw, nI vl, nI rm, nI h0, nI h1, ac, ak, al, ar, lk2, im2, le2, gr2))
    (p0 : ¬ qa_Mt (c 0) (K 0) (L 0) (R 0) (qa_FX c K L R (qa_on (-1) (K 1)) (K 1) (L 1) (R 1) (fun i => 5 + 2 * i) (c 1)) 21 h0 h1 → ∀ lk2 im2 le2 gr2, post 0 (nI rl, nI vw, nI vl, nI rm, nI h0, nI h1, ac, ak, al, ar, lk2, im2, le2, gr2)) :
    wpX_sound post (nI rl, nI vw, nI vl, nI rm, nI h0, nI h1, ac, ak, al, ar, lk, im, le, gr) := by
  have hh0 := W.2.2.2.2.1
  have hh1 := W.2.2.2.2.2.1
  unfold wpX_sound
  refine qx_unlinkAll (fun lk1 hz => ?_)
  refine qx_linkFactsOfSection (s := 1) A (by decide) (qa_W_8 W) (qa_W_b W (by decide)) (qa_W_v W) hz (fun lk2 H => ?_)
  exact qx_queryMatches A (qa_W_8 W 0 (by decide)) (qa_W_b W (by decide)) H (by omega) (by omega) (fun z im2 le2 gr2 => br_f qn_10 (p1 z lk2 im2 le2 gr2)) (fun z im2 le2 gr2 => br_t rfl (p0 z lk2 im2 le2 gr2))
theorem qx_rw6 {post : Int32 → SX → Prop} {mask : Int32} (W : qa_W rl vw vl rm h0 h1 c K L R) (A : qa_A 8 c K L R ac ak al ar)
    (p1 : qa_Mt (c 0) (K 0) (L 0) (R 0) (qa_FX c K L R (qa_on mask (fun i => i)) (fun i => i) (fun _ => 0) (fun _ => 0) (fun i => 5 + 2 * i) vw) 21 0 0 → ∀ lk2 im2 le2 gr2, post 1 (nI rl, nI vw, nI vl, nI rm, nI h0, nI h1, ac, ak, al, ar, lk2, im2, le2, gr2))
    (p0 : ¬ qa_Mt (c 0) (K 0) (L 0) (R 0) (qa_FX c K L R (qa_on mask (fun i => i)) (fun i => i) (fun _ => 0) (fun _ => 0) (fun i => 5 + 2 * i) vw) 21 0 0 → ∀ lk2 im2 le2 gr2, post 0 (nI rl, nI vw, nI vl, nI rm, nI h0, nI h1, ac, ak, al, ar, lk2, im2, le2, gr2)) :
    ∀ d j n (lk : Nat → Int32), j + d = vw → d < n → qa_LK lk (qa_FX c K L R (qa_on mask (fun i => i)) (fun i => i) (fun _ => 0) (fun _ => 0) (fun i => 5 + 2 * i) j) → wX_rewritable_6 post mask n (nI j) (nI rl) (nI vw) (nI vl) (nI rm) (nI h0) (nI h1) ac ak al ar lk im le gr := by
  have hv := W.2.1.2
  intro d
  induction d with
  | zero =>
    intro j n lk hj hn H
    obtain ⟨n, rfl⟩ : ∃ m, n = m + 1 := ⟨n - 1, by omega⟩
    have e : j = vw := by omega
    subst e
    refine br_t (nI_le (by omega) (by omega)) ?_
    exact qx_queryMatches (p := 0) (q := 0) A (qa_W_8 W 0 (by decide)) (qa_W_b W (by decide)) H (by omega) (by omega) (fun z im2 le2 gr2 => br_f qn_10 (p1 z lk im2 le2 gr2)) (fun z im2 le2 gr2 => br_t rfl (p0 z lk im2 le2 gr2))
  | succ d ih =>
    intro j n lk hj hn H
    obtain ⟨n, rfl⟩ : ∃ m, n = m + 1 := ⟨n - 1, by omega⟩
    refine br_f (nI_ge (by omega) (by omega)) ?_
    refine qx_inMask (V := fun i => i) (i := j) (fun h => br_f qn_10 ?_) (fun h => br_t rfl (nm_r (nI_1 j) (ih (j + 1) n lk (by omega) (by omega) (qa_LK_cg H (fun k x y => qa_FX_f h)))))
    exact qx_linkFacts (v := j) (p := 0) (q := 0) (o := j) A (by omega) (qa_W_8 W _ (by omega)) (qa_W_v W j (by omega)) (by omega) (by omega) (by omega) H (fun k x y => qa_FX_t h) (fun lk' H' => nm_r (nI_1 j) (ih (j + 1) n lk' (by omega) (by omega) H'))
theorem qx_rewritable {post : Int32 → SX → Prop} {mask : Int32} (W : qa_W rl vw vl rm h0 h1 c K L R) (A : qa_A 8 c K L R ac ak al ar)
    (p1 : qa_Mt (c 0) (K 0) (L 0) (R 0) (qa_FX c K L R (qa_on mask (fun i => i)) (fun i => i) (fun _ => 0) (fun _ => 0) (fun i => 5 + 2 * i) vw) 21 0 0 → ∀ lk2 im2 le2 gr2, post 1 (nI rl, nI vw, nI vl, nI rm, nI h0, nI h1, ac, ak, al, ar, lk2, im2, le2, gr2))
    (p0 : ¬ qa_Mt (c 0) (K 0) (L 0) (R 0) (qa_FX c K L R (qa_on mask (fun i => i)) (fun i => i) (fun _ => 0) (fun _ => 0) (fun i => 5 + 2 * i) vw) 21 0 0 → ∀ lk2 im2 le2 gr2, post 0 (nI rl, nI vw, nI vl, nI rm, nI h0, nI h1, ac, ak, al, ar, lk2, im2, le2, gr2)) :
    wpX_rewritable post (nI rl, nI vw, nI vl, nI rm, nI h0, nI h1, ac, ak, al, ar, lk, im, le, gr) mask := by
  unfold wpX_rewritable
  exact qx_unlinkAll (fun lk1 hz => ⟨vw + 1, qx_rw6 W A p1 p0 vw 0 (vw + 1) lk1 (by omega) (by omega) (qa_LK_0 hz (fun _ _ _ => qa_FX_0))⟩)
theorem qx_candidateHas {post : Int32 → SX → Prop} {a b : Nat} (W : qa_W rl vw vl rm h0 h1 c K L R) (A : qa_A 8 c K L R ac ak al ar) (ha : a < vl) (hb : b < vl)
    (p1 : qa_Cd h0 h1 a b (c 1) (K 1) (L 1) (R 1) (qa_In (c 2) (K 2) (L 2) (R 2)) vl → ∀ lk2 im2 le2 gr2, post 1 (nI rl, nI vw, nI vl, nI rm, nI h0, nI h1, ac, ak, al, ar, lk2, im2, le2, gr2))
    (p0 : ¬ qa_Cd h0 h1 a b (c 1) (K 1) (L 1) (R 1) (qa_In (c 2) (K 2) (L 2) (R 2)) vl → ∀ lk2 im2 le2 gr2, post 0 (nI rl, nI vw, nI vl, nI rm, nI h0, nI h1, ac, ak, al, ar, lk2, im2, le2, gr2)) :
    wpX_candidateHas post (nI rl, nI vw, nI vl, nI rm, nI h0, nI h1, ac, ak, al, ar, lk, im, le, gr) (nI a) (nI b) := by
  have hl := W.2.2.1.2
  obtain ⟨T, rfl⟩ : ∃ T, vl = T + 1 := ⟨vl - 1, by omega⟩
  unfold wpX_candidateHas
  refine qx_below (n := T + 1) (by omega) (fun _ _ _ => br_f qn_10 ?_) (fun z => absurd ⟨a, ha, rfl⟩ z)
  refine qx_below (n := T + 1) (by omega) (fun _ _ _ => br_f qn_10 ?_) (fun z => absurd ⟨b, hb, rfl⟩ z)
  refine qx_unlinkAll (fun lk1 hz => ?_)
  refine qx_linkRows A (qa_W_8 W 2 (by decide)) (qa_W_b W (by decide)) hz (fun lk2 H => ?_)
  exact qx_candidateGives A (qa_W_8 W 1 (by decide)) (qa_W_b W (by decide)) H (by omega) (by omega) (by omega) W.2.2.2.2.1 W.2.2.2.2.2.1 (fun z im2 le2 gr2 => br_f qn_10 (p1 z lk2 im2 le2 gr2)) (fun z im2 le2 gr2 => br_t rfl (p0 z lk2 im2 le2 gr2))
/-! what the views give over the query -/
theorem qx_bq21 {post : Int32 → Prop} {v : Nat} {g : Nat → Nat} (W : qa_W rl vw vl rm h0 h1 c K L R) (A : qa_A 8 c K L R ac ak al ar) (hv : v < 3) (hg : ∀ w, w < 4 → im w = nI (g w) ∧ g w < 5) :
    ∀ d j n, j + d = c (3 + v) → d < n →
      ((∀ i, j ≤ i → i < c (3 + v) → qa_In (c 0) (K 0) (L 0) (R 0) (K (3 + v) i) (g (L (3 + v) i)) (g (R (3 + v) i))) → post 1) →
      ((¬ ∀ i, j ≤ i → i < c (3 + v) → qa_In (c 0) (K 0) (L 0) (R 0) (K (3 + v) i) (g (L (3 + v) i)) (g (R (3 + v) i))) → post 0) →
      wX_bodyIsInQuery_21 post (nI ((3 + v) * 8 + c (3 + v))) fr fv fl fm f0 f1 ac ak al ar lk im le gr n (nI ((3 + v) * 8 + j)) := by
  have h8 := qa_W_8 W (3 + v) (by omega)
  intro d
  induction d with
  | zero =>
    intro j n hj hn p1 p0
    obtain ⟨n, rfl⟩ : ∃ m, n = m + 1 := ⟨n - 1, by omega⟩
    exact br_t (nI_le (by omega) (by omega)) (p1 (fun i h1 h2 => absurd h1 (by omega)))
  | succ d ih =>
    intro j n hj hn p1 p0
    obtain ⟨n, rfl⟩ : ∃ m, n = m + 1 := ⟨n - 1, by omega⟩
    obtain ⟨e1, e2, e3⟩ := (A (3 + v) (by omega)).2 j (by omega)
    obtain ⟨b1, b2, b3⟩ := qa_W_v W v hv j (by omega)
    obtain ⟨g1, g2⟩ := hg _ b2
    obtain ⟨g3, g4⟩ := hg _ b3
    have hcl : (nI ((3 + v) * 8 + j)).toNatClampNeg = (3 + v) * 8 + j := nI_clamp (by omega)
    have hin : vp_in (nI ((3 + v) * 8 + j)) 48 := vp_in_nI (by omega) (by omega)
    refine br_f (nI_ge (by omega) (by omega)) ⟨hin, ?_⟩
    rw [hcl, e1, e2, e3]
    refine ⟨vp_in_nI (by omega) (by omega), nm_r (e' := nI (g (L (3 + v) j))) (by rw [nI_clamp (by omega)]; exact g1) ⟨hin, vp_in_nI (by omega) (by omega), nm_r (e' := nI (g (R (3 + v) j))) (by rw [nI_clamp (by omega)]; exact g3) ⟨hin, ?_⟩⟩⟩
    refine qx_place (s := 0) A (by decide) (qa_W_8 W 0 (by decide)) (qa_W_100 W (by decide)) (by omega) (by omega) (by omega) (fun i hi => br_f (qn_m1 ?_) (nm_r (qn_s _ _) (ih (j + 1) n (by omega) (by omega) (fun z => p1 (fun i' q1 q2 => ?_)) (fun z => p0 (fun q => z (fun i' q1 q2 => q i' (by omega) q2)))))) (fun hn => br_t rfl (p0 (fun q => qa_fd_nin hn (q j (by omega) (by omega)))))
    · have := (qa_fd_some _ _ _ hi).2.1
      have := qa_W_8 W 0 (by decide)
      omega
    · by_cases e : i' = j
      · subst e; exact qa_in_fd hi
      · exact z i' (by omega) q2
theorem qx_bodyIsInQuery {post : Int32 → Prop} {v : Nat} {g : Nat → Nat} (W : qa_W rl vw vl rm h0 h1 c K L R) (A : qa_A 8 c K L R ac ak al ar) (hv : v < 3) (hg : ∀ w, w < 4 → im w = nI (g w) ∧ g w < 5)
    (p1 : qa_Ca (c (3 + v)) (K (3 + v)) (L (3 + v)) (R (3 + v)) (qa_In (c 0) (K 0) (L 0) (R 0)) g → post 1) (p0 : ¬ qa_Ca (c (3 + v)) (K (3 + v)) (L (3 + v)) (R (3 + v)) (qa_In (c 0) (K 0) (L 0) (R 0)) g → post 0) :
    wpX_bodyIsInQuery post (fr, fv, fl, fm, f0, f1, ac, ak, al, ar, lk, im, le, gr) (nI v) := by
  refine nm_r (e' := nI ((3 + v) * 8)) (by rw [qn_3]; exact pk_mul (3 + v) 8) ⟨by rw [qn_3]; exact vp_in_nI (by omega) (by omega), nm_r (e' := nI ((3 + v) * 8 + c (3 + v))) (by rw [qn_3, nI_clamp (by omega), (A (3 + v) (by omega)).1, nI_add]) ⟨c (3 + v) + 1, ?_⟩⟩
  exact qx_bq21 W A hv hg (c (3 + v)) 0 (c (3 + v) + 1) (by omega) (by omega) (fun z => p1 (fun j hj => z j (Nat.zero_le _) hj)) (fun z => p0 (fun q => z (fun i _ h2 => q i h2)))
theorem qx_vg34 {post : Int32 → SX → Prop} {J17 : _} {v p q a : Nat} (W : qa_W rl vw vl rm h0 h1 c K L R) (A : qa_A 8 c K L R ac ak al ar) (hv : v < 3) (hp : p < 5) (hq : q < 5) (ha : a < 5) :
    ∀ d b n (im : Nat → Int32), b + d = 5 → d < n → im 0 = nI p → im 1 = nI q → im 2 = nI a →
      ((∃ b', b ≤ b' ∧ b' < 5 ∧ qa_Ca (c (3 + v)) (K (3 + v)) (L (3 + v)) (R (3 + v)) (qa_In (c 0) (K 0) (L 0) (R 0)) (qa_g5 p q a b' 0)) → ∀ im2, post 1 (fr, fv, fl, fm, f0, f1, ac, ak, al, ar, lk, im2, le, gr)) →
      ((¬ ∃ b', b ≤ b' ∧ b' < 5 ∧ qa_Ca (c (3 + v)) (K (3 + v)) (L (3 + v)) (R (3 + v)) (qa_In (c 0) (K 0) (L 0) (R 0)) (qa_g5 p q a b' 0)) → ∀ im2, im2 0 = nI p → im2 1 = nI q → J17 (nI (a + 1)) ac ak al ar lk im2 le gr) →
      wX_viewGives_34 post J17 (nI v) (nI a) fr fv fl fm f0 f1 n (nI b) ac ak al ar lk im le gr := by
  intro d
  induction d with
  | zero =>
    intro b n im hb hn i0 i1 i2 p1 p0
    obtain ⟨n, rfl⟩ : ∃ m, n = m + 1 := ⟨n - 1, by omega⟩
    exact br_t (nI_le (a := 5) (by omega) (by omega)) (nm_r (nI_1 a) (p0 (qa_ex_no (by omega)) im i0 i1))
  | succ d ih =>
    intro b n im hb hn i0 i1 i2 p1 p0
    obtain ⟨n, rfl⟩ : ∃ m, n = m + 1 := ⟨n - 1, by omega⟩
    have k0 : upd im 3 (nI b) 0 = nI p := (pk_un (by decide)).trans i0
    have k1 : upd im 3 (nI b) 1 = nI q := (pk_un (by decide)).trans i1
    have k2 : upd im 3 (nI b) 2 = nI a := (pk_un (by decide)).trans i2
    have hg : ∀ w, w < 4 → upd im 3 (nI b) w = nI (qa_g5 p q a b 0 w) ∧ qa_g5 p q a b 0 w < 5 := fun w hw =>
      match w, hw with
      | 0, _ => ⟨k0, hp⟩
      | 1, _ => ⟨k1, hq⟩
      | 2, _ => ⟨k2, ha⟩
      | 3, _ => ⟨pk_us, (by omega : b < 5)⟩
    refine br_f (nI_ge (b := 5) (by omega) (by decide)) (nm_e ?_)
    refine qx_bodyIsInQuery W A hv hg (fun z => br_f qn_10 (p1 ⟨b, Nat.le_refl _, by omega, z⟩ _)) (fun z => br_t rfl (nm_r (nI_1 b) (ih (b + 1) n _ (by omega) (by omega) k0 k1 k2 (fun w => p1 ((qa_ex_s (by omega)).mpr (Or.inr w))) (fun w => p0 (fun y => ?_)))))
    rcases (qa_ex_s (by omega)).mp y with y | y
    · exact z y
    · exact w y
theorem qx_vg17 {post : Int32 → SX → Prop} {v p q : Nat} (W : qa_W rl vw vl rm h0 h1 c K L R) (A : qa_A 8 c K L R ac ak al ar) (hv : v < 3) (hp : p < 5) (hq : q < 5) :
    ∀ d a n (im : Nat → Int32), a + d = 5 → d < n → im 0 = nI p → im 1 = nI q →
      ((∃ a', a ≤ a' ∧ a' < 5 ∧ ∃ b', 0 ≤ b' ∧ b' < 5 ∧ qa_Ca (c (3 + v)) (K (3 + v)) (L (3 + v)) (R (3 + v)) (qa_In (c 0) (K 0) (L 0) (R 0)) (qa_g5 p q a' b' 0)) → ∀ im2, post 1 (fr, fv, fl, fm, f0, f1, ac, ak, al, ar, lk, im2, le, gr)) →
      ((¬ ∃ a', a ≤ a' ∧ a' < 5 ∧ ∃ b', 0 ≤ b' ∧ b' < 5 ∧ qa_Ca (c (3 + v)) (K (3 + v)) (L (3 + v)) (R (3 + v)) (qa_In (c 0) (K 0) (L 0) (R 0)) (qa_g5 p q a' b' 0)) → ∀ im2, post 0 (fr, fv, fl, fm, f0, f1, ac, ak, al, ar, lk, im2, le, gr)) →
      wX_viewGives_17 post (nI v) fr fv fl fm f0 f1 n (nI a) ac ak al ar lk im le gr := by
  intro d
  induction d with
  | zero =>
    intro a n im ha hn i0 i1 p1 p0
    obtain ⟨n, rfl⟩ : ∃ m, n = m + 1 := ⟨n - 1, by omega⟩
    exact br_t (nI_le (a := 5) (by omega) (by omega)) (p0 (qa_ex_no (by omega)) im)
  | succ d ih =>
    intro a n im ha hn i0 i1 p1 p0
    obtain ⟨n, rfl⟩ : ∃ m, n = m + 1 := ⟨n - 1, by omega⟩
    refine br_f (nI_ge (b := 5) (by omega) (by decide)) (nm_e ⟨6, ?_⟩)
    refine qx_vg34 W A hv hp hq (by omega) 5 0 6 _ (by omega) (by omega) ((pk_un (by decide)).trans i0) ((pk_un (by decide)).trans i1) pk_us (fun w => p1 ((qa_ex_s (by omega)).mpr (Or.inl w))) (fun w im2 j0 j1 => ih (a + 1) n im2 (by omega) (by omega) j0 j1 (fun y => p1 ((qa_ex_s (by omega)).mpr (Or.inr y))) (fun y => p0 (fun x => ?_)))
    rcases (qa_ex_s (by omega)).mp x with x | x
    · exact w x
    · exact y x
theorem qx_viewGives {post : Int32 → SX → Prop} {v p q : Nat} (W : qa_W rl vw vl rm h0 h1 c K L R) (A : qa_A 8 c K L R ac ak al ar) (hv : v < 3) (hp : p < 5) (hq : q < 5)
    (p1 : qa_Vg c K L R v p q → ∀ im2, post 1 (fr, fv, fl, fm, f0, f1, ac, ak, al, ar, lk, im2, le, gr)) (p0 : ¬ qa_Vg c K L R v p q → ∀ im2, post 0 (fr, fv, fl, fm, f0, f1, ac, ak, al, ar, lk, im2, le, gr)) : wpX_viewGives post (fr, fv, fl, fm, f0, f1, ac, ak, al, ar, lk, im, le, gr) (nI v) (nI p) (nI q) := by
  refine nm_e (nm_e ⟨6, ?_⟩)
  refine qx_vg17 W A hv hp hq 5 0 6 _ (by omega) (by omega) ((pk_un (by decide)).trans pk_us) pk_us (fun z => p1 ?_) (fun z => p0 (fun q => z ?_))
  · obtain ⟨a, _, ha, b, _, hb, h⟩ := z
    exact ⟨a, ha, b, hb, h⟩
  · obtain ⟨a, ha, b, hb, h⟩ := q
    exact ⟨a, Nat.zero_le _, ha, b, Nat.zero_le _, hb, h⟩
def qa_VF (c : Nat → Nat) (K L R : Nat → Nat → Nat) (F : Nat → Nat → Nat → Prop) (v p q : Nat) (k x y : Nat) : Prop := F k x y ∨ (k = v ∧ x < 5 ∧ y < 5 ∧ qa_Vg c K L R v x y ∧ (x < p ∨ (x = p ∧ y < q)))
theorem qx_lv9 {post : SX → Prop} {J2 : _} {v p : Nat} {F : Nat → Nat → Nat → Prop} (W : qa_W rl vw vl rm h0 h1 c K L R) (A : qa_A 8 c K L R ac ak al ar) (hv : v < 3) (hp : p < 5)
    (pp : ∀ lk2 im2, qa_LK lk2 (qa_VF c K L R F v (p + 1) 0) → J2 (nI (p + 1)) fr fv fl fm f0 f1 ac ak al ar lk2 im2 le gr) :
    ∀ d q n (lk im : Nat → Int32), q + d = 5 → d < n → qa_LK lk (qa_VF c K L R F v p q) → wX_linkViewOverQuery_9 post J2 (nI v) (nI p) n (nI q) fr fv fl fm f0 f1 ac ak al ar lk im le gr := by
  intro d
  induction d with
  | zero =>
    intro q n lk im hq hn H
    obtain ⟨n, rfl⟩ : ∃ m, n = m + 1 := ⟨n - 1, by omega⟩
    refine br_t (nI_le (a := 5) (by omega) (by omega)) (nm_r (nI_1 p) (pp lk im (qa_LK_cg H (fun k x y => ?_))))
    unfold qa_VF
    constructor
    · rintro (z | ⟨z1, z2, z3, z4, z5⟩)
      · exact Or.inl z
      · exact Or.inr ⟨z1, z2, z3, z4, by omega⟩
    · rintro (z | ⟨z1, z2, z3, z4, z5⟩)
      · exact Or.inl z
      · exact Or.inr ⟨z1, z2, z3, z4, by omega⟩
  | succ d ih =>
    intro q n lk im hq hn H
    obtain ⟨n, rfl⟩ : ∃ m, n = m + 1 := ⟨n - 1, by omega⟩
    refine br_f (nI_ge (b := 5) (by omega) (by decide)) ?_
    refine qx_viewGives W A hv hp (by omega) (fun z im2 => br_f qn_10 ?_) (fun z im2 => br_t rfl (nm_r (nI_1 q) (ih (q + 1) n lk im2 (by omega) (by omega) (qa_LK_cg H (fun k x y => ?_)))))
    · refine qx_link hv (by omega) (by omega) H (fun k x y => ?_) (fun lk' H' => nm_r (nI_1 q) (ih (q + 1) n lk' im2 (by omega) (by omega) H'))
      unfold qa_VF
      constructor
      · rintro (w | ⟨z1, z2, z3, z4, z5⟩)
        · exact Or.inl (Or.inl w)
        · by_cases e : x = p ∧ y = q
          · exact Or.inr ⟨z1, e.1, e.2⟩
          · exact Or.inl (Or.inr ⟨z1, z2, z3, z4, by omega⟩)
      · rintro ((w | ⟨z1, z2, z3, z4, z5⟩) | ⟨z1, z2, z3⟩)
        · exact Or.inl w
        · exact Or.inr ⟨z1, z2, z3, z4, by omega⟩
        · subst z1 z2 z3
          exact Or.inr ⟨rfl, hp, by omega, z, by omega⟩
    · unfold qa_VF
      constructor
      · rintro (w | ⟨z1, z2, z3, z4, z5⟩)
        · exact Or.inl w
        · by_cases e : x = p ∧ y = q
          · rw [e.1, e.2] at z4
            exact absurd z4 z
          · exact Or.inr ⟨z1, z2, z3, z4, by omega⟩
      · rintro (w | ⟨z1, z2, z3, z4, z5⟩)
        · exact Or.inl w
        · exact Or.inr ⟨z1, z2, z3, z4, by omega⟩
theorem qx_lv2 {post : SX → Prop} {v : Nat} {F : Nat → Nat → Nat → Prop} (W : qa_W rl vw vl rm h0 h1 c K L R) (A : qa_A 8 c K L R ac ak al ar) (hv : v < 3)
    (pp : ∀ lk2 im2, qa_LK lk2 (qa_VF c K L R F v 5 0) → post (fr, fv, fl, fm, f0, f1, ac, ak, al, ar, lk2, im2, le, gr)) :
    ∀ d p n (lk im : Nat → Int32), p + d = 5 → d < n → qa_LK lk (qa_VF c K L R F v p 0) → wX_linkViewOverQuery_2 post (nI v) n (nI p) fr fv fl fm f0 f1 ac ak al ar lk im le gr := by
  intro d
  induction d with
  | zero =>
    intro p n lk im hq hn H
    obtain ⟨n, rfl⟩ : ∃ m, n = m + 1 := ⟨n - 1, by omega⟩
    have e : p = 5 := by omega
    subst e
    exact br_t (nI_le (a := 5) (by omega) (by omega)) (pp lk im H)
  | succ d ih =>
    intro p n lk im hq hn H
    obtain ⟨n, rfl⟩ : ∃ m, n = m + 1 := ⟨n - 1, by omega⟩
    exact br_f (nI_ge (b := 5) (by omega) (by decide)) ⟨6, qx_lv9 W A hv (by omega) (fun lk2 im2 H2 => ih (p + 1) n lk2 im2 (by omega) (by omega) H2) 5 0 6 lk im (by omega) (by omega) H⟩
theorem qx_co6 {post : Int32 → SX → Prop} (W : qa_W rl vw vl rm h0 h1 c K L R) (A : qa_A 8 c K L R ac ak al ar)
    (p1 : qa_Cd h0 h1 0 1 (c 1) (K 1) (L 1) (R 1) (fun v p q => v < vw ∧ p < 5 ∧ q < 5 ∧ qa_Vg c K L R v p q) 5 → ∀ lk2 im2 le2 gr2, post 1 (nI rl, nI vw, nI vl, nI rm, nI h0, nI h1, ac, ak, al, ar, lk2, im2, le2, gr2))
    (p0 : ¬ qa_Cd h0 h1 0 1 (c 1) (K 1) (L 1) (R 1) (fun v p q => v < vw ∧ p < 5 ∧ q < 5 ∧ qa_Vg c K L R v p q) 5 → ∀ lk2 im2 le2 gr2, post 0 (nI rl, nI vw, nI vl, nI rm, nI h0, nI h1, ac, ak, al, ar, lk2, im2, le2, gr2)) :
    ∀ d j n (lk im : Nat → Int32), j + d = vw → d < n → qa_LK lk (fun v p q => v < j ∧ p < 5 ∧ q < 5 ∧ qa_Vg c K L R v p q) → wX_complete_6 post n (nI j) (nI rl) (nI vw) (nI vl) (nI rm) (nI h0) (nI h1) ac ak al ar lk im le gr := by
  have hv := W.2.1.2
  intro d
  induction d with
  | zero =>
    intro j n lk im hj hn H
    obtain ⟨n, rfl⟩ : ∃ m, n = m + 1 := ⟨n - 1, by omega⟩
    have e : j = vw := by omega
    subst e
    refine br_t (nI_le (by omega) (by omega)) ?_
    exact qx_candidateGives (a := 0) (b := 1) (T := 4) A (qa_W_8 W 1 (by decide)) (qa_W_b W (by decide)) H (by omega) (by omega) (by omega) W.2.2.2.2.1 W.2.2.2.2.2.1 (fun z im2 le2 gr2 => br_f qn_10 (p1 z lk im2 le2 gr2)) (fun z im2 le2 gr2 => br_t rfl (p0 z lk im2 le2 gr2))
  | succ d ih =>
    intro j n lk im hj hn H
    obtain ⟨n, rfl⟩ : ∃ m, n = m + 1 := ⟨n - 1, by omega⟩
    refine br_f (nI_ge (by omega) (by omega)) ?_
    refine ⟨6, qx_lv2 (F := fun v p q => v < j ∧ p < 5 ∧ q < 5 ∧ qa_Vg c K L R v p q) W A (by omega) (fun lk2 im2 H2 => nm_r (nI_1 j) (ih (j + 1) n lk2 im2 (by omega) (by omega) (qa_LK_cg H2 (fun k x y => ?_)))) 5 0 6 lk im (by omega) (by omega) (qa_LK_cg H (fun k x y => ?_))⟩
    · unfold qa_VF
      constructor
      · rintro ⟨z1, z2, z3, z4⟩
        by_cases e : k = j
        · subst e; exact Or.inr ⟨rfl, z2, z3, z4, by omega⟩
        · exact Or.inl ⟨by omega, z2, z3, z4⟩
      · rintro (⟨z1, z2, z3, z4⟩ | ⟨z1, z2, z3, z4, z5⟩)
        · exact ⟨by omega, z2, z3, z4⟩
        · subst z1; exact ⟨by omega, z2, z3, z4⟩
    · unfold qa_VF
      constructor
      · rintro (z | ⟨z1, z2, z3, z4, z5⟩)
        · exact z
        · omega
      · exact Or.inl
theorem qx_complete {post : Int32 → SX → Prop} (W : qa_W rl vw vl rm h0 h1 c K L R) (A : qa_A 8 c K L R ac ak al ar)
    (p1 : qa_Cd h0 h1 0 1 (c 1) (K 1) (L 1) (R 1) (fun v p q => v < vw ∧ p < 5 ∧ q < 5 ∧ qa_Vg c K L R v p q) 5 → ∀ lk2 im2 le2 gr2, post 1 (nI rl, nI vw, nI vl, nI rm, nI h0, nI h1, ac, ak, al, ar, lk2, im2, le2, gr2))
    (p0 : ¬ qa_Cd h0 h1 0 1 (c 1) (K 1) (L 1) (R 1) (fun v p q => v < vw ∧ p < 5 ∧ q < 5 ∧ qa_Vg c K L R v p q) 5 → ∀ lk2 im2 le2 gr2, post 0 (nI rl, nI vw, nI vl, nI rm, nI h0, nI h1, ac, ak, al, ar, lk2, im2, le2, gr2)) :
    wpX_complete post (nI rl, nI vw, nI vl, nI rm, nI h0, nI h1, ac, ak, al, ar, lk, im, le, gr) := by
  unfold wpX_complete
  refine qx_unlinkAll (fun lk1 hz => ⟨vw + 1, qx_co6 W A p1 p0 vw 0 (vw + 1) lk1 im (by omega) (by omega) (qa_LK_0 hz (fun k x y z => ?_))⟩)
  exact absurd z.1 (Nat.not_lt_zero k)
end
