/-! the component's coreSize -/
def qa_Dx (a b e x y z : Nat) : Prop := x < 5 ∧ y < 5 ∧ z < 5 ∧ (x < a ∨ (x = a ∧ (y < b ∨ (y = b ∧ z < e))))
section
variable {rl vw vl rm h0 h1 : Nat} {c : Nat → Nat} {K L R : Nat → Nat → Nat} {fr fv fl fm f0 f1 : Int32} {ac ak al ar lk im le gr : Nat → Int32}
theorem qx_ar19 {post : Int32 → Prop} {g : Nat → Nat} (W : qa_W rl vw vl rm h0 h1 c K L R) (A : qa_A 8 c K L R ac ak al ar) (hg : ∀ w, w < 5 → im w = nI (g w) ∧ g w < 5)
    (p1 : qa_gd (c 0) (K 0) (L 0) (R 0) g → post (nI (qa_sn (qa_tg (c 0) (K 0) (L 0) (R 0) g) (c 0)).2)) (p0 : ¬ qa_gd (c 0) (K 0) (L 0) (R 0) g → post (-1)) :
    ∀ d j n (x1 : Int32), j + d = c 0 → d < n → (∀ i, i < j → qa_In (c 0) (K 0) (L 0) (R 0) (K 0 i) (g (L 0 i)) (g (R 0 i))) → (∀ t, t < 8 → (bt x1 t = true ↔ (qa_sn (qa_tg (c 0) (K 0) (L 0) (R 0) g) j).1 t = true)) →
      wX_atomsReached_19 post 0 (nI (c 0)) fr fv fl fm f0 f1 ac ak al ar lk im le gr n x1 (nI (qa_sn (qa_tg (c 0) (K 0) (L 0) (R 0) g) j).2) (nI j) := by
  have h8 := qa_W_8 W 0 (by decide)
  intro d
  induction d with
  | zero =>
    intro j n x1 hj hn hd hs
    obtain ⟨n, rfl⟩ : ∃ m, n = m + 1 := ⟨n - 1, by omega⟩
    have e : j = c 0 := by omega
    subst e
    exact br_t (nI_le (by omega) (by omega)) (p1 hd)
  | succ d ih =>
    intro j n x1 hj hn hd hs
    obtain ⟨n, rfl⟩ : ∃ m, n = m + 1 := ⟨n - 1, by omega⟩
    obtain ⟨e1, e2, e3⟩ := (A 0 (by decide)).2 j (by omega)
    rw [show 0 * 8 + j = j by omega] at e1 e2 e3
    obtain ⟨b1, b2, b3⟩ := qa_W_b W (s := 0) (by decide) j (by omega)
    obtain ⟨g1, g2⟩ := hg _ b2
    obtain ⟨g3, g4⟩ := hg _ b3
    have hcl : (nI j).toNatClampNeg = j := nI_clamp (by omega)
    have hin : vp_in (nI j) 48 := vp_in_nI (by omega) (by omega)
    have hsn := qa_sn_le (qa_tg (c 0) (K 0) (L 0) (R 0) g) j
    refine br_f (nI_ge (by omega) (by omega)) ⟨hin, hin, ?_⟩
    rw [hcl, e1, e2, e3, nI_clamp (show L 0 j < 2 ^ 31 by omega), nI_clamp (show R 0 j < 2 ^ 31 by omega), g1, g3]
    refine ⟨vp_in_nI (by omega) (by omega), hin, vp_in_nI (by omega) (by omega), ?_⟩
    refine qx_place (s := 0) A (by decide) h8 (qa_W_100 W (by decide)) (by omega) (by omega) (by omega) (fun i hi => ?_) (fun hn => br_t rfl (p0 (fun q => qa_fd_nin hn (q j (by omega)))))
    have hic := (qa_fd_some _ _ _ hi).2.1
    have htg : qa_tg (c 0) (K 0) (L 0) (R 0) g j = some i := hi
    have hd' : ∀ i, i < j + 1 → qa_In (c 0) (K 0) (L 0) (R 0) (K 0 i) (g (L 0 i)) (g (R 0 i)) := fun i' hi' => by
      by_cases e : i' = j
      · subst e; exact qa_in_fd hi
      · exact hd i' (by omega)
    have ebit : (1 : Int32) <<< ((nI (0 * 8 + i) - 0) &&& 31) = (1 : Int32) <<< (nI i &&& 31) := by rw [show 0 * 8 + i = i by omega, Int32.sub_zero]
    refine br_f (qn_m1 (by omega)) (nm_r ebit ?_)
    refine ek_if (qb_and0 x1 (by omega)) (fun z => ?_) (fun z => ?_)
    · have hz : ¬ (qa_sn (qa_tg (c 0) (K 0) (L 0) (R 0) g) j).1 i = true := fun w => z ((hs i (by omega)).mpr w)
      have es := qa_sn_f htg hz
      refine nm_e (nm_r (e' := nI (qa_sn (qa_tg (c 0) (K 0) (L 0) (R 0) g) (j + 1)).2) (by rw [es]; exact nI_1 _) (nm_r (nI_1 j) (ih (j + 1) n _ (by omega) (by omega) hd' (fun t ht => ?_))))
      rw [es, qb_or x1 (by omega) (by omega), hs t ht]
      show _ ↔ (if t = i then true else (qa_sn (qa_tg (c 0) (K 0) (L 0) (R 0) g) j).1 t) = true
      by_cases e : t = i
      · rw [if_pos e]; exact ⟨fun _ => rfl, fun _ => Or.inr e⟩
      · rw [if_neg e]; exact ⟨fun w => w.elim id (fun w => absurd w e), Or.inl⟩
    · have hz : (qa_sn (qa_tg (c 0) (K 0) (L 0) (R 0) g) j).1 i = true := (hs i (by omega)).mp (Classical.byContradiction z)
      have es := qa_sn_t htg hz
      refine nm_r (nI_1 j) ?_
      have := ih (j + 1) n x1 (by omega) (by omega) hd' (by rw [es]; exact hs)
      rw [es] at this
      exact this
theorem qx_atomsReached {post : Int32 → Prop} {g : Nat → Nat} (W : qa_W rl vw vl rm h0 h1 c K L R) (A : qa_A 8 c K L R ac ak al ar) (hg : ∀ w, w < 5 → im w = nI (g w) ∧ g w < 5)
    (p1 : qa_gd (c 0) (K 0) (L 0) (R 0) g → post (nI (qa_sn (qa_tg (c 0) (K 0) (L 0) (R 0) g) (c 0)).2)) (p0 : ¬ qa_gd (c 0) (K 0) (L 0) (R 0) g → post (-1)) : wpX_atomsReached post (fr, fv, fl, fm, f0, f1, ac, ak, al, ar, lk, im, le, gr) := by
  refine nm_r (e' := nI (c 0)) (by rw [(A 0 (by decide)).1, Int32.zero_add]) ⟨c 0 + 1, ?_⟩
  exact qx_ar19 W A hg p1 p0 (c 0) 0 (c 0 + 1) 0 (by omega) (by omega) (fun i hi => absurd hi (Nat.not_lt_zero i)) (fun t _ => by rw [b_0]; exact Iff.rfl)
theorem qx_cs52 {post : Int32 → SX → Prop} {J23 J37 : _} {a b : Nat} (W : qa_W rl vw vl rm h0 h1 c K L R) (A : qa_A 8 c K L R ac ak al ar) (ha : a < 5) (hb : b < 5)
    (pp : ∀ r im2, qa_Iv (c 0) (K 0) (L 0) (R 0) (qa_Dx a (b + 1) 0) r → im2 0 = 0 → im2 1 = 1 → im2 2 = nI a → J37 (nI r) (nI (b + 1)) ac ak al ar lk im2 le gr) :
    ∀ d e n r (im : Nat → Int32), e + d = 5 → d < n → qa_Iv (c 0) (K 0) (L 0) (R 0) (qa_Dx a b e) r → im 0 = 0 → im 1 = 1 → im 2 = nI a → im 3 = nI b →
      wX_coreSize_52 post J23 J37 (nI a) (nI b) fr fv fl fm f0 f1 n (nI r) (nI e) ac ak al ar lk im le gr := by
  have h8 := qa_W_8 W 0 (by decide)
  intro d
  induction d with
  | zero =>
    intro e n r im he hn I i0 i1 i2 i3
    obtain ⟨n, rfl⟩ : ∃ m, n = m + 1 := ⟨n - 1, by omega⟩
    refine br_t (nI_le (a := 5) (by omega) (by omega)) (nm_r (nI_1 b) (pp r im (qa_Iv_w (fun x y z h => ?_) I) i0 i1 i2))
    unfold qa_Dx at *
    omega
  | succ d ih =>
    intro e n r im he hn I i0 i1 i2 i3
    obtain ⟨n, rfl⟩ : ∃ m, n = m + 1 := ⟨n - 1, by omega⟩
    have k0 : upd im 4 (nI e) 0 = 0 := (pk_un (by decide)).trans i0
    have k1 : upd im 4 (nI e) 1 = 1 := (pk_un (by decide)).trans i1
    have k2 : upd im 4 (nI e) 2 = nI a := (pk_un (by decide)).trans i2
    have k3 : upd im 4 (nI e) 3 = nI b := (pk_un (by decide)).trans i3
    have hg : ∀ w, w < 5 → upd im 4 (nI e) w = nI (qa_gg a b e w) ∧ qa_gg a b e w < 5 := qa_5 ⟨k0, (by decide : 0 < 5)⟩ ⟨k1, (by decide : 1 < 5)⟩ ⟨k2, ha⟩ ⟨k3, hb⟩ ⟨pk_us, (by omega : e < 5)⟩
    have hD : ∀ x y z, qa_Dx a b (e + 1) x y z → qa_Dx a b e x y z ∨ (x = a ∧ y = b ∧ z = e) := by
      intro x y z h
      unfold qa_Dx at *
      omega
    have hsn := qa_sn_le (qa_tg (c 0) (K 0) (L 0) (R 0) (qa_gg a b e)) (c 0)
    have hr := I.1
    refine br_f (nI_ge (b := 5) (by omega) (by decide)) (nm_e ?_)
    refine qx_atomsReached W A hg (fun z => br_f (qn_m1 (by omega)) (pk_le r _ (fun h => nm_r (nI_1 e) (ih (e + 1) n r _ (by omega) (by omega) (qa_Iv_ge hD (fun _ => h) I) k0 k1 k2 k3)) (fun h => nm_r (nI_1 e) (ih (e + 1) n _ _ (by omega) (by omega) (qa_Iv_lo ha hb (by omega) hD z h I) k0 k1 k2 k3)))) (fun z => br_t rfl (nm_r (nI_1 e) (ih (e + 1) n r _ (by omega) (by omega) (qa_Iv_ge hD (fun w => absurd w z) I) k0 k1 k2 k3)))
theorem qx_cs37 {post : Int32 → SX → Prop} {J23 : _} {a : Nat} (W : qa_W rl vw vl rm h0 h1 c K L R) (A : qa_A 8 c K L R ac ak al ar) (ha : a < 5)
    (pp : ∀ r im2, qa_Iv (c 0) (K 0) (L 0) (R 0) (qa_Dx (a + 1) 0 0) r → im2 0 = 0 → im2 1 = 1 → J23 (nI r) (nI (a + 1)) ac ak al ar lk im2 le gr) :
    ∀ d b n r (im : Nat → Int32), b + d = 5 → d < n → qa_Iv (c 0) (K 0) (L 0) (R 0) (qa_Dx a b 0) r → im 0 = 0 → im 1 = 1 → im 2 = nI a →
      wX_coreSize_37 post J23 (nI a) fr fv fl fm f0 f1 n (nI r) (nI b) ac ak al ar lk im le gr := by
  intro d
  induction d with
  | zero =>
    intro b n r im he hn I i0 i1 i2
    obtain ⟨n, rfl⟩ : ∃ m, n = m + 1 := ⟨n - 1, by omega⟩
    refine br_t (nI_le (a := 5) (by omega) (by omega)) (nm_r (nI_1 a) (pp r im (qa_Iv_w (fun x y z h => ?_) I) i0 i1))
    unfold qa_Dx at *
    omega
  | succ d ih =>
    intro b n r im he hn I i0 i1 i2
    obtain ⟨n, rfl⟩ : ∃ m, n = m + 1 := ⟨n - 1, by omega⟩
    refine br_f (nI_ge (b := 5) (by omega) (by decide)) (nm_e ⟨6, ?_⟩)
    exact qx_cs52 W A ha (by omega) (fun r2 im2 I2 j0 j1 j2 => ih (b + 1) n r2 im2 (by omega) (by omega) I2 j0 j1 j2) 5 0 6 r _ (by omega) (by omega) I ((pk_un (by decide)).trans i0) ((pk_un (by decide)).trans i1) ((pk_un (by decide)).trans i2) pk_us
theorem qx_cs23 {post : Int32 → SX → Prop} (W : qa_W rl vw vl rm h0 h1 c K L R) (A : qa_A 8 c K L R ac ak al ar)
    (pp : ∀ r im2, qa_Iv (c 0) (K 0) (L 0) (R 0) (qa_Dx 5 0 0) r → post (nI r) (fr, fv, fl, fm, f0, f1, ac, ak, al, ar, lk, im2, le, gr)) :
    ∀ d a n r (im : Nat → Int32), a + d = 5 → d < n → qa_Iv (c 0) (K 0) (L 0) (R 0) (qa_Dx a 0 0) r → im 0 = 0 → im 1 = 1 →
      wX_coreSize_23 post fr fv fl fm f0 f1 n (nI r) (nI a) ac ak al ar lk im le gr := by
  intro d
  induction d with
  | zero =>
    intro a n r im he hn I i0 i1
    obtain ⟨n, rfl⟩ : ∃ m, n = m + 1 := ⟨n - 1, by omega⟩
    have e : a = 5 := by omega
    subst e
    exact br_t (nI_le (a := 5) (by omega) (by omega)) (pp r im I)
  | succ d ih =>
    intro a n r im he hn I i0 i1
    obtain ⟨n, rfl⟩ : ∃ m, n = m + 1 := ⟨n - 1, by omega⟩
    refine br_f (nI_ge (b := 5) (by omega) (by decide)) (nm_e ⟨6, ?_⟩)
    exact qx_cs37 W A (by omega) (fun r2 im2 I2 j0 j1 => ih (a + 1) n r2 im2 (by omega) (by omega) I2 j0 j1) 5 0 6 r _ (by omega) (by omega) I ((pk_un (by decide)).trans i0) ((pk_un (by decide)).trans i1) pk_us
theorem qx_coreSize {post : Int32 → SX → Prop} (W : qa_W rl vw vl rm h0 h1 c K L R) (A : qa_A 8 c K L R ac ak al ar)
    (pp : ∀ r im2, qa_Iv (c 0) (K 0) (L 0) (R 0) (qa_Dx 5 0 0) r → post (nI r) (fr, fv, fl, fm, f0, f1, ac, ak, al, ar, lk, im2, le, gr)) : wpX_coreSize post (fr, fv, fl, fm, f0, f1, ac, ak, al, ar, lk, im, le, gr) := by
  refine nm_r (e' := nI (c 0)) (A 0 (by decide)).1 (nm_e (nm_e ⟨6, ?_⟩))
  refine qx_cs23 W A pp 5 0 6 (c 0) _ (by omega) (by omega) (qa_Iv_0 (fun x y z h => ?_)) ((pk_un (by decide)).trans pk_us) pk_us
  unfold qa_Dx at h
  omega
end
