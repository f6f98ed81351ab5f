/-! the component's search -/
def qa_IM (im : Nat → Int32) (g : Nat → Nat) (n : Nat) : Prop := ∀ v, v < n → im v = nI (g v) ∧ g v < 21
section
variable {rl vw vl rm h0 h1 : Nat} {c : Nat → Nat} {K L R : Nat → Nat → Nat} {fr fv fl fm f0 f1 : Int32} {ac ak al ar lk im le gr : Nat → Int32}
theorem qx_isLinked {post : Int32 → Prop} {k l r : Nat} {F : Nat → Nat → Nat → Prop} (hk : k < 3) (hl : l < 21) (hr : r < 21) (H : qa_LK lk F) (p1 : F k l r → post 1) (p0 : ¬ F k l r → post 0) : wpX_isLinked post (fr, fv, fl, fm, f0, f1, ac, ak, al, ar, lk, im, le, gr) (nI k) (nI l) (nI r) := by
  have e : nI k * 21 + nI l = nI (k * 21 + l) := by rw [show nI k * 21 = nI (k * 21) from pk_mul k 21, nI_add]
  have hin : vp_in (nI k * 21 + nI l) 63 := by rw [e]; exact vp_in_nI (by omega) (by omega)
  have hcl : (nI k * 21 + nI l).toNatClampNeg = k * 21 + l := by rw [e]; exact nI_clamp (by omega)
  refine ⟨hin, ?_⟩
  rw [hcl]
  exact ek_if ((qb_t1 _ (by omega)).trans (H k l r hk hl hr)) p1 p0
theorem qx_cg50 {post : Int32 → St2 → Prop} {s m : Nat} {g : Nat → Nat} {F : Nat → Nat → Nat → Prop} (A : qa_A 8 c K L R ac ak al ar) (hs : s < 6) (h8 : c s ≤ 8) (hb : ∀ j, j < c s → K s j < 3 ∧ L s j < 5 ∧ R s j < 5) (H : qa_LK lk F) (hm : m < 5) (hI : qa_IM im g (m + 1)) :
    ∀ d j n, j + d = c s → d < n → ((∀ i, j ≤ i → i < c s → qa_due (L s i) (R s i) m → F (K s i) (g (L s i)) (g (R s i))) → post 1 (fr, fv, fl, fm, f0, f1, ac, ak, al, ar, lk, im, le, gr)) → ((¬ ∀ i, j ≤ i → i < c s → qa_due (L s i) (R s i) m → F (K s i) (g (L s i)) (g (R s i))) → post 0 (fr, fv, fl, fm, f0, f1, ac, ak, al, ar, lk, im, le, gr)) →
      wX_canGo_50 post (nI m) (nI (s * 8 + c s)) fr fv fl fm f0 f1 ac ak al ar lk im le gr n (nI (s * 8 + j)) := by
  intro d
  induction d with
  | zero =>
    intro j n hj hn p1 p0
    obtain ⟨n, rfl⟩ : ∃ m, n = m + 1 := ⟨n - 1, by omega⟩
    exact br_t (nI_le (by omega) (by omega)) (p1 (fun i h1 h2 => absurd h1 (by omega)))
  | succ d ih =>
    intro j n hj hn p1 p0
    obtain ⟨n, rfl⟩ : ∃ m, n = m + 1 := ⟨n - 1, by omega⟩
    obtain ⟨e1, e2, e3⟩ := (A s hs).2 j (by omega)
    obtain ⟨b1, b2, b3⟩ := hb j (by omega)
    have hcl : (nI (s * 8 + j)).toNatClampNeg = s * 8 + j := nI_clamp (by omega)
    have hin : vp_in (nI (s * 8 + j)) 48 := vp_in_nI (by omega) (by omega)
    have hnx : (qa_due (L s j) (R s j) m → F (K s j) (g (L s j)) (g (R s j))) → wX_canGo_50 post (nI m) (nI (s * 8 + c s)) fr fv fl fm f0 f1 ac ak al ar lk im le gr n (nI (s * 8 + (j + 1))) := fun z => by
      refine ih (j + 1) n (by omega) (by omega) (fun h => p1 (fun i q1 q2 q3 => ?_)) (fun h => p0 (fun q => h (fun i q1 q2 q3 => q i (by omega) q2 q3)))
      by_cases e : i = j
      · subst e; exact z q3
      · exact h i (by omega) q2 q3
    have hno : ¬ qa_due (L s j) (R s j) m → wX_canGo_107 post (wX_canGo_50 post (nI m) (nI (s * 8 + c s)) fr fv fl fm f0 f1 ac ak al ar lk im le gr n) (nI m) (nI (s * 8 + c s)) (nI (s * 8 + j)) (nI (L s j)) (nI (R s j)) 0 fr fv fl fm f0 f1 ac ak al ar lk im le gr := fun z =>
      br_t rfl (nm_r (qn_s _ _) (hnx (fun q => absurd q z)))
    have hye : qa_due (L s j) (R s j) m → wX_canGo_107 post (wX_canGo_50 post (nI m) (nI (s * 8 + c s)) fr fv fl fm f0 f1 ac ak al ar lk im le gr n) (nI m) (nI (s * 8 + c s)) (nI (s * 8 + j)) (nI (L s j)) (nI (R s j)) 1 fr fv fl fm f0 f1 ac ak al ar lk im le gr := fun z => by
      have zz := z
      unfold qa_due at zz
      obtain ⟨i1, i2⟩ := hI (L s j) (by omega)
      obtain ⟨i3, i4⟩ := hI (R s j) (by omega)
      refine br_f qn_10 ⟨hin, vp_in_nI b2 (by omega), vp_in_nI b3 (by omega), ?_⟩
      rw [hcl, e1, nI_clamp (show L s j < 2 ^ 31 by omega), nI_clamp (show R s j < 2 ^ 31 by omega), i1, i3]
      refine qx_isLinked b1 i2 i4 H (fun q => br_f qn_10 (nm_r (qn_s _ _) (hnx (fun _ => q)))) (fun q => br_t rfl (p0 (fun w => q (w j (by omega) (by omega) z))))
    refine br_f (nI_ge (by omega) (by omega)) ⟨hin, nm_r (e' := nI (L s j)) (by rw [hcl]; exact e2) ⟨hin, nm_r (e' := nI (R s j)) (by rw [hcl]; exact e3) ?_⟩⟩
    refine pk_le (L s j) (R s j) (fun h => pk_eq (R s j) m (fun e => hye (Or.inr ⟨h, e⟩)) (fun e => hno ?_)) (fun h => pk_eq (L s j) m (fun e => hye (Or.inl ⟨h, e⟩)) (fun e => hno ?_))
    · unfold qa_due; omega
    · unfold qa_due; omega
theorem qx_canGo {post : Int32 → St2 → Prop} {s m t : Nat} {g : Nat → Nat} {F : Nat → Nat → Nat → Prop} {lo hi : Nat → Nat} (A : qa_A 8 c K L R ac ak al ar) (hs : s < 6) (h8 : c s ≤ 8) (hb : ∀ j, j < c s → K s j < 3 ∧ L s j < 5 ∧ R s j < 5) (H : qa_LK lk F) (LH : qa_LH le gr lo hi)
    (hm : m < 5) (hI : qa_IM im g m) (Hok : qa_Ok (c s) (K s) (L s) (R s) F lo hi m g) (ht : t < 21)
    (p1 : ∀ im', qa_IM im' (qa_set g m t) (m + 1) → qa_Ok (c s) (K s) (L s) (R s) F lo hi (m + 1) (qa_set g m t) → post 1 (fr, fv, fl, fm, f0, f1, ac, ak, al, ar, lk, im', le, gr))
    (p0 : ∀ im', qa_IM im' g m → ¬ qa_Ok (c s) (K s) (L s) (R s) F lo hi (m + 1) (qa_set g m t) → post 0 (fr, fv, fl, fm, f0, f1, ac, ak, al, ar, lk, im', le, gr)) :
    wpX_canGo post (fr, fv, fl, fm, f0, f1, ac, ak, al, ar, lk, im, le, gr) (nI s) (nI m) (nI t) := by
  obtain ⟨l1, l2, l3, l4⟩ := LH m hm
  have hcl : (nI m).toNatClampNeg = m := nI_clamp (by omega)
  have hin : vp_in (nI m) 5 := vp_in_nI (by omega) (by omega)
  by_cases hr : lo m ≤ t ∧ t ≤ hi m
  · have hI1 : qa_IM (upd im m (nI t)) g m := fun v hv => by
      rw [pk_un (by omega)]
      exact hI v hv
    have hI2 : qa_IM (upd im m (nI t)) (qa_set g m t) (m + 1) := fun v hv => by
      by_cases e : v = m
      · subst e; rw [pk_us, qa_set_s]; exact ⟨rfl, ht⟩
      · rw [pk_un e, qa_set_n e]; exact hI v (by omega)
    have Hok' : qa_Ok (c s) (K s) (L s) (R s) F lo hi m (qa_set g m t) := qa_Ok_cg (fun v hv => qa_set_n (by omega)) Hok
    refine ⟨hin, br_f ?_ ⟨hin, br_t ?_ ⟨hin, nm_r (e' := upd im m (nI t)) (by rw [hcl]) (nm_r (pk_mul s 8) ⟨vp_in_nI (by omega) (by omega), nm_r (e' := nI (s * 8 + c s)) (by rw [nI_clamp (by omega), (A s hs).1, nI_add]) ⟨c s + 1, ?_⟩⟩)⟩⟩⟩
    · rw [hcl, l1]; exact nI_nlt hr.1 (by omega)
    · rw [hcl, l2]; exact nI_le hr.2 (by omega)
    · refine qx_cg50 A hs h8 hb H hm hI2 (c s) 0 (c s + 1) (by omega) (by omega) (fun z => p1 _ hI2 (qa_Ok_s Hok' ?_ (fun j hj => z j (Nat.zero_le _) hj))) (fun z => p0 _ hI1 (fun q => z (fun i _ h2 => qa_Ok_due q i h2)))
      rw [qa_set_s]; exact hr
  · have hno : ¬ qa_Ok (c s) (K s) (L s) (R s) F lo hi (m + 1) (qa_set g m t) := fun q => by
      have := q.1 m (by omega)
      rw [qa_set_s] at this
      exact hr this
    refine ⟨hin, ?_⟩
    rw [hcl, l1, l2]
    exact pk_lt t (lo m) (fun h => p0 im hI hno) (fun h => ⟨hin, pk_le t (hi m) (fun h' => absurd ⟨h, h'⟩ hr) (fun h' => p0 im hI hno)⟩)

theorem qx_h4 {post : Int32 → St2 → Prop} {J2 : _} {J23 : _} {J45 : _} {J69 : _} {s t1 : Nat} {x2 x3 x4 : Int32} {F : Nat → Nat → Nat → Prop} {lo hi : Nat → Nat} (A : qa_A 8 c K L R ac ak al ar) (hs : s < 6) (h8 : c s ≤ 8) (hb : ∀ j, j < c s → K s j < 3 ∧ L s j < 5 ∧ R s j < 5) (H : qa_LK lk F) (LH : qa_LH le gr lo hi) {g : Nat → Nat} (Hok : qa_Ok (c s) (K s) (L s) (R s) F lo hi 4 g) :
    ∀ d t n (im : Nat → Int32), t + d = 21 → d < n → qa_IM im g 4 → (qa_Ex (c s) (K s) (L s) (R s) F lo hi 4 g t → ∀ im2, post 1 (fr, fv, fl, fm, f0, f1, ac, ak, al, ar, lk, im2, le, gr)) → (¬ qa_Ex (c s) (K s) (L s) (R s) F lo hi 4 g t → ∀ im2, qa_IM im2 g 4 → J69 (nI (t1 + 1)) fr fv fl fm f0 f1 ac ak al ar lk im2 le gr) →
      wX_hasImage_93 post J2 J23 J45 J69 (nI s) x2 x3 x4 (nI t1) n (nI t) fr fv fl fm f0 f1 ac ak al ar lk im le gr := by
  intro d
  induction d with
  | zero =>
    intro t n im ht hn hI p1 p0
    obtain ⟨n, rfl⟩ : ∃ m, n = m + 1 := ⟨n - 1, by omega⟩
    have hx : ¬ qa_Ex (c s) (K s) (L s) (R s) F lo hi 4 g t := qa_Ex_no (by decide) (by have := (LH 4 (by decide)).2.2.1; omega)
    exact br_t (nI_le (a := 21) (by omega) (by omega)) (nm_r (nI_1 t1) (p0 hx im hI))
  | succ d ih =>
    intro t n im ht hn hI p1 p0
    obtain ⟨n, rfl⟩ : ∃ m, n = m + 1 := ⟨n - 1, by omega⟩
    have nxt : ∀ im2, qa_IM im2 g 4 → (qa_Ex (c s) (K s) (L s) (R s) F lo hi 4 g t → qa_Ex (c s) (K s) (L s) (R s) F lo hi 4 g (t + 1)) → wX_hasImage_93 post J2 J23 J45 J69 (nI s) x2 x3 x4 (nI t1) n (nI (t + 1)) fr fv fl fm f0 f1 ac ak al ar lk im2 le gr := fun im2 hI2 hE =>
      ih (t + 1) n im2 (by omega) (by omega) hI2 (fun z => p1 (qa_Ex_s z)) (fun z => p0 (fun q => z (hE q)))
    refine br_f (nI_ge (b := 21) (by omega) (by decide)) ?_
    refine qx_canGo A hs h8 hb H LH (m := 4) (t := t) (by decide) hI Hok (by omega) (fun im2 hI2 hok => br_f qn_10 ?_) (fun im2 hI2 hno => br_t rfl (nm_r (nI_1 t) (nxt im2 hI2 (qa_Ex_no1 (by decide) hno))))
    exact p1 (qa_Ex_in (qa_Ex_5 hok)) im2
theorem qx_h3 {post : Int32 → St2 → Prop} {J2 : _} {J23 : _} {J45 : _} {s t1 : Nat} {x2 x3 : Int32} {F : Nat → Nat → Nat → Prop} {lo hi : Nat → Nat} (A : qa_A 8 c K L R ac ak al ar) (hs : s < 6) (h8 : c s ≤ 8) (hb : ∀ j, j < c s → K s j < 3 ∧ L s j < 5 ∧ R s j < 5) (H : qa_LK lk F) (LH : qa_LH le gr lo hi) {g : Nat → Nat} (Hok : qa_Ok (c s) (K s) (L s) (R s) F lo hi 3 g) :
    ∀ d t n (im : Nat → Int32), t + d = 21 → d < n → qa_IM im g 3 → (qa_Ex (c s) (K s) (L s) (R s) F lo hi 3 g t → ∀ im2, post 1 (fr, fv, fl, fm, f0, f1, ac, ak, al, ar, lk, im2, le, gr)) → (¬ qa_Ex (c s) (K s) (L s) (R s) F lo hi 3 g t → ∀ im2, qa_IM im2 g 3 → J45 (nI (t1 + 1)) fr fv fl fm f0 f1 ac ak al ar lk im2 le gr) →
      wX_hasImage_69 post J2 J23 J45 (nI s) x2 x3 (nI t1) n (nI t) fr fv fl fm f0 f1 ac ak al ar lk im le gr := by
  intro d
  induction d with
  | zero =>
    intro t n im ht hn hI p1 p0
    obtain ⟨n, rfl⟩ : ∃ m, n = m + 1 := ⟨n - 1, by omega⟩
    have hx : ¬ qa_Ex (c s) (K s) (L s) (R s) F lo hi 3 g t := qa_Ex_no (by decide) (by have := (LH 3 (by decide)).2.2.1; omega)
    exact br_t (nI_le (a := 21) (by omega) (by omega)) (nm_r (nI_1 t1) (p0 hx im hI))
  | succ d ih =>
    intro t n im ht hn hI p1 p0
    obtain ⟨n, rfl⟩ : ∃ m, n = m + 1 := ⟨n - 1, by omega⟩
    have nxt : ∀ im2, qa_IM im2 g 3 → (qa_Ex (c s) (K s) (L s) (R s) F lo hi 3 g t → qa_Ex (c s) (K s) (L s) (R s) F lo hi 3 g (t + 1)) → wX_hasImage_69 post J2 J23 J45 (nI s) x2 x3 (nI t1) n (nI (t + 1)) fr fv fl fm f0 f1 ac ak al ar lk im2 le gr := fun im2 hI2 hE =>
      ih (t + 1) n im2 (by omega) (by omega) hI2 (fun z => p1 (qa_Ex_s z)) (fun z => p0 (fun q => z (hE q)))
    refine br_f (nI_ge (b := 21) (by omega) (by decide)) ?_
    refine qx_canGo A hs h8 hb H LH (m := 3) (t := t) (by decide) hI Hok (by omega) (fun im2 hI2 hok => br_f qn_10 ?_) (fun im2 hI2 hno => br_t rfl (nm_r (nI_1 t) (nxt im2 hI2 (qa_Ex_no1 (by decide) hno))))
    refine ⟨22, qx_h4 A hs h8 hb H LH hok 21 0 22 im2 (by omega) (by omega) hI2 (fun z => p1 (qa_Ex_in z)) (fun z im3 hI3 => nxt im3 (fun v hv => ?_) (fun q => Classical.byContradiction (fun w => z (qa_Ex_c q w))))⟩
    have := hI3 v (by omega)
    rw [qa_set_n (by omega)] at this
    exact this
theorem qx_h2 {post : Int32 → St2 → Prop} {J2 : _} {J23 : _} {s t1 : Nat} {x2 : Int32} {F : Nat → Nat → Nat → Prop} {lo hi : Nat → Nat} (A : qa_A 8 c K L R ac ak al ar) (hs : s < 6) (h8 : c s ≤ 8) (hb : ∀ j, j < c s → K s j < 3 ∧ L s j < 5 ∧ R s j < 5) (H : qa_LK lk F) (LH : qa_LH le gr lo hi) {g : Nat → Nat} (Hok : qa_Ok (c s) (K s) (L s) (R s) F lo hi 2 g) :
    ∀ d t n (im : Nat → Int32), t + d = 21 → d < n → qa_IM im g 2 → (qa_Ex (c s) (K s) (L s) (R s) F lo hi 2 g t → ∀ im2, post 1 (fr, fv, fl, fm, f0, f1, ac, ak, al, ar, lk, im2, le, gr)) → (¬ qa_Ex (c s) (K s) (L s) (R s) F lo hi 2 g t → ∀ im2, qa_IM im2 g 2 → J23 (nI (t1 + 1)) fr fv fl fm f0 f1 ac ak al ar lk im2 le gr) →
      wX_hasImage_45 post J2 J23 (nI s) x2 (nI t1) n (nI t) fr fv fl fm f0 f1 ac ak al ar lk im le gr := by
  intro d
  induction d with
  | zero =>
    intro t n im ht hn hI p1 p0
    obtain ⟨n, rfl⟩ : ∃ m, n = m + 1 := ⟨n - 1, by omega⟩
    have hx : ¬ qa_Ex (c s) (K s) (L s) (R s) F lo hi 2 g t := qa_Ex_no (by decide) (by have := (LH 2 (by decide)).2.2.1; omega)
    exact br_t (nI_le (a := 21) (by omega) (by omega)) (nm_r (nI_1 t1) (p0 hx im hI))
  | succ d ih =>
    intro t n im ht hn hI p1 p0
    obtain ⟨n, rfl⟩ : ∃ m, n = m + 1 := ⟨n - 1, by omega⟩
    have nxt : ∀ im2, qa_IM im2 g 2 → (qa_Ex (c s) (K s) (L s) (R s) F lo hi 2 g t → qa_Ex (c s) (K s) (L s) (R s) F lo hi 2 g (t + 1)) → wX_hasImage_45 post J2 J23 (nI s) x2 (nI t1) n (nI (t + 1)) fr fv fl fm f0 f1 ac ak al ar lk im2 le gr := fun im2 hI2 hE =>
      ih (t + 1) n im2 (by omega) (by omega) hI2 (fun z => p1 (qa_Ex_s z)) (fun z => p0 (fun q => z (hE q)))
    refine br_f (nI_ge (b := 21) (by omega) (by decide)) ?_
    refine qx_canGo A hs h8 hb H LH (m := 2) (t := t) (by decide) hI Hok (by omega) (fun im2 hI2 hok => br_f qn_10 ?_) (fun im2 hI2 hno => br_t rfl (nm_r (nI_1 t) (nxt im2 hI2 (qa_Ex_no1 (by decide) hno))))
    refine ⟨22, qx_h3 A hs h8 hb H LH hok 21 0 22 im2 (by omega) (by omega) hI2 (fun z => p1 (qa_Ex_in z)) (fun z im3 hI3 => nxt im3 (fun v hv => ?_) (fun q => Classical.byContradiction (fun w => z (qa_Ex_c q w))))⟩
    have := hI3 v (by omega)
    rw [qa_set_n (by omega)] at this
    exact this
theorem qx_h1 {post : Int32 → St2 → Prop} {J2 : _} {s t1 : Nat} {F : Nat → Nat → Nat → Prop} {lo hi : Nat → Nat} (A : qa_A 8 c K L R ac ak al ar) (hs : s < 6) (h8 : c s ≤ 8) (hb : ∀ j, j < c s → K s j < 3 ∧ L s j < 5 ∧ R s j < 5) (H : qa_LK lk F) (LH : qa_LH le gr lo hi) {g : Nat → Nat} (Hok : qa_Ok (c s) (K s) (L s) (R s) F lo hi 1 g) :
    ∀ d t n (im : Nat → Int32), t + d = 21 → d < n → qa_IM im g 1 → (qa_Ex (c s) (K s) (L s) (R s) F lo hi 1 g t → ∀ im2, post 1 (fr, fv, fl, fm, f0, f1, ac, ak, al, ar, lk, im2, le, gr)) → (¬ qa_Ex (c s) (K s) (L s) (R s) F lo hi 1 g t → ∀ im2, qa_IM im2 g 1 → J2 (nI (t1 + 1)) fr fv fl fm f0 f1 ac ak al ar lk im2 le gr) →
      wX_hasImage_23 post J2 (nI s) (nI t1) n (nI t) fr fv fl fm f0 f1 ac ak al ar lk im le gr := by
  intro d
  induction d with
  | zero =>
    intro t n im ht hn hI p1 p0
    obtain ⟨n, rfl⟩ : ∃ m, n = m + 1 := ⟨n - 1, by omega⟩
    have hx : ¬ qa_Ex (c s) (K s) (L s) (R s) F lo hi 1 g t := qa_Ex_no (by decide) (by have := (LH 1 (by decide)).2.2.1; omega)
    exact br_t (nI_le (a := 21) (by omega) (by omega)) (nm_r (nI_1 t1) (p0 hx im hI))
  | succ d ih =>
    intro t n im ht hn hI p1 p0
    obtain ⟨n, rfl⟩ : ∃ m, n = m + 1 := ⟨n - 1, by omega⟩
    have nxt : ∀ im2, qa_IM im2 g 1 → (qa_Ex (c s) (K s) (L s) (R s) F lo hi 1 g t → qa_Ex (c s) (K s) (L s) (R s) F lo hi 1 g (t + 1)) → wX_hasImage_23 post J2 (nI s) (nI t1) n (nI (t + 1)) fr fv fl fm f0 f1 ac ak al ar lk im2 le gr := fun im2 hI2 hE =>
      ih (t + 1) n im2 (by omega) (by omega) hI2 (fun z => p1 (qa_Ex_s z)) (fun z => p0 (fun q => z (hE q)))
    refine br_f (nI_ge (b := 21) (by omega) (by decide)) ?_
    refine qx_canGo A hs h8 hb H LH (m := 1) (t := t) (by decide) hI Hok (by omega) (fun im2 hI2 hok => br_f qn_10 ?_) (fun im2 hI2 hno => br_t rfl (nm_r (nI_1 t) (nxt im2 hI2 (qa_Ex_no1 (by decide) hno))))
    refine ⟨22, qx_h2 A hs h8 hb H LH hok 21 0 22 im2 (by omega) (by omega) hI2 (fun z => p1 (qa_Ex_in z)) (fun z im3 hI3 => nxt im3 (fun v hv => ?_) (fun q => Classical.byContradiction (fun w => z (qa_Ex_c q w))))⟩
    have := hI3 v (by omega)
    rw [qa_set_n (by omega)] at this
    exact this
theorem qx_h0 {post : Int32 → St2 → Prop}  {s : Nat} {F : Nat → Nat → Nat → Prop} {lo hi : Nat → Nat} (A : qa_A 8 c K L R ac ak al ar) (hs : s < 6) (h8 : c s ≤ 8) (hb : ∀ j, j < c s → K s j < 3 ∧ L s j < 5 ∧ R s j < 5) (H : qa_LK lk F) (LH : qa_LH le gr lo hi) {g : Nat → Nat} (Hok : qa_Ok (c s) (K s) (L s) (R s) F lo hi 0 g) :
    ∀ d t n (im : Nat → Int32), t + d = 21 → d < n → qa_IM im g 0 → (qa_Ex (c s) (K s) (L s) (R s) F lo hi 0 g t → ∀ im2, post 1 (fr, fv, fl, fm, f0, f1, ac, ak, al, ar, lk, im2, le, gr)) → (¬ qa_Ex (c s) (K s) (L s) (R s) F lo hi 0 g t → ∀ im2, qa_IM im2 g 0 → post 0 (fr, fv, fl, fm, f0, f1, ac, ak, al, ar, lk, im2, le, gr)) →
      wX_hasImage_2 post (nI s) n (nI t) fr fv fl fm f0 f1 ac ak al ar lk im le gr := by
  intro d
  induction d with
  | zero =>
    intro t n im ht hn hI p1 p0
    obtain ⟨n, rfl⟩ : ∃ m, n = m + 1 := ⟨n - 1, by omega⟩
    have hx : ¬ qa_Ex (c s) (K s) (L s) (R s) F lo hi 0 g t := qa_Ex_no (by decide) (by have := (LH 0 (by decide)).2.2.1; omega)
    exact br_t (nI_le (a := 21) (by omega) (by omega)) (p0 hx im hI)
  | succ d ih =>
    intro t n im ht hn hI p1 p0
    obtain ⟨n, rfl⟩ : ∃ m, n = m + 1 := ⟨n - 1, by omega⟩
    have nxt : ∀ im2, qa_IM im2 g 0 → (qa_Ex (c s) (K s) (L s) (R s) F lo hi 0 g t → qa_Ex (c s) (K s) (L s) (R s) F lo hi 0 g (t + 1)) → wX_hasImage_2 post (nI s) n (nI (t + 1)) fr fv fl fm f0 f1 ac ak al ar lk im2 le gr := fun im2 hI2 hE =>
      ih (t + 1) n im2 (by omega) (by omega) hI2 (fun z => p1 (qa_Ex_s z)) (fun z => p0 (fun q => z (hE q)))
    refine br_f (nI_ge (b := 21) (by omega) (by decide)) ?_
    refine qx_canGo A hs h8 hb H LH (m := 0) (t := t) (by decide) hI Hok (by omega) (fun im2 hI2 hok => br_f qn_10 ?_) (fun im2 hI2 hno => br_t rfl (nm_r (nI_1 t) (nxt im2 hI2 (qa_Ex_no1 (by decide) hno))))
    refine ⟨22, qx_h1 A hs h8 hb H LH hok 21 0 22 im2 (by omega) (by omega) hI2 (fun z => p1 (qa_Ex_in z)) (fun z im3 hI3 => nxt im3 (fun v hv => ?_) (fun q => Classical.byContradiction (fun w => z (qa_Ex_c q w))))⟩
    have := hI3 v (by omega)
    rw [qa_set_n (by omega)] at this
    exact this
theorem qx_hasImage {post : Int32 → St2 → Prop} {s : Nat} {F : Nat → Nat → Nat → Prop} {lo hi : Nat → Nat} (A : qa_A 8 c K L R ac ak al ar) (hs : s < 6) (h8 : c s ≤ 8) (hb : ∀ j, j < c s → K s j < 3 ∧ L s j < 5 ∧ R s j < 5) (H : qa_LK lk F) (LH : qa_LH le gr lo hi)
    (p1 : qa_Im (c s) (K s) (L s) (R s) F lo hi → ∀ im2, post 1 (fr, fv, fl, fm, f0, f1, ac, ak, al, ar, lk, im2, le, gr)) (p0 : ¬ qa_Im (c s) (K s) (L s) (R s) F lo hi → ∀ im2, post 0 (fr, fv, fl, fm, f0, f1, ac, ak, al, ar, lk, im2, le, gr)) : wpX_hasImage post (fr, fv, fl, fm, f0, f1, ac, ak, al, ar, lk, im, le, gr) (nI s) := by
  have hL : ∀ j, j < c s → L s j < 5 ∧ R s j < 5 := fun j hj => (hb j hj).2
  refine ⟨22, qx_h0 A hs h8 hb H LH (g := fun _ => 0) qa_Ok_0 21 0 22 im (by omega) (by omega) (fun v hv => absurd hv (Nat.not_lt_zero v)) (fun z => p1 ((qa_Im_Ex hL (fun _ => 0)).mpr z)) (fun z im2 _ => p0 (fun q => z ((qa_Im_Ex hL (fun _ => 0)).mp q)) im2)⟩
theorem qx_queryMatches {post : Int32 → St2 → Prop} {p q : Nat} {F : Nat → Nat → Nat → Prop} (A : qa_A 8 c K L R ac ak al ar) (h8 : c 0 ≤ 8) (hb : ∀ j, j < c 0 → K 0 j < 3 ∧ L 0 j < 5 ∧ R 0 j < 5) (H : qa_LK lk F) (hp : p < 21) (hq : q < 21)
    (p1 : qa_Mt (c 0) (K 0) (L 0) (R 0) F 21 p q → ∀ im2 le2 gr2, post 1 (fr, fv, fl, fm, f0, f1, ac, ak, al, ar, lk, im2, le2, gr2)) (p0 : ¬ qa_Mt (c 0) (K 0) (L 0) (R 0) F 21 p q → ∀ im2 le2 gr2, post 0 (fr, fv, fl, fm, f0, f1, ac, ak, al, ar, lk, im2, le2, gr2)) :
    wpX_queryMatches post (fr, fv, fl, fm, f0, f1, ac, ak, al, ar, lk, im, le, gr) (nI p) (nI q) := by
  have hh := qa_Im_head (m := c 0) (K := K 0) (L := L 0) (R := R 0) (F := F) (p := p) (q := q) (h0 := 0) (h1 := 1) (T := 20) (by decide) (by decide) (by omega) (by omega) (fun z => absurd z (by decide))
  unfold wpX_queryMatches
  refine qx_letRoam (T := 20) (by decide) (fun le2 gr2 LH => ?_)
  refine qx_pin (v := 0) (t := p) (lo' := fun w => if w = 0 then p else 0) (hi' := fun w => if w = 0 then p else 20) (by decide) hp LH (fun w => rfl) (fun w => rfl) (fun le3 gr3 LH3 => ?_)
  refine qx_pin (v := 1) (t := q) (lo' := qa_lo p q 0 1) (hi' := qa_hi p q 0 1 20) (by decide) hq LH3 (fun w => rfl) (fun w => rfl) (fun le4 gr4 LH4 => ?_)
  exact qx_hasImage (s := 0) A (by decide) h8 hb H LH4 (fun z im2 => ⟨rfl, p1 (hh.mp z) im2 le4 gr4⟩) (fun z im2 => ⟨rfl, p0 (fun w => z (hh.mpr w)) im2 le4 gr4⟩)
theorem qx_cg18 {post : Int32 → St2 → Prop} {a b T : Nat} {F : Nat → Nat → Nat → Prop} (A : qa_A 8 c K L R ac ak al ar) (h8 : c 1 ≤ 8) (hb : ∀ j, j < c 1 → K 1 j < 3 ∧ L 1 j < 5 ∧ R 1 j < 5) (H : qa_LK lk F) (hT : T < 21) (ha : a ≤ T) (hb' : b ≤ T) (hh0 : h0 < 5) (hh1 : h1 < 5) (hab : h0 = h1 → a = b)
    (p1 : qa_Cd h0 h1 a b (c 1) (K 1) (L 1) (R 1) F (T + 1) → ∀ im2 le2 gr2, post 1 (fr, fv, fl, fm, nI h0, nI h1, ac, ak, al, ar, lk, im2, le2, gr2)) (p0 : ¬ qa_Cd h0 h1 a b (c 1) (K 1) (L 1) (R 1) F (T + 1) → ∀ im2 le2 gr2, post 0 (fr, fv, fl, fm, nI h0, nI h1, ac, ak, al, ar, lk, im2, le2, gr2)) :
    wX_candidateGives_18 post (nI a) (nI b) (nI (T + 1)) fr fv fl fm (nI h0) (nI h1) ac ak al ar lk im le gr := by
  have hh := qa_Im_head (m := c 1) (K := K 1) (L := L 1) (R := R 1) (F := F) (p := a) (q := b) (h0 := h0) (h1 := h1) (T := T) hh0 hh1 ha hb' hab
  unfold wX_candidateGives_18
  refine qx_letRoam (T := T) hT (fun le2 gr2 LH => ?_)
  refine qx_pin (v := h0) (t := a) (lo' := fun w => if w = h0 then a else 0) (hi' := fun w => if w = h0 then a else T) hh0 (by omega) LH (fun w => rfl) (fun w => rfl) (fun le3 gr3 LH3 => ?_)
  refine qx_pin (v := h1) (t := b) (lo' := qa_lo a b h0 h1) (hi' := qa_hi a b h0 h1 T) hh1 (by omega) LH3 (fun w => rfl) (fun w => rfl) (fun le4 gr4 LH4 => ?_)
  exact qx_hasImage (s := 1) A (by decide) h8 hb H LH4 (fun z im2 => ⟨rfl, p1 (hh.mp z) im2 le4 gr4⟩) (fun z im2 => ⟨rfl, p0 (fun w => z (hh.mpr w)) im2 le4 gr4⟩)
theorem qx_candidateGives {post : Int32 → St2 → Prop} {a b T : Nat} {F : Nat → Nat → Nat → Prop} (A : qa_A 8 c K L R ac ak al ar) (h8 : c 1 ≤ 8) (hb : ∀ j, j < c 1 → K 1 j < 3 ∧ L 1 j < 5 ∧ R 1 j < 5) (H : qa_LK lk F) (hT : T < 21) (ha : a ≤ T) (hb' : b ≤ T) (hh0 : h0 < 5) (hh1 : h1 < 5)
    (p1 : qa_Cd h0 h1 a b (c 1) (K 1) (L 1) (R 1) F (T + 1) → ∀ im2 le2 gr2, post 1 (fr, fv, fl, fm, nI h0, nI h1, ac, ak, al, ar, lk, im2, le2, gr2)) (p0 : ¬ qa_Cd h0 h1 a b (c 1) (K 1) (L 1) (R 1) F (T + 1) → ∀ im2 le2 gr2, post 0 (fr, fv, fl, fm, nI h0, nI h1, ac, ak, al, ar, lk, im2, le2, gr2)) :
    wpX_candidateGives post (fr, fv, fl, fm, nI h0, nI h1, ac, ak, al, ar, lk, im, le, gr) (nI a) (nI b) (nI (T + 1)) := by
  refine pk_eq h0 h1 (fun e => pk_eq a b (fun e' => ?_) (fun e' => ?_)) (fun e => ?_)
  · exact qx_cg18 A h8 hb H hT ha hb' hh0 hh1 (fun _ => e') p1 p0
  · refine p0 ?_ im le gr
    rintro ⟨g, z1, z2, _⟩
    rw [e, z2] at z1
    exact e' z1.symm
  · exact qx_cg18 A h8 hb H hT ha hb' hh0 hh1 (fun z => absurd z e) p1 p0
end
