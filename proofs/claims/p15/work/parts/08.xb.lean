/-! the component's links -/
section
variable {rl vw vl rm h0 h1 : Nat} {c : Nat → Nat} {K L R : Nat → Nat → Nat} {fr fv fl fm f0 f1 : Int32} {ac ak al ar lk im le gr : Nat → Int32}
theorem qx_un2 {post : St2 → Prop} (hp : ∀ lk', (∀ j, j < 63 → lk' j = 0) → post (fr, fv, fl, fm, f0, f1, ac, ak, al, ar, lk', im, le, gr)) :
    ∀ d i n (lk : Nat → Int32), i + d = 63 → d < n → (∀ j, j < i → lk j = 0) → wX_unlinkAll_2 post fr fv fl fm f0 f1 n (nI i) ac ak al ar lk im le gr := by
  intro d
  induction d with
  | zero =>
    intro i n lk hi hn hz
    obtain ⟨n, rfl⟩ : ∃ m, n = m + 1 := ⟨n - 1, by omega⟩
    exact br_t (nI_le (a := 63) (by omega) (by omega)) (hp lk (fun j hj => hz j (by omega)))
  | succ d ih =>
    intro i n lk hi hn hz
    obtain ⟨n, rfl⟩ : ∃ m, n = m + 1 := ⟨n - 1, by omega⟩
    refine br_f (nI_ge (b := 63) (by omega) (by decide)) ⟨vp_in_nI (by omega) (by omega), nm_r (e' := upd lk i 0) (by rw [nI_clamp (by omega)]) (nm_r (nI_1 i) (ih (i + 1) n _ (by omega) (by omega) (fun j hj => ?_)))⟩
    by_cases e : j = i
    · subst e; exact pk_us
    · rw [pk_un e]; exact hz j (by omega)
theorem qx_unlinkAll {post : St2 → Prop} (hp : ∀ lk', (∀ j, j < 63 → lk' j = 0) → post (fr, fv, fl, fm, f0, f1, ac, ak, al, ar, lk', im, le, gr)) : wpX_unlinkAll post (fr, fv, fl, fm, f0, f1, ac, ak, al, ar, lk, im, le, gr) :=
  ⟨64, qx_un2 hp 63 0 64 lk (by omega) (by omega) (fun j hj => absurd hj (Nat.not_lt_zero j))⟩
theorem qx_termFor {post : Int32 → Prop} {x p q o : Nat} (hx : x < 4) (hp : post (nI (qa_tf p q (5 + 2 * o) x))) : wpX_termFor post () (nI x) (nI p) (nI q) (nI o) := by
  refine pk_eq x 0 (fun e => ?_) (fun e0 => pk_eq x 1 (fun e => ?_) (fun e1 => ?_))
  · subst e; exact hp
  · subst e; exact hp
  · rw [qa_tf2 (by omega)] at hp
    have e : (5 : Int32) + 2 * nI o + nI x - 2 = nI (5 + 2 * o + (x - 2)) := by
      rw [show (2 : Int32) * nI o = nI (2 * o) from pk_mul 2 o, show (5 : Int32) + nI (2 * o) = nI (5 + 2 * o) from nI_add 5 _, nI_add, show nI (5 + 2 * o + x) - 2 = nI (5 + 2 * o + x - 2) from pk_sub (b := 2) (by omega)]
      exact congrArg nI (by omega)
    rw [e]
    exact hp
theorem qx_link {post : St2 → Prop} {k l r : Nat} {F F' : Nat → Nat → Nat → Prop} (hk : k < 3) (hl : l < 21) (hr : r < 21) (H : qa_LK lk F) (hF : ∀ a b d, F' a b d ↔ (F a b d ∨ (a = k ∧ b = l ∧ d = r)))
    (hp : ∀ lk', qa_LK lk' F' → post (fr, fv, fl, fm, f0, f1, ac, ak, al, ar, lk', im, le, gr)) : wpX_link post (fr, fv, fl, fm, f0, f1, ac, ak, al, ar, lk, im, le, gr) (nI k) (nI l) (nI r) := by
  have e : nI k * 21 + nI l = nI (k * 21 + l) := by rw [show nI k * 21 = nI (k * 21) from pk_mul k 21, nI_add]
  have hin : vp_in (nI k * 21 + nI l) 63 := by rw [e]; exact vp_in_nI (by omega) (by omega)
  have hcl : (nI k * 21 + nI l).toNatClampNeg = k * 21 + l := by rw [e]; exact nI_clamp (by omega)
  exact ⟨hin, hin, nm_r (by rw [hcl]) (hp _ (qa_LK_up hk hl hr H hF))⟩
theorem qa_G_s {m : Nat} {K L R : Nat → Nat} {p q b k x y : Nat} : qa_G (m + 1) K L R p q b k x y ↔ (qa_G m K L R p q b k x y ∨ (k = K m ∧ x = qa_tf p q b (L m) ∧ y = qa_tf p q b (R m))) := by
  constructor
  · rintro ⟨j, hj, e1, e2, e3⟩
    by_cases e : j = m
    · subst e; exact Or.inr ⟨e1.symm, e2.symm, e3.symm⟩
    · exact Or.inl ⟨j, by omega, e1, e2, e3⟩
  · rintro (⟨j, hj, e⟩ | ⟨e1, e2, e3⟩)
    · exact ⟨j, by omega, e⟩
    · exact ⟨m, by omega, e1.symm, e2.symm, e3.symm⟩
theorem qa_G_0 {K L R : Nat → Nat} {p q b k x y : Nat} : ¬ qa_G 0 K L R p q b k x y := fun ⟨j, hj, _⟩ => absurd hj (Nat.not_lt_zero j)
theorem qx_lf25 {post : St2 → Prop} {v p q o : Nat} {F : Nat → Nat → Nat → Prop} (A : qa_A 8 c K L R ac ak al ar) (hv : v < 3) (hc : c (3 + v) ≤ 8) (hb : ∀ j, j < c (3 + v) → K (3 + v) j < 3 ∧ L (3 + v) j < 4 ∧ R (3 + v) j < 4) (hp : p < 5) (hq : q < 5) (ho : o < 8)
    (pp : ∀ lk', qa_LK lk' (fun k x y => F k x y ∨ qa_G (c (3 + v)) (K (3 + v)) (L (3 + v)) (R (3 + v)) p q (5 + 2 * o) k x y) → post (fr, fv, fl, fm, f0, f1, ac, ak, al, ar, lk', im, le, gr)) :
    ∀ d j n (lk : Nat → Int32), j + d = c (3 + v) → d < n → qa_LK lk (fun k x y => F k x y ∨ qa_G j (K (3 + v)) (L (3 + v)) (R (3 + v)) p q (5 + 2 * o) k x y) →
      wX_linkFacts_25 post (nI p) (nI q) (nI o) (nI ((3 + v) * 8 + c (3 + v))) n (nI ((3 + v) * 8 + j)) fr fv fl fm f0 f1 ac ak al ar lk im le gr := by
  intro d
  induction d with
  | zero =>
    intro j n lk hj hn H
    obtain ⟨n, rfl⟩ : ∃ m, n = m + 1 := ⟨n - 1, by omega⟩
    have e : j = c (3 + v) := by omega
    subst e
    exact br_t (nI_le (by omega) (by omega)) (pp lk H)
  | succ d ih =>
    intro j n lk hj hn H
    obtain ⟨n, rfl⟩ : ∃ m, n = m + 1 := ⟨n - 1, by omega⟩
    obtain ⟨e1, e2, e3⟩ := (A (3 + v) (by omega)).2 j (by omega)
    obtain ⟨b1, b2, b3⟩ := hb j (by omega)
    have hcl : (nI ((3 + v) * 8 + j)).toNatClampNeg = (3 + v) * 8 + j := nI_clamp (by omega)
    have hin : vp_in (nI ((3 + v) * 8 + j)) 48 := vp_in_nI (by omega) (by omega)
    refine br_f (nI_ge (by omega) (by omega)) ⟨hin, ?_⟩
    rw [hcl, e1, e2, e3]
    refine qx_termFor b2 ⟨hin, qx_termFor b3 ⟨hin, ?_⟩⟩
    refine qx_link b1 (qa_tf_lt (by omega) (by omega) (by omega) b2) (qa_tf_lt (by omega) (by omega) (by omega) b3) H (fun a b d => ?_) (fun lk' H' => nm_r (qn_s _ _) (ih (j + 1) n lk' (by omega) (by omega) H'))
    rw [qa_G_s]
    exact or_assoc.symm
theorem qx_linkFacts {post : St2 → Prop} {v p q o : Nat} {F F' : Nat → Nat → Nat → Prop} (A : qa_A 8 c K L R ac ak al ar) (hv : v < 3) (hc : c (3 + v) ≤ 8) (hb : ∀ j, j < c (3 + v) → K (3 + v) j < 3 ∧ L (3 + v) j < 4 ∧ R (3 + v) j < 4) (hp : p < 5) (hq : q < 5) (ho : o < 8)
    (H : qa_LK lk F) (hF : ∀ k x y, F' k x y ↔ (F k x y ∨ qa_G (c (3 + v)) (K (3 + v)) (L (3 + v)) (R (3 + v)) p q (5 + 2 * o) k x y)) (pp : ∀ lk', qa_LK lk' F' → post (fr, fv, fl, fm, f0, f1, ac, ak, al, ar, lk', im, le, gr)) :
    wpX_linkFacts post (fr, fv, fl, fm, f0, f1, ac, ak, al, ar, lk, im, le, gr) (nI v) (nI p) (nI q) (nI o) := by
  refine nm_r (e' := nI ((3 + v) * 8)) (by rw [qn_3]; exact pk_mul (3 + v) 8) ⟨by rw [qn_3]; exact vp_in_nI (by omega) (by omega), nm_r (e' := nI ((3 + v) * 8 + c (3 + v))) (by rw [qn_3, nI_clamp (by omega), (A (3 + v) (by omega)).1, nI_add]) ⟨c (3 + v) + 1, ?_⟩⟩
  refine qx_lf25 A hv hc hb hp hq ho (fun lk' H' => pp lk' (qa_LK_cg H' hF)) (c (3 + v)) 0 _ lk (by omega) (by omega) (qa_LK_cg H (fun k x y => ?_))
  exact ⟨fun z => z.elim id (fun q => absurd q qa_G_0), Or.inl⟩
/-- the mask's bit of a view -/
def qa_on (mask : Int32) (V : Nat → Nat) (i : Nat) : Bool := decide ((mask >>> (nI (V i) &&& 31)) &&& 1 = 1)
theorem qa_on_t {mask : Int32} {V : Nat → Nat} {i : Nat} : qa_on mask V i = true ↔ (mask >>> (nI (V i) &&& 31)) &&& 1 = 1 := decide_eq_true_iff
theorem qx_inMask {post : Int32 → Prop} {mask : Int32} {V : Nat → Nat} {i : Nat} (p1 : qa_on mask V i = true → post 1) (p0 : ¬ qa_on mask V i = true → post 0) : wpX_isInMask post () (nI (V i)) mask :=
  br_c (fun h => p1 (qa_on_t.mpr h)) (fun h => p0 (fun z => h (qa_on_t.mp z)))
theorem qx_lfs16 {post : St2 → Prop} {s : Nat} {mask : Int32} (A : qa_A 8 c K L R ac ak al ar) (hs : s < 6) (hc : ∀ s, s < 6 → c s ≤ 8) (hV : ∀ j, j < c s → K s j < 3 ∧ L s j < 5 ∧ R s j < 5) (hb : ∀ v, v < 3 → ∀ j, j < c (3 + v) → K (3 + v) j < 3 ∧ L (3 + v) j < 4 ∧ R (3 + v) j < 4)
    (pp : ∀ lk', qa_LK lk' (qa_FX c K L R (qa_on mask (K s)) (K s) (L s) (R s) (fun i => 5 + 2 * i) (c s)) → post (fr, fv, fl, fm, f0, f1, ac, ak, al, ar, lk', im, le, gr)) :
    ∀ d j n (lk : Nat → Int32), j + d = c s → d < n → qa_LK lk (qa_FX c K L R (qa_on mask (K s)) (K s) (L s) (R s) (fun i => 5 + 2 * i) j) →
      wX_linkFactsOfSection_16 post mask (nI (s * 8)) (nI (c s)) n (nI j) fr fv fl fm f0 f1 ac ak al ar lk im le gr := by
  have h8 := hc s hs
  intro d
  induction d with
  | zero =>
    intro j n lk hj hn H
    obtain ⟨n, rfl⟩ : ∃ m, n = m + 1 := ⟨n - 1, by omega⟩
    have e : j = c s := by omega
    subst e
    exact br_t (nI_le (by omega) (by omega)) (pp lk H)
  | succ d ih =>
    intro j n lk hj hn H
    obtain ⟨n, rfl⟩ : ∃ m, n = m + 1 := ⟨n - 1, by omega⟩
    obtain ⟨e1, e2, e3⟩ := (A s hs).2 j (by omega)
    obtain ⟨b1, b2, b3⟩ := hV j (by omega)
    have hcl : (nI (s * 8 + j)).toNatClampNeg = s * 8 + j := nI_clamp (by omega)
    have hin : vp_in (nI (s * 8 + j)) 48 := vp_in_nI (by omega) (by omega)
    refine br_f (nI_ge (by omega) (by omega)) (nm_r (nI_add (s * 8) j) ⟨hin, ?_⟩)
    rw [hcl, e1, e2, e3]
    refine qx_inMask (V := K s) (i := j) (fun h => br_f qn_10 ⟨hin, hin, hin, ?_⟩) (fun h => br_t rfl (nm_r (nI_1 j) (ih (j + 1) n lk (by omega) (by omega) (qa_LK_cg H (fun k x y => qa_FX_f h)))))
    exact qx_linkFacts A b1 (hc _ (by omega)) (hb _ b1) b2 b3 (by omega) H (fun k x y => qa_FX_t h) (fun lk' H' => nm_r (nI_1 j) (ih (j + 1) n lk' (by omega) (by omega) H'))
theorem qx_linkFactsOfSection {post : St2 → Prop} {s : Nat} {mask : Int32} (A : qa_A 8 c K L R ac ak al ar) (hs : s < 6) (hc : ∀ s, s < 6 → c s ≤ 8) (hV : ∀ j, j < c s → K s j < 3 ∧ L s j < 5 ∧ R s j < 5) (hb : ∀ v, v < 3 → ∀ j, j < c (3 + v) → K (3 + v) j < 3 ∧ L (3 + v) j < 4 ∧ R (3 + v) j < 4)
    (hz : ∀ j, j < 63 → lk j = 0) (pp : ∀ lk', qa_LK lk' (qa_FX c K L R (qa_on mask (K s)) (K s) (L s) (R s) (fun i => 5 + 2 * i) (c s)) → post (fr, fv, fl, fm, f0, f1, ac, ak, al, ar, lk', im, le, gr)) :
    wpX_linkFactsOfSection post (fr, fv, fl, fm, f0, f1, ac, ak, al, ar, lk, im, le, gr) (nI s) mask := by
  have h8 := hc s hs
  refine nm_r (pk_mul s 8) ⟨vp_in_nI (by omega) (by omega), nm_r (e' := nI (c s)) (by rw [nI_clamp (by omega), (A s hs).1]) ⟨c s + 1, ?_⟩⟩
  exact qx_lfs16 A hs hc hV hb pp (c s) 0 (c s + 1) lk (by omega) (by omega) (qa_LK_0 hz (fun _ _ _ => qa_FX_0))
theorem qx_lr14 {post : St2 → Prop} (A : qa_A 8 c K L R ac ak al ar) (h8 : c 2 ≤ 8) (hV : ∀ j, j < c 2 → K 2 j < 3 ∧ L 2 j < 5 ∧ R 2 j < 5)
    (pp : ∀ lk', qa_LK lk' (qa_In (c 2) (K 2) (L 2) (R 2)) → post (fr, fv, fl, fm, f0, f1, ac, ak, al, ar, lk', im, le, gr)) :
    ∀ d j n (lk : Nat → Int32), j + d = c 2 → d < n → qa_LK lk (qa_In j (K 2) (L 2) (R 2)) → wX_linkRows_14 post (nI (16 + c 2)) n (nI (16 + j)) fr fv fl fm f0 f1 ac ak al ar lk im le gr := by
  intro d
  induction d with
  | zero =>
    intro j n lk hj hn H
    obtain ⟨n, rfl⟩ : ∃ m, n = m + 1 := ⟨n - 1, by omega⟩
    have e : j = c 2 := by omega
    subst e
    exact br_t (nI_le (by omega) (by omega)) (pp lk H)
  | succ d ih =>
    intro j n lk hj hn H
    obtain ⟨n, rfl⟩ : ∃ m, n = m + 1 := ⟨n - 1, by omega⟩
    obtain ⟨e1, e2, e3⟩ := (A 2 (by decide)).2 j (by omega)
    obtain ⟨b1, b2, b3⟩ := hV j (by omega)
    have hcl : (nI (16 + j)).toNatClampNeg = 2 * 8 + j := nI_clamp (by omega)
    have hin : vp_in (nI (16 + j)) 48 := vp_in_nI (by omega) (by omega)
    refine br_f (nI_ge (by omega) (by omega)) ⟨hin, hin, hin, ?_⟩
    rw [hcl, e1, e2, e3]
    refine qx_link b1 (by omega) (by omega) H (fun a b d => ?_) (fun lk' H' => nm_r (qn_s _ _) (ih (j + 1) n lk' (by omega) (by omega) H'))
    constructor
    · rintro ⟨i, hi, z1, z2, z3⟩
      by_cases e : i = j
      · subst e; exact Or.inr ⟨z1.symm, z2.symm, z3.symm⟩
      · exact Or.inl ⟨i, by omega, z1, z2, z3⟩
    · rintro (⟨i, hi, z⟩ | ⟨z1, z2, z3⟩)
      · exact ⟨i, by omega, z⟩
      · exact ⟨j, by omega, z1.symm, z2.symm, z3.symm⟩
theorem qx_linkRows {post : St2 → Prop} (A : qa_A 8 c K L R ac ak al ar) (h8 : c 2 ≤ 8) (hV : ∀ j, j < c 2 → K 2 j < 3 ∧ L 2 j < 5 ∧ R 2 j < 5) (hz : ∀ j, j < 63 → lk j = 0)
    (pp : ∀ lk', qa_LK lk' (qa_In (c 2) (K 2) (L 2) (R 2)) → post (fr, fv, fl, fm, f0, f1, ac, ak, al, ar, lk', im, le, gr)) : wpX_linkRows post (fr, fv, fl, fm, f0, f1, ac, ak, al, ar, lk, im, le, gr) := by
  refine nm_r (e' := nI (16 + c 2)) (by rw [(A 2 (by decide)).1]; exact nI_add 16 _) ⟨c 2 + 1, ?_⟩
  exact qx_lr14 A h8 hV pp (c 2) 0 (c 2 + 1) lk (by omega) (by omega) (qa_LK_0 hz (fun _ _ _ ⟨j, hj, _⟩ => absurd hj (Nat.not_lt_zero j)))
/-! the interval of each variable -/
def qa_LH (le gr : Nat → Int32) (lo hi : Nat → Nat) : Prop := ∀ v, v < 5 → le v = nI (lo v) ∧ gr v = nI (hi v) ∧ hi v < 21 ∧ lo v < 21
theorem qx_ro2 {post : St2 → Prop} {T : Nat} (hT : T < 21) (hp : ∀ le' gr', qa_LH le' gr' (fun _ => 0) (fun _ => T) → post (fr, fv, fl, fm, f0, f1, ac, ak, al, ar, lk, im, le', gr')) :
    ∀ d i n (le gr : Nat → Int32), i + d = 5 → d < n → (∀ v, v < i → le v = 0 ∧ gr v = nI T) → wX_letRoam_2 post (nI (T + 1)) fr fv fl fm f0 f1 n (nI i) ac ak al ar lk im le gr := by
  intro d
  induction d with
  | zero =>
    intro i n le gr hi hn hz
    obtain ⟨n, rfl⟩ : ∃ m, n = m + 1 := ⟨n - 1, by omega⟩
    exact br_t (nI_le (a := 5) (by omega) (by omega)) (hp le gr (fun v hv => ⟨(hz v (by omega)).1, (hz v (by omega)).2, hT, (by decide : 0 < 21)⟩))
  | succ d ih =>
    intro i n le gr hi hn hz
    obtain ⟨n, rfl⟩ : ∃ m, n = m + 1 := ⟨n - 1, by omega⟩
    have hcl : (nI i).toNatClampNeg = i := nI_clamp (by omega)
    have hin : vp_in (nI i) 5 := vp_in_nI (by omega) (by omega)
    refine br_f (nI_ge (b := 5) (by omega) (by decide)) ⟨hin, nm_r (e' := upd le i 0) (by rw [hcl]) ⟨hin, nm_r (e' := upd gr i (nI T)) (by rw [hcl, nI_pred]) (nm_r (nI_1 i) (ih (i + 1) n _ _ (by omega) (by omega) (fun v hv => ?_)))⟩⟩
    by_cases e : v = i
    · subst e; exact ⟨pk_us, pk_us⟩
    · rw [pk_un e, pk_un e]; exact hz v (by omega)
theorem qx_letRoam {post : St2 → Prop} {T : Nat} (hT : T < 21) (hp : ∀ le' gr', qa_LH le' gr' (fun _ => 0) (fun _ => T) → post (fr, fv, fl, fm, f0, f1, ac, ak, al, ar, lk, im, le', gr')) : wpX_letRoam post (fr, fv, fl, fm, f0, f1, ac, ak, al, ar, lk, im, le, gr) (nI (T + 1)) :=
  ⟨6, qx_ro2 hT hp 5 0 6 le gr (by omega) (by omega) (fun v hv => absurd hv (Nat.not_lt_zero v))⟩
theorem qx_pin {post : St2 → Prop} {lo hi lo' hi' : Nat → Nat} {v t : Nat} (hv : v < 5) (ht : t < 21) (H : qa_LH le gr lo hi) (hl : ∀ w, lo' w = if w = v then t else lo w) (hh : ∀ w, hi' w = if w = v then t else hi w)
    (hp : ∀ le' gr', qa_LH le' gr' lo' hi' → post (fr, fv, fl, fm, f0, f1, ac, ak, al, ar, lk, im, le', gr')) : wpX_pin post (fr, fv, fl, fm, f0, f1, ac, ak, al, ar, lk, im, le, gr) (nI v) (nI t) := by
  have hcl : (nI v).toNatClampNeg = v := nI_clamp (by omega)
  have hin : vp_in (nI v) 5 := vp_in_nI (by omega) (by omega)
  refine ⟨hin, nm_r (e' := upd le v (nI t)) (by rw [hcl]) ⟨hin, nm_r (e' := upd gr v (nI t)) (by rw [hcl]) (hp _ _ (fun w hw => ?_))⟩⟩
  rw [hl, hh]
  by_cases e : w = v
  · subst e
    rw [pk_us, pk_us, if_pos rfl, if_pos rfl]
    exact ⟨rfl, rfl, ht, ht⟩
  · rw [pk_un e, pk_un e, if_neg e, if_neg e]
    exact H w hw
end
