/-! the reference's carried, vouch, matches, spread -/
section
variable {rl vw vl rm h0 h1 : Nat} {c : Nat → Nat} {K L R : Nat → Nat → Nat} {yr yv yl ym y0 y1 yt : Int32} {bc bk bx bw bf bg : Nat → Int32}
/-- a section of the reference's arrays as a set -/
def qa_S (bc bk bx bw : Nat → Int32) (s m : Nat) (K L R : Nat → Nat) : Prop :=
  bc s = nI m ∧ m ≤ 24 ∧ ∀ j, j < m → (bk (s * 24 + j) = nI (K j) ∧ bx (s * 24 + j) = nI (L j) ∧ bw (s * 24 + j) = nI (R j)) ∧ (K j < 1000 ∧ L j < 1000 ∧ R j < 1000)
theorem qa_S_A (W : qa_W rl vw vl rm h0 h1 c K L R) (B : qa_A 24 c K L R bc bk bx bw) {s : Nat} (hs : s < 6) : qa_S bc bk bx bw s (c s) (K s) (L s) (R s) :=
  ⟨(B s hs).1, Nat.le_trans (qa_W_c W hs) (by decide), fun j hj => ⟨(B s hs).2 j hj, qa_W_1000 W hs j hj⟩⟩
theorem qy_ca5 {post : Int32 → Prop} {s t m m' T : Nat} {K L R K' L' R' : Nat → Nat} {g : Nat → Nat} (hs : s < 7) (ht : t < 7) (S : qa_S bc bk bx bw s m K L R) (S' : qa_S bc bk bx bw t m' K' L' R') (hT : T ≤ 5) (hL : ∀ j, j < m → L j < T ∧ R j < T)
    (hg : ∀ v, v < T → bf v = nI (g v) ∧ g v < 1000) :
    ∀ d j n, j + d = m → d < n → ((∀ i, j ≤ i → i < m → qa_In m' K' L' R' (K i) (g (L i)) (g (R i))) → post 1) → ((¬ ∀ i, j ≤ i → i < m → qa_In m' K' L' R' (K i) (g (L i)) (g (R i))) → post 0) →
      wY_carried_5 post (nI s) (nI t) yr yv yl ym y0 y1 yt bc bk bx bw bf bg n (nI (s * 24 + j)) := by
  obtain ⟨c1, c2, c3⟩ := S
  obtain ⟨c1', c2', c3'⟩ := S'
  have hins : vp_in (nI s) 7 := vp_in_nI (by omega) (by omega)
  have hend : nI s * 24 + bc (nI s).toNatClampNeg = nI (s * 24 + m) := by
    rw [nI_clamp (by omega), c1, show nI s * 24 = nI (s * 24) from pk_mul s 24, nI_add]
  intro d
  induction d with
  | zero =>
    intro j n hj hn p1 p0
    obtain ⟨n, rfl⟩ : ∃ m, n = m + 1 := ⟨n - 1, by omega⟩
    exact ⟨hins, br_t (by rw [hend]; exact nI_le (by omega) (by omega)) (p1 (fun i h1 h2 => absurd h1 (by omega)))⟩
  | succ d ih =>
    intro j n hj hn p1 p0
    obtain ⟨n, rfl⟩ : ∃ m, n = m + 1 := ⟨n - 1, by omega⟩
    obtain ⟨⟨e1, e2, e3⟩, b1, b2, b3⟩ := c3 j (by omega)
    obtain ⟨l1, l2⟩ := hL j (by omega)
    obtain ⟨g1, g2⟩ := hg _ l1
    obtain ⟨g3, g4⟩ := hg _ l2
    have hcl : (nI (s * 24 + j)).toNatClampNeg = s * 24 + j := nI_clamp (by omega)
    have hin : vp_in (nI (s * 24 + j)) 168 := vp_in_nI (by omega) (by omega)
    refine ⟨hins, br_f (by rw [hend]; exact nI_ge (by omega) (by omega)) ⟨hin, hin, ?_⟩⟩
    rw [hcl, e1, e2, e3, nI_clamp (show L j < 2 ^ 31 by omega), nI_clamp (show R j < 2 ^ 31 by omega), g1, g3]
    refine ⟨vp_in_nI (by omega) (by omega), hin, vp_in_nI (by omega) (by omega), ?_⟩
    refine qy_find ht c2' c1' (fun j hj => (c3' j hj).1) (fun j hj => (c3' j hj).2) b1 g2 g4 (fun i hi => br_t (nI_pos' ?_) (nm_r (qn_s _ _) (ih (j + 1) n (by omega) (by omega) (fun z => p1 (fun i' q1 q2 => ?_)) (fun z => p0 (fun q => z (fun i' q1 q2 => q i' (by omega) q2)))))) (fun hn => br_f (by decide) (p0 (fun q => qa_fd_nin hn (q j (by omega) (by omega)))))
    · have := (qa_fd_some _ _ _ hi).2.1
      omega
    · by_cases e : i' = j
      · subst e; exact qa_in_fd hi
      · exact z i' (by omega) q2
theorem qy_carried {post : Int32 → Prop} {s t m m' T : Nat} {K L R K' L' R' : Nat → Nat} {g : Nat → Nat} (hs : s < 7) (ht : t < 7) (S : qa_S bc bk bx bw s m K L R) (S' : qa_S bc bk bx bw t m' K' L' R') (hT : T ≤ 5) (hL : ∀ j, j < m → L j < T ∧ R j < T)
    (hg : ∀ v, v < T → bf v = nI (g v) ∧ g v < 1000) (p1 : qa_Ca m K L R (qa_In m' K' L' R') g → post 1) (p0 : ¬ qa_Ca m K L R (qa_In m' K' L' R') g → post 0) :
    wpY_carried post (yr, yv, yl, ym, y0, y1, yt, bc, bk, bx, bw, bf, bg) (nI s) (nI t) :=
  nm_r (pk_mul s 24) ⟨m + 1, qy_ca5 hs ht S S' hT hL hg m 0 (m + 1) (by omega) (by omega) (fun z => p1 (fun j hj => z j (Nat.zero_le _) hj)) (fun z => p0 (fun q => z (fun i _ h2 => q i h2)))⟩
/-! vouch -/
theorem qy_vo58 {post : SY → Prop} {v p q b n0 : Nat} {F : Nat → Nat → Nat → Prop} (W : qa_W rl vw vl rm h0 h1 c K L R) (hv : v < 3) (hp : p < 900) (hq : q < 900) (hb : b < 900) (hn0 : n0 + c (3 + v) ≤ 24)
    (f0 : bf 0 = nI p) (f1 : bf 1 = nI q) (f2 : bf 2 = nI b) (f3 : bf 3 = nI (b + 1))
    (pp : ∀ bc2 bk2 bx2 bw2, qa_A 24 c K L R bc2 bk2 bx2 bw2 → qa_YF bc2 bk2 bx2 bw2 (n0 + c (3 + v)) (fun k x y => F k x y ∨ qa_G (c (3 + v)) (K (3 + v)) (L (3 + v)) (R (3 + v)) p q b k x y) → post (yr, yv, yl, ym, y0, y1, yt, bc2, bk2, bx2, bw2, bf, bg)) :
    ∀ d j n (bc bk bx bw : Nat → Int32), j + d = c (3 + v) → d < n → qa_A 24 c K L R bc bk bx bw → qa_YF bc bk bx bw (n0 + j) (fun k x y => F k x y ∨ qa_G j (K (3 + v)) (L (3 + v)) (R (3 + v)) p q b k x y) →
      wY_vouch_58 post (nI v) (nI ((3 + v) * 24)) n (nI ((3 + v) * 24 + j)) yr yv yl ym y0 y1 yt bc bk bx bw bf bg := by
  have hf : ∀ x, x < 4 → bf x = nI (qa_tf p q b x) ∧ qa_tf p q b x < 1000 := fun x hx =>
    match x, hx with
    | 0, _ => ⟨f0, (by omega : p < 1000)⟩
    | 1, _ => ⟨f1, (by omega : q < 1000)⟩
    | 2, _ => ⟨f2, (by omega : b < 1000)⟩
    | 3, _ => ⟨f3, (by omega : b + 1 < 1000)⟩
  intro d
  induction d with
  | zero =>
    intro j n bc bk bx bw hj hn B Y
    obtain ⟨n, rfl⟩ : ∃ m, n = m + 1 := ⟨n - 1, by omega⟩
    have e : j = c (3 + v) := by omega
    subst e
    refine ⟨by rw [qn_3]; exact vp_in_nI (by omega) (by omega), br_t ?_ (pp bc bk bx bw B Y)⟩
    rw [qn_3, nI_clamp (by omega), (B (3 + v) (by omega)).1, nI_add]
    exact nI_le (by omega) (by omega)
  | succ d ih =>
    intro j n bc bk bx bw hj hn B Y
    obtain ⟨n, rfl⟩ : ∃ m, n = m + 1 := ⟨n - 1, by omega⟩
    obtain ⟨e1, e2, e3⟩ := (B (3 + v) (by omega)).2 j (by omega)
    obtain ⟨b1, b2, b3⟩ := qa_W_v W v hv j (by omega)
    obtain ⟨g1, g2⟩ := hf _ b2
    obtain ⟨g3, g4⟩ := hf _ b3
    have hcl : (nI ((3 + v) * 24 + j)).toNatClampNeg = (3 + v) * 24 + j := nI_clamp (by omega)
    have hin : vp_in (nI ((3 + v) * 24 + j)) 168 := vp_in_nI (by omega) (by omega)
    refine ⟨by rw [qn_3]; exact vp_in_nI (by omega) (by omega), br_f ?_ ⟨hin, hin, ?_⟩⟩
    · rw [qn_3, nI_clamp (by omega), (B (3 + v) (by omega)).1, nI_add]
      exact nI_ge (by omega) (by omega)
    · rw [hcl, e1, e2, e3, nI_clamp (show L (3 + v) j < 2 ^ 31 by omega), nI_clamp (show R (3 + v) j < 2 ^ 31 by omega), g1, g3]
      refine ⟨vp_in_nI (by omega) (by omega), hin, vp_in_nI (by omega) (by omega), ?_⟩
      refine qy_add (s := 6) (m := n0 + j) (by decide) (by omega) Y.1 (nm_r (qn_s _ _) (ih (j + 1) n _ _ _ _ (by omega) (by omega) (qa_A_6 (qa_W_8 W) B) (qa_YF_add (by omega) g2 g4 Y (fun k x y => ?_))))
      rw [qa_G_s]
      exact or_assoc.symm
theorem qy_vouch {post : SY → Prop} {v p q b n0 : Nat} {F F' : Nat → Nat → Nat → Prop} (W : qa_W rl vw vl rm h0 h1 c K L R) (B : qa_A 24 c K L R bc bk bx bw) (hv : v < 3) (hp : p < 900) (hq : q < 900) (hb : b < 900) (hn0 : n0 + c (3 + v) ≤ 24)
    (Y : qa_YF bc bk bx bw n0 F) (hF : ∀ k x y, F' k x y ↔ (F k x y ∨ qa_G (c (3 + v)) (K (3 + v)) (L (3 + v)) (R (3 + v)) p q b k x y))
    (pp : ∀ bc2 bk2 bx2 bw2 bf2, qa_A 24 c K L R bc2 bk2 bx2 bw2 → qa_YF bc2 bk2 bx2 bw2 (n0 + c (3 + v)) F' → post (yr, yv, yl, ym, y0, y1, nI (b + 2), bc2, bk2, bx2, bw2, bf2, bg)) :
    wpY_vouch post (yr, yv, yl, ym, y0, y1, nI b, bc, bk, bx, bw, bf, bg) (nI v) (nI p) (nI q) := by
  refine nm_e (nm_e (nm_e (nm_r (by rw [nI_1]) (nm_r (nI_add b 2) (nm_r (e' := nI ((3 + v) * 24)) (by rw [qn_3]; exact pk_mul (3 + v) 24) ⟨c (3 + v) + 1, ?_⟩)))))
  refine qy_vo58 W hv hp hq hb hn0 ?_ ?_ ?_ ?_ (fun bc2 bk2 bx2 bw2 B2 Y2 => pp bc2 bk2 bx2 bw2 _ B2 (qa_YF_cg Y2 hF)) (c (3 + v)) 0 (c (3 + v) + 1) bc bk bx bw (by omega) (by omega) B (qa_YF_cg Y (fun k x y => ?_))
  · rw [pk_un (by decide), pk_un (by decide), pk_un (by decide), pk_us]
  · rw [pk_un (by decide), pk_un (by decide), pk_us]
  · rw [pk_un (by decide), pk_us]
  · rw [pk_us]
  · exact ⟨fun z => z.elim id (fun q => absurd q qa_G_0), Or.inl⟩
/-! matches -/
theorem qy_m39 {post : Int32 → SY → Prop} {J16 J27 : _} {p q T a b m' : Nat} {K' L' R' : Nat → Nat} (W : qa_W rl vw vl rm h0 h1 c K L R) (B : qa_A 24 c K L R bc bk bx bw) (S : qa_S bc bk bx bw 6 m' K' L' R') (hT : T < 900) (hp : p < 900) (hq : q < 900) (ha : a < T) (hb : b < T) :
    ∀ d e n (bf : Nat → Int32), e + d = T → d < n → bf 0 = nI p → bf 1 = nI q →
      (qa_E3 (fun a b e => qa_Ca (c 0) (K 0) (L 0) (R 0) (qa_In m' K' L' R') (qa_g5 p q a b e)) T a b e → ∀ bf2, post 1 (yr, yv, yl, ym, y0, y1, nI T, bc, bk, bx, bw, bf2, bg)) →
      (¬ qa_E3 (fun a b e => qa_Ca (c 0) (K 0) (L 0) (R 0) (qa_In m' K' L' R') (qa_g5 p q a b e)) T a b e → ∀ bf2, bf2 0 = nI p → bf2 1 = nI q → J27 (nI (b + 1)) bc bk bx bw bf2 bg) →
      wY_matches_39 post J16 J27 (nI a) (nI b) yr yv yl ym y0 y1 (nI T) n (nI e) bc bk bx bw bf bg := by
  have hL : ∀ j, j < c 0 → L 0 j < 5 ∧ R 0 j < 5 := fun j hj => (qa_W_b W (by decide) j hj).2
  intro d
  induction d with
  | zero =>
    intro e n bf he hn i0 i1 p1 p0
    obtain ⟨n, rfl⟩ : ∃ m, n = m + 1 := ⟨n - 1, by omega⟩
    exact br_t (nI_le (by omega) (by omega)) (nm_r (nI_1 b) (p0 (qa_ex_no (by omega)) bf i0 i1))
  | succ d ih =>
    intro e n bf he hn i0 i1 p1 p0
    obtain ⟨n, rfl⟩ : ∃ m, n = m + 1 := ⟨n - 1, by omega⟩
    have k0 : upd (upd (upd bf 2 (nI a)) 3 (nI b)) 4 (nI e) 0 = nI p := by rw [pk_un (by decide), pk_un (by decide), pk_un (by decide)]; exact i0
    have k1 : upd (upd (upd bf 2 (nI a)) 3 (nI b)) 4 (nI e) 1 = nI q := by rw [pk_un (by decide), pk_un (by decide), pk_un (by decide)]; exact i1
    have k2 : upd (upd (upd bf 2 (nI a)) 3 (nI b)) 4 (nI e) 2 = nI a := by rw [pk_un (by decide), pk_un (by decide), pk_us]
    have k3 : upd (upd (upd bf 2 (nI a)) 3 (nI b)) 4 (nI e) 3 = nI b := by rw [pk_un (by decide), pk_us]
    have hg : ∀ w, w < 5 → upd (upd (upd bf 2 (nI a)) 3 (nI b)) 4 (nI e) w = nI (qa_g5 p q a b e w) ∧ qa_g5 p q a b e w < 1000 := qa_5 ⟨k0, (by omega : p < 1000)⟩ ⟨k1, (by omega : q < 1000)⟩ ⟨k2, (by omega : a < 1000)⟩ ⟨k3, (by omega : b < 1000)⟩ ⟨pk_us, (by omega : e < 1000)⟩
    refine br_f (nI_ge (by omega) (by omega)) (nm_e (nm_e (nm_e ?_)))
    refine qy_carried (s := 0) (t := 6) (by decide) (by decide) (qa_S_A W B (by decide)) S (Nat.le_refl 5) hL hg (fun z => br_f qn_10 (p1 ⟨e, Nat.le_refl _, by omega, z⟩ _)) (fun z => br_t rfl (nm_r (nI_1 e) (ih (e + 1) n _ (by omega) (by omega) k0 k1 (fun w => p1 ((qa_ex_s (by omega)).mpr (Or.inr w))) (fun w => p0 (fun y => ?_)))))
    rcases (qa_ex_s (by omega)).mp y with y | y
    · exact z y
    · exact w y
theorem qy_m27 {post : Int32 → SY → Prop} {J16 : _} {p q T a m' : Nat} {K' L' R' : Nat → Nat} (W : qa_W rl vw vl rm h0 h1 c K L R) (B : qa_A 24 c K L R bc bk bx bw) (S : qa_S bc bk bx bw 6 m' K' L' R') (hT : T < 900) (hp : p < 900) (hq : q < 900) (ha : a < T) :
    ∀ d b n (bf : Nat → Int32), b + d = T → d < n → bf 0 = nI p → bf 1 = nI q →
      (qa_E2 (fun a b e => qa_Ca (c 0) (K 0) (L 0) (R 0) (qa_In m' K' L' R') (qa_g5 p q a b e)) T a b → ∀ bf2, post 1 (yr, yv, yl, ym, y0, y1, nI T, bc, bk, bx, bw, bf2, bg)) →
      (¬ qa_E2 (fun a b e => qa_Ca (c 0) (K 0) (L 0) (R 0) (qa_In m' K' L' R') (qa_g5 p q a b e)) T a b → ∀ bf2, bf2 0 = nI p → bf2 1 = nI q → J16 (nI (a + 1)) bc bk bx bw bf2 bg) →
      wY_matches_27 post J16 (nI a) yr yv yl ym y0 y1 (nI T) n (nI b) bc bk bx bw bf bg := by
  intro d
  induction d with
  | zero =>
    intro b n bf he hn i0 i1 p1 p0
    obtain ⟨n, rfl⟩ : ∃ m, n = m + 1 := ⟨n - 1, by omega⟩
    exact br_t (nI_le (by omega) (by omega)) (nm_r (nI_1 a) (p0 (qa_ex_no (by omega)) bf i0 i1))
  | succ d ih =>
    intro b n bf he hn i0 i1 p1 p0
    obtain ⟨n, rfl⟩ : ∃ m, n = m + 1 := ⟨n - 1, by omega⟩
    refine br_f (nI_ge (by omega) (by omega)) ⟨T + 1, ?_⟩
    refine qy_m39 W B S hT hp hq ha (by omega) T 0 (T + 1) bf (by omega) (by omega) i0 i1 (fun w => p1 ((qa_ex_s (by omega)).mpr (Or.inl w))) (fun w bf2 j0 j1 => ih (b + 1) n bf2 (by omega) (by omega) j0 j1 (fun y => p1 ((qa_ex_s (by omega)).mpr (Or.inr y))) (fun y => p0 (fun x => ?_)))
    rcases (qa_ex_s (by omega)).mp x with x | x
    · exact w x
    · exact y x
theorem qy_m16 {post : Int32 → SY → Prop} {p q T m' : Nat} {K' L' R' : Nat → Nat} (W : qa_W rl vw vl rm h0 h1 c K L R) (B : qa_A 24 c K L R bc bk bx bw) (S : qa_S bc bk bx bw 6 m' K' L' R') (hT : T < 900) (hp : p < 900) (hq : q < 900) :
    ∀ d a n (bf : Nat → Int32), a + d = T → d < n → bf 0 = nI p → bf 1 = nI q →
      (qa_E1 (fun a b e => qa_Ca (c 0) (K 0) (L 0) (R 0) (qa_In m' K' L' R') (qa_g5 p q a b e)) T a → ∀ bf2, post 1 (yr, yv, yl, ym, y0, y1, nI T, bc, bk, bx, bw, bf2, bg)) →
      (¬ qa_E1 (fun a b e => qa_Ca (c 0) (K 0) (L 0) (R 0) (qa_In m' K' L' R') (qa_g5 p q a b e)) T a → ∀ bf2, post 0 (yr, yv, yl, ym, y0, y1, nI T, bc, bk, bx, bw, bf2, bg)) →
      wY_matches_16 post yr yv yl ym y0 y1 (nI T) n (nI a) bc bk bx bw bf bg := by
  intro d
  induction d with
  | zero =>
    intro a n bf he hn i0 i1 p1 p0
    obtain ⟨n, rfl⟩ : ∃ m, n = m + 1 := ⟨n - 1, by omega⟩
    exact br_t (nI_le (by omega) (by omega)) (p0 (qa_ex_no (by omega)) bf)
  | succ d ih =>
    intro a n bf he hn i0 i1 p1 p0
    obtain ⟨n, rfl⟩ : ∃ m, n = m + 1 := ⟨n - 1, by omega⟩
    refine br_f (nI_ge (by omega) (by omega)) ⟨T + 1, ?_⟩
    refine qy_m27 W B S hT hp hq (by omega) T 0 (T + 1) bf (by omega) (by omega) i0 i1 (fun w => p1 ((qa_ex_s (by omega)).mpr (Or.inl w))) (fun w bf2 j0 j1 => ih (a + 1) n bf2 (by omega) (by omega) j0 j1 (fun y => p1 ((qa_ex_s (by omega)).mpr (Or.inr y))) (fun y => p0 (fun x => ?_)))
    rcases (qa_ex_s (by omega)).mp x with x | x
    · exact w x
    · exact y x
theorem qy_matches {post : Int32 → SY → Prop} {p q T n0 : Nat} {F : Nat → Nat → Nat → Prop} (W : qa_W rl vw vl rm h0 h1 c K L R) (B : qa_A 24 c K L R bc bk bx bw) (Y : qa_YF bc bk bx bw n0 F) (hn0 : n0 ≤ 24) (hT : T < 900) (hp : p < T) (hq : q < T)
    (p1 : qa_Mt (c 0) (K 0) (L 0) (R 0) F T p q → ∀ bf2, post 1 (yr, yv, yl, ym, y0, y1, nI T, bc, bk, bx, bw, bf2, bg)) (p0 : ¬ qa_Mt (c 0) (K 0) (L 0) (R 0) F T p q → ∀ bf2, post 0 (yr, yv, yl, ym, y0, y1, nI T, bc, bk, bx, bw, bf2, bg)) :
    wpY_matches post (yr, yv, yl, ym, y0, y1, nI T, bc, bk, bx, bw, bf, bg) (nI p) (nI q) := by
  have hL : ∀ j, j < c 0 → L 0 j < 5 ∧ R 0 j < 5 := fun j hj => (qa_W_b W (by decide) j hj).2
  obtain ⟨y1, K', L', R', y2, y3⟩ := Y
  have S : qa_S bc bk bx bw 6 n0 K' L' R' := ⟨y1, hn0, fun j hj => ⟨⟨(y2 j hj).1, (y2 j hj).2.1, (y2 j hj).2.2.1⟩, (y2 j hj).2.2.2⟩⟩
  have eF : F = qa_In n0 K' L' R' := funext fun k => funext fun x => funext fun y => propext (y3 k x y)
  subst eF
  refine nm_e (nm_e ⟨T + 1, ?_⟩)
  exact qy_m16 W B S hT (by omega) (by omega) T 0 (T + 1) _ (by omega) (by omega) ((pk_un (by decide)).trans pk_us) pk_us (fun z => p1 ((qa_M3 hL hp hq).mpr z)) (fun z => p0 (fun w => z ((qa_M3 hL hp hq).mp w)))
/-! spread -/
theorem qy_sp4 {post : SY → Prop} {code : Nat} (hc : code < 3125) (pp : ∀ bf2 bg2, (∀ v, v < 5 → bf2 v = nI (qa_dg code v) ∧ bg2 v = nI (qa_dg code v)) → post (yr, yv, yl, ym, y0, y1, yt, bc, bk, bx, bw, bf2, bg2)) :
    ∀ d i n (bf bg : Nat → Int32), i + d = 5 → d < n → (∀ v, v < i → bf v = nI (qa_dg code v) ∧ bg v = nI (qa_dg code v)) → wY_spread_4 post yr yv yl ym y0 y1 yt n (nI (code / 5 ^ i)) (nI i) bc bk bx bw bf bg := by
  have h5 : ¬ (5 : Int32) = 0 := by decide
  intro d
  induction d with
  | zero =>
    intro i n bf bg hi hn hz
    obtain ⟨n, rfl⟩ : ∃ m, n = m + 1 := ⟨n - 1, by omega⟩
    exact br_t (nI_le (a := 5) (by omega) (by omega)) (pp bf bg (fun v hv => hz v (by omega)))
  | succ d ih =>
    intro i n bf bg hi hn hz
    obtain ⟨n, rfl⟩ : ∃ m, n = m + 1 := ⟨n - 1, by omega⟩
    have hcl : (nI i).toNatClampNeg = i := nI_clamp (by omega)
    have hin : vp_in (nI i) 5 := vp_in_nI (by omega) (by omega)
    have hlt : code / 5 ^ i < 2 ^ 31 := Nat.lt_of_le_of_lt (Nat.div_le_self _ _) (by omega)
    have erem : nI (code / 5 ^ i) - nI (code / 5 ^ i) / 5 * 5 = nI (qa_dg code i) := pk_rem (d := 5) hlt (by decide) (by decide)
    have ediv : nI (code / 5 ^ i) / 5 = nI (code / 5 ^ (i + 1)) := by
      have e := pk_div (a := code / 5 ^ i) (d := 5) hlt (by decide) (by decide)
      rw [Nat.div_div_eq_div_mul, ← Nat.pow_succ] at e
      exact e
    refine br_f (nI_ge (b := 5) (by omega) (by decide)) ⟨h5, hin, nm_r (e' := upd bf i (nI (qa_dg code i))) (by rw [hcl, erem]) ⟨hin, hin, nm_r (e' := upd bg i (nI (qa_dg code i))) (by rw [hcl, pk_us]) ⟨h5, nm_r ediv (nm_r (nI_1 i) (ih (i + 1) n _ _ (by omega) (by omega) (fun v hv => ?_)))⟩⟩⟩
    by_cases e : v = i
    · subst e; exact ⟨pk_us, pk_us⟩
    · rw [pk_un e, pk_un e]; exact hz v (by omega)
theorem qy_spread {post : SY → Prop} {code : Nat} (hc : code < 3125) (pp : ∀ bf2 bg2, (∀ v, v < 5 → bf2 v = nI (qa_dg code v) ∧ bg2 v = nI (qa_dg code v)) → post (yr, yv, yl, ym, y0, y1, yt, bc, bk, bx, bw, bf2, bg2)) : wpY_spread post (yr, yv, yl, ym, y0, y1, yt, bc, bk, bx, bw, bf, bg) (nI code) := by
  refine ⟨6, ?_⟩
  have := qy_sp4 (yr := yr) (yv := yv) (yl := yl) (ym := ym) (y0 := y0) (y1 := y1) (yt := yt) (bc := bc) (bk := bk) (bx := bx) (bw := bw) hc pp 5 0 6 bf bg (by omega) (by omega) (fun v hv => absurd hv (Nat.not_lt_zero v))
  rw [Nat.pow_zero, Nat.div_one] at this
  exact this
end
