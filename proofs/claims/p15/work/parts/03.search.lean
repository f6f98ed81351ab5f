/-! the search: images given in the order of the variables -/
def qa_Ok (m : Nat) (K L R : Nat → Nat) (F : Nat → Nat → Nat → Prop) (lo hi : Nat → Nat) (n : Nat) (g : Nat → Nat) : Prop :=
  (∀ v, v < n → lo v ≤ g v ∧ g v ≤ hi v) ∧ ∀ j, j < m → L j < n → R j < n → F (K j) (g (L j)) (g (R j))
def qa_due (l r n : Nat) : Prop := (r < l ∧ l = n) ∨ (l ≤ r ∧ r = n)
def qa_set (g : Nat → Nat) (n t v : Nat) : Nat := if v = n then t else g v
theorem qa_set_s {g : Nat → Nat} {n t : Nat} : qa_set g n t n = t := if_pos rfl
theorem qa_set_n {g : Nat → Nat} {n t v : Nat} (h : v ≠ n) : qa_set g n t v = g v := if_neg h
theorem qa_Ok_cg {m : Nat} {K L R : Nat → Nat} {F : Nat → Nat → Nat → Prop} {lo hi : Nat → Nat} {n : Nat} {g g' : Nat → Nat} (h : ∀ v, v < n → g' v = g v)
    (H : qa_Ok m K L R F lo hi n g) : qa_Ok m K L R F lo hi n g' := by
  refine ⟨fun v hv => ?_, fun j hj hl hr => ?_⟩
  · rw [h v hv]; exact H.1 v hv
  · rw [h _ hl, h _ hr]; exact H.2 j hj hl hr
theorem qa_Ok_0 {m : Nat} {K L R : Nat → Nat} {F : Nat → Nat → Nat → Prop} {lo hi : Nat → Nat} {g : Nat → Nat} : qa_Ok m K L R F lo hi 0 g :=
  ⟨fun v h => absurd h (Nat.not_lt_zero v), fun j _ h => absurd h (Nat.not_lt_zero _)⟩
theorem qa_Ok_s {m : Nat} {K L R : Nat → Nat} {F : Nat → Nat → Nat → Prop} {lo hi : Nat → Nat} {n : Nat} {g : Nat → Nat} (H : qa_Ok m K L R F lo hi n g)
    (hr : lo n ≤ g n ∧ g n ≤ hi n) (hd : ∀ j, j < m → qa_due (L j) (R j) n → F (K j) (g (L j)) (g (R j))) : qa_Ok m K L R F lo hi (n + 1) g := by
  refine ⟨fun v hv => ?_, fun j hj hl hr => ?_⟩
  · by_cases e : v = n
    · rw [e]; exact hr
    · exact H.1 v (by omega)
  · by_cases e : qa_due (L j) (R j) n
    · exact hd j hj e
    · unfold qa_due at e
      exact H.2 j hj (by omega) (by omega)
theorem qa_Ok_p {m : Nat} {K L R : Nat → Nat} {F : Nat → Nat → Nat → Prop} {lo hi : Nat → Nat} {n n' : Nat} {g : Nat → Nat} (h : n ≤ n') (H : qa_Ok m K L R F lo hi n' g) : qa_Ok m K L R F lo hi n g :=
  ⟨fun v hv => H.1 v (by omega), fun j hj hl hr => H.2 j hj (by omega) (by omega)⟩
theorem qa_Ok_due {m : Nat} {K L R : Nat → Nat} {F : Nat → Nat → Nat → Prop} {lo hi : Nat → Nat} {n : Nat} {g : Nat → Nat} (H : qa_Ok m K L R F lo hi (n + 1) g) :
    ∀ j, j < m → qa_due (L j) (R j) n → F (K j) (g (L j)) (g (R j)) := fun j hj e => by
  unfold qa_due at e
  exact H.2 j hj (by omega) (by omega)
/-- an image that goes on from g below n, with a term at n that is t or beyond -/
def qa_Ex (m : Nat) (K L R : Nat → Nat) (F : Nat → Nat → Nat → Prop) (lo hi : Nat → Nat) (n : Nat) (g : Nat → Nat) (t : Nat) : Prop :=
  ∃ g' : Nat → Nat, (∀ v, v < n → g' v = g v) ∧ t ≤ g' n ∧ qa_Ok m K L R F lo hi 5 g'
theorem qa_Ex_s {m : Nat} {K L R : Nat → Nat} {F : Nat → Nat → Nat → Prop} {lo hi : Nat → Nat} {n : Nat} {g : Nat → Nat} {t : Nat} (h : qa_Ex m K L R F lo hi n g (t + 1)) : qa_Ex m K L R F lo hi n g t := by
  obtain ⟨g', a, b, c⟩ := h
  exact ⟨g', a, by omega, c⟩
theorem qa_Ex_in {m : Nat} {K L R : Nat → Nat} {F : Nat → Nat → Nat → Prop} {lo hi : Nat → Nat} {n : Nat} {g : Nat → Nat} {t : Nat} (h : qa_Ex m K L R F lo hi (n + 1) (qa_set g n t) 0) : qa_Ex m K L R F lo hi n g t := by
  obtain ⟨g', a, b, c⟩ := h
  refine ⟨g', fun v hv => ?_, ?_, c⟩
  · rw [a v (by omega), qa_set_n (by omega)]
  · rw [a n (by omega), qa_set_s]; exact Nat.le_refl _
theorem qa_Ex_c {m : Nat} {K L R : Nat → Nat} {F : Nat → Nat → Nat → Prop} {lo hi : Nat → Nat} {n : Nat} {g : Nat → Nat} {t : Nat} (h : qa_Ex m K L R F lo hi n g t) (h1 : ¬ qa_Ex m K L R F lo hi n g (t + 1)) :
    qa_Ex m K L R F lo hi (n + 1) (qa_set g n t) 0 := by
  obtain ⟨g', a, b, c⟩ := h
  have e : g' n = t := by
    rcases Nat.lt_or_ge t (g' n) with z | z
    · exact absurd ⟨g', a, z, c⟩ h1
    · omega
  refine ⟨g', fun v hv => ?_, Nat.zero_le _, c⟩
  by_cases q : v = n
  · rw [q, qa_set_s]; exact e
  · rw [qa_set_n q]; exact a v (by omega)
theorem qa_Ex_Ok {m : Nat} {K L R : Nat → Nat} {F : Nat → Nat → Nat → Prop} {lo hi : Nat → Nat} {n : Nat} {g : Nat → Nat} (hn : n ≤ 5) (h : qa_Ex m K L R F lo hi n g 0) : qa_Ok m K L R F lo hi n g := by
  obtain ⟨g', a, b, c⟩ := h
  exact qa_Ok_cg (fun v hv => (a v hv).symm) (qa_Ok_p hn c)
theorem qa_Ex_5 {m : Nat} {K L R : Nat → Nat} {F : Nat → Nat → Nat → Prop} {lo hi : Nat → Nat} {g : Nat → Nat} (h : qa_Ok m K L R F lo hi 5 g) : qa_Ex m K L R F lo hi 5 g 0 := ⟨g, fun _ _ => rfl, Nat.zero_le _, h⟩
theorem qa_Ex_no {m : Nat} {K L R : Nat → Nat} {F : Nat → Nat → Nat → Prop} {lo hi : Nat → Nat} {n : Nat} {g : Nat → Nat} {t : Nat} (hn : n < 5) (ht : hi n < t) : ¬ qa_Ex m K L R F lo hi n g t := by
  rintro ⟨g', a, b, c⟩
  have := (c.1 n hn).2
  omega
/-- if g with t at n can't stand, an image from t on begins beyond t -/
theorem qa_Ex_no1 {m : Nat} {K L R : Nat → Nat} {F : Nat → Nat → Nat → Prop} {lo hi : Nat → Nat} {n : Nat} {g : Nat → Nat} {t : Nat} (hn : n < 5) (h : ¬ qa_Ok m K L R F lo hi (n + 1) (qa_set g n t))
    (h1 : qa_Ex m K L R F lo hi n g t) : qa_Ex m K L R F lo hi n g (t + 1) := by
  apply Classical.byContradiction
  intro z
  exact h (qa_Ex_Ok (by omega) (qa_Ex_c h1 z))
def qa_Im (m : Nat) (K L R : Nat → Nat) (F : Nat → Nat → Nat → Prop) (lo hi : Nat → Nat) : Prop := ∃ g : Nat → Nat, (∀ v, v < 5 → lo v ≤ g v ∧ g v ≤ hi v) ∧ ∀ j, j < m → F (K j) (g (L j)) (g (R j))
theorem qa_Im_Ex {m : Nat} {K L R : Nat → Nat} {F : Nat → Nat → Nat → Prop} {lo hi : Nat → Nat} (hL : ∀ j, j < m → L j < 5 ∧ R j < 5) (g : Nat → Nat) : qa_Im m K L R F lo hi ↔ qa_Ex m K L R F lo hi 0 g 0 := by
  constructor
  · rintro ⟨f, a, b⟩
    exact ⟨f, fun v hv => absurd hv (Nat.not_lt_zero v), Nat.zero_le _, a, fun j hj _ _ => b j hj⟩
  · rintro ⟨f, _, _, a, b⟩
    exact ⟨f, a, fun j hj => b j hj (hL j hj).1 (hL j hj).2⟩
/-! from intervals to heads -/
def qa_lo (p q h0 h1 v : Nat) : Nat := if v = h1 then q else if v = h0 then p else 0
def qa_hi (p q h0 h1 T v : Nat) : Nat := if v = h1 then q else if v = h0 then p else T
theorem qa_Im_head {m : Nat} {K L R : Nat → Nat} {F : Nat → Nat → Nat → Prop} {p q h0 h1 T : Nat} (hh : h0 < 5) (hh1 : h1 < 5) (hp : p ≤ T) (hq : q ≤ T) (hpq : h0 = h1 → p = q) :
    qa_Im m K L R F (qa_lo p q h0 h1) (qa_hi p q h0 h1 T) ↔ ∃ g : Nat → Nat, g h0 = p ∧ g h1 = q ∧ (∀ v, v < 5 → g v < T + 1) ∧ ∀ j, j < m → F (K j) (g (L j)) (g (R j)) := by
  constructor
  · rintro ⟨g, a, b⟩
    have e1 : g h1 = q := by
      have := a h1 hh1
      rw [qa_lo, qa_hi, if_pos rfl, if_pos rfl] at this
      omega
    have e0 : g h0 = p := by
      by_cases e : h0 = h1
      · rw [e, e1, hpq e]
      · have := a h0 hh
        rw [qa_lo, qa_hi, if_neg e, if_neg e, if_pos rfl, if_pos rfl] at this
        omega
    refine ⟨g, e0, e1, fun v hv => ?_, b⟩
    have := (a v hv).2
    unfold qa_hi at this
    split at this
    · omega
    · split at this <;> omega
  · rintro ⟨g, e0, e1, a, b⟩
    refine ⟨g, fun v hv => ?_, b⟩
    have := a v hv
    unfold qa_lo qa_hi
    by_cases z1 : v = h1
    · rw [if_pos z1, if_pos z1, z1, e1]; omega
    · rw [if_neg z1, if_neg z1]
      by_cases z0 : v = h0
      · rw [if_pos z0, if_pos z0, z0, e0]; omega
      · rw [if_neg z0, if_neg z0]; omega
/-! codes: five digits to the base five -/
def qa_dg (code v : Nat) : Nat := code / 5 ^ v % 5
theorem qa_dg_lt (code v : Nat) : qa_dg code v < 5 := Nat.mod_lt _ (by decide)
def qa_cd (g : Nat → Nat) : Nat := g 0 + 5 * (g 1 + 5 * (g 2 + 5 * (g 3 + 5 * g 4)))
theorem qa_cd_lt {g : Nat → Nat} (h : ∀ v, v < 5 → g v < 5) : qa_cd g < 3125 := by
  have a := h 0 (by decide); have b := h 1 (by decide); have c := h 2 (by decide); have d := h 3 (by decide); have e := h 4 (by decide)
  unfold qa_cd
  omega
theorem qa_dg_0 (n : Nat) : qa_dg n 0 = n % 5 := by unfold qa_dg; rw [Nat.pow_zero, Nat.div_one]
theorem qa_dg_s (n v : Nat) : qa_dg n (v + 1) = qa_dg (n / 5) v := by unfold qa_dg; rw [Nat.pow_succ, Nat.mul_comm, Nat.div_div_eq_div_mul]
theorem qa_dg_c {a b : Nat} (h : a < 5) : qa_dg (a + 5 * b) 0 = a ∧ (a + 5 * b) / 5 = b := by
  rw [qa_dg_0]
  omega
theorem qa_dg_cd {g : Nat → Nat} (h : ∀ v, v < 5 → g v < 5) : ∀ v, v < 5 → qa_dg (qa_cd g) v = g v := by
  have a := h 0 (by decide); have b := h 1 (by decide); have c := h 2 (by decide); have d := h 3 (by decide); have e := h 4 (by decide)
  intro v hv
  unfold qa_cd
  match v, hv with
  | 0, _ => exact (qa_dg_c a).1
  | 1, _ => rw [qa_dg_s, (qa_dg_c a).2]; exact (qa_dg_c b).1
  | 2, _ => rw [qa_dg_s, (qa_dg_c a).2, qa_dg_s, (qa_dg_c b).2]; exact (qa_dg_c c).1
  | 3, _ => rw [qa_dg_s, (qa_dg_c a).2, qa_dg_s, (qa_dg_c b).2, qa_dg_s, (qa_dg_c c).2]; exact (qa_dg_c d).1
  | 4, _ =>
    rw [qa_dg_s, (qa_dg_c a).2, qa_dg_s, (qa_dg_c b).2, qa_dg_s, (qa_dg_c c).2, qa_dg_s, (qa_dg_c d).2, qa_dg_0]
    omega
/-! the candidate over the rows: terms below vl, or any of five -/
def qa_Cd (h0 h1 a b : Nat) (m : Nat) (K L R : Nat → Nat) (F : Nat → Nat → Nat → Prop) (T : Nat) : Prop := ∃ g : Nat → Nat, g h0 = a ∧ g h1 = b ∧ (∀ v, v < 5 → g v < T) ∧ ∀ j, j < m → F (K j) (g (L j)) (g (R j))
theorem qa_Cd_5 {h0 h1 a b m : Nat} {K L R : Nat → Nat} {F : Nat → Nat → Nat → Prop} {T : Nat} (hT : T ≤ 5) (h0T : 0 < T) (ha : a < T) (hb : b < T) (hF : ∀ k x y, F k x y → x < T ∧ y < T) :
    qa_Cd h0 h1 a b m K L R F T ↔ qa_Cd h0 h1 a b m K L R F 5 := by
  constructor
  · rintro ⟨g, x, y, z, w⟩
    exact ⟨g, x, y, fun v hv => Nat.lt_of_lt_of_le (z v hv) hT, w⟩
  · rintro ⟨g, x, y, z, w⟩
    refine ⟨fun v => if g v < T then g v else 0, ?_, ?_, fun v _ => ?_, fun j hj => ?_⟩
    · show (if g h0 < T then g h0 else 0) = a
      rw [x, if_pos ha]
    · show (if g h1 < T then g h1 else 0) = b
      rw [y, if_pos hb]
    · show (if g v < T then g v else 0) < T
      split <;> omega
    · have q := hF _ _ _ (w j hj)
      show F (K j) (if g (L j) < T then g (L j) else 0) (if g (R j) < T then g (R j) else 0)
      rw [if_pos q.1, if_pos q.2]
      exact w j hj
theorem qa_Cd_code {h0 h1 a b m : Nat} {K L R : Nat → Nat} {F : Nat → Nat → Nat → Prop} (hh : h0 < 5) (hh1 : h1 < 5) (hL : ∀ j, j < m → L j < 5 ∧ R j < 5) :
    qa_Cd h0 h1 a b m K L R F 5 ↔ ∃ n, n < 3125 ∧ qa_dg n h0 = a ∧ qa_dg n h1 = b ∧ ∀ j, j < m → F (K j) (qa_dg n (L j)) (qa_dg n (R j)) := by
  constructor
  · rintro ⟨g, x, y, z, w⟩
    refine ⟨qa_cd g, qa_cd_lt z, ?_, ?_, fun j hj => ?_⟩
    · rw [qa_dg_cd z _ hh, x]
    · rw [qa_dg_cd z _ hh1, y]
    · rw [qa_dg_cd z _ (hL j hj).1, qa_dg_cd z _ (hL j hj).2]
      exact w j hj
  · rintro ⟨n, _, x, y, w⟩
    exact ⟨qa_dg n, x, y, fun v _ => qa_dg_lt n v, w⟩
/-! the number of the slots that an image reaches -/
def qa_sn (tg : Nat → Option Nat) : Nat → (Nat → Bool) × Nat
  | 0 => (fun _ => false, 0)
  | j + 1 => match tg j with
    | none => qa_sn tg j
    | some t => if (qa_sn tg j).1 t = true then qa_sn tg j else (fun v => if v = t then true else (qa_sn tg j).1 v, (qa_sn tg j).2 + 1)
theorem qa_sn_n {tg : Nat → Option Nat} {j : Nat} (h : tg j = none) : qa_sn tg (j + 1) = qa_sn tg j := by simp only [qa_sn, h]
theorem qa_sn_t {tg : Nat → Option Nat} {j t : Nat} (h : tg j = some t) (hs : (qa_sn tg j).1 t = true) : qa_sn tg (j + 1) = qa_sn tg j := by
  rw [qa_sn, h]
  exact if_pos hs
theorem qa_sn_f {tg : Nat → Option Nat} {j t : Nat} (h : tg j = some t) (hs : ¬ (qa_sn tg j).1 t = true) : qa_sn tg (j + 1) = (fun v => if v = t then true else (qa_sn tg j).1 v, (qa_sn tg j).2 + 1) := by
  rw [qa_sn, h]
  exact if_neg hs
theorem qa_sn_le (tg : Nat → Option Nat) : ∀ j, (qa_sn tg j).2 ≤ j := by
  intro j
  induction j with
  | zero => exact Nat.le_refl _
  | succ j ih =>
    cases e : tg j with
    | none => rw [qa_sn_n e]; omega
    | some t =>
      by_cases hs : (qa_sn tg j).1 t = true
      · rw [qa_sn_t e hs]; omega
      · rw [qa_sn_f e hs]; show (qa_sn tg j).2 + 1 ≤ j + 1; omega
theorem qa_sn_cg {tg tg' : Nat → Option Nat} : ∀ m, (∀ j, j < m → tg j = tg' j) → qa_sn tg m = qa_sn tg' m := by
  intro m
  induction m with
  | zero => intro _; rfl
  | succ m ih =>
    intro h
    rw [qa_sn, qa_sn, h m (by omega), ih (fun j hj => h j (by omega))]
def qa_tg (m : Nat) (K L R : Nat → Nat) (g : Nat → Nat) (j : Nat) : Option Nat := qa_fd K L R (K j) (g (L j)) (g (R j)) m 0
def qa_gg (a b e v : Nat) : Nat := if v = 0 then 0 else if v = 1 then 1 else if v = 2 then a else if v = 3 then b else e
def qa_gd (m : Nat) (K L R : Nat → Nat) (g : Nat → Nat) : Prop := ∀ j, j < m → qa_In m K L R (K j) (g (L j)) (g (R j))
def qa_Iv (m : Nat) (K L R : Nat → Nat) (D : Nat → Nat → Nat → Prop) (r : Nat) : Prop :=
  r ≤ m ∧ (∀ a b e, D a b e → qa_gd m K L R (qa_gg a b e) → r ≤ (qa_sn (qa_tg m K L R (qa_gg a b e)) m).2) ∧
  (r = m ∨ ∃ a b e, a < 5 ∧ b < 5 ∧ e < 5 ∧ qa_gd m K L R (qa_gg a b e) ∧ (qa_sn (qa_tg m K L R (qa_gg a b e)) m).2 = r)
theorem qa_Iv_0 {m : Nat} {K L R : Nat → Nat} {D : Nat → Nat → Nat → Prop} (h : ∀ a b e, ¬ D a b e) : qa_Iv m K L R D m := ⟨Nat.le_refl _, fun a b e d => absurd d (h a b e), Or.inl rfl⟩
theorem qa_Iv_w {m : Nat} {K L R : Nat → Nat} {D D' : Nat → Nat → Nat → Prop} {r : Nat} (h : ∀ a b e, D' a b e → D a b e) (H : qa_Iv m K L R D r) : qa_Iv m K L R D' r := ⟨H.1, fun a b e d => H.2.1 a b e (h a b e d), H.2.2⟩
theorem qa_Iv_lo {m : Nat} {K L R : Nat → Nat} {D D' : Nat → Nat → Nat → Prop} {r a b e : Nat} (ha : a < 5) (hb : b < 5) (he : e < 5) (h : ∀ x y z, D' x y z → D x y z ∨ (x = a ∧ y = b ∧ z = e)) (hg : qa_gd m K L R (qa_gg a b e))
    (hl : (qa_sn (qa_tg m K L R (qa_gg a b e)) m).2 < r) (H : qa_Iv m K L R D r) : qa_Iv m K L R D' (qa_sn (qa_tg m K L R (qa_gg a b e)) m).2 := by
  refine ⟨qa_sn_le _ _, fun x y z d g => ?_, Or.inr ⟨a, b, e, ha, hb, he, hg, rfl⟩⟩
  rcases h x y z d with d | ⟨rfl, rfl, rfl⟩
  · have := H.2.1 x y z d g; omega
  · exact Nat.le_refl _
theorem qa_Iv_ge {m : Nat} {K L R : Nat → Nat} {D D' : Nat → Nat → Nat → Prop} {r a b e : Nat} (h : ∀ x y z, D' x y z → D x y z ∨ (x = a ∧ y = b ∧ z = e))
    (hl : qa_gd m K L R (qa_gg a b e) → r ≤ (qa_sn (qa_tg m K L R (qa_gg a b e)) m).2) (H : qa_Iv m K L R D r) : qa_Iv m K L R D' r := by
  refine ⟨H.1, fun x y z d g => ?_, H.2.2⟩
  rcases h x y z d with d | ⟨rfl, rfl, rfl⟩
  · exact H.2.1 x y z d g
  · exact hl g
theorem qa_Iv_le {m : Nat} {K L R : Nat → Nat} {D D' : Nat → Nat → Nat → Prop} {r r' : Nat} (h : ∀ a b e, a < 5 → b < 5 → e < 5 → D a b e) (H : qa_Iv m K L R D r) (H' : qa_Iv m K L R D' r') : r ≤ r' := by
  rcases H'.2.2 with e | ⟨a, b, e, ha, hb, he, hg, hs⟩
  · rw [e]; exact H.1
  · rw [← hs]; exact H.2.1 a b e (h a b e ha hb he) hg
theorem qa_gg_dg {n : Nat} (h0 : qa_dg n 0 = 0) (h1 : qa_dg n 1 = 1) : ∀ v, v < 5 → qa_dg n v = qa_gg (qa_dg n 2) (qa_dg n 3) (qa_dg n 4) v := by
  intro v hv
  match v, hv with
  | 0, _ => exact h0
  | 1, _ => exact h1
  | 2, _ => rfl
  | 3, _ => rfl
  | 4, _ => rfl
theorem qa_tg_cg {m : Nat} {K L R : Nat → Nat} {g g' : Nat → Nat} (hL : ∀ j, j < m → L j < 5 ∧ R j < 5) (h : ∀ v, v < 5 → g v = g' v) : ∀ j, j < m → qa_tg m K L R g j = qa_tg m K L R g' j := by
  intro j hj
  unfold qa_tg
  rw [h _ (hL j hj).1, h _ (hL j hj).2]
theorem qa_gd_cg {m : Nat} {K L R : Nat → Nat} {g g' : Nat → Nat} (hL : ∀ j, j < m → L j < 5 ∧ R j < 5) (h : ∀ v, v < 5 → g v = g' v) (H : qa_gd m K L R g) : qa_gd m K L R g' := by
  intro j hj
  rw [← h _ (hL j hj).1, ← h _ (hL j hj).2]
  exact H j hj
