/-! LOAD: the reference finds the types, 2 -/
def ftP (T : Tb) (c : Int) (y j : Int) : Prop := scr y j ∨ (y = 133 ∧ j = c) ∨ (y = 137 ∧ ∃ r, 0 ≤ r ∧ r < Tr T ∧ j = 6 * r + c)
theorem KC.ft {m m' : aM} {T : Tb} {c : Int} (h : KC m T) (f : Fr (ftP T c) m m') : KC m' T := by
  have row (y : Int) (hy : y ≠ 130) (h1 : y ≠ 133) (h2 : y ≠ 137) : m' y = m y := by
    funext j
    exact f y j (fun e => by
      rcases e with e | e | e
      · exact hy e.1
      · exact h1 e.1
      · exact h2 e.1)
  refine h.of (f 130 5 (fun e => ?_)) (row _ (by decide) (by decide) (by decide)) (row _ (by decide) (by decide) (by decide)) (row _ (by decide) (by decide) (by decide)) (row _ (by decide) (by decide) (by decide))
  rcases e with e | e | e
  · rcases e.2 with e | e <;> exact absurd e (by decide)
  · exact absurd e.1 (by decide)
  · exact absurd e.1 (by decide)
def noLess (T : Tb) (c ty : Int) : Prop := ∀ t, 0 ≤ t → t < ty → fitAll T c t = false
theorem r_ft12 {m : aM} {T : Tb} (wt : WT T) (kc : KC m T) {c ty r : Int} (h1 : 0 ≤ r) (h2 : r < Tr T) (h3 : 0 ≤ c) (h4 : c < Tn T) (t0 : 0 ≤ ty) (t3 : ty ≤ 3) (nl : noLess T c ty) : ∃ m' ty', fM_findType_12 m c ty r = some (.inl (m', ty', r + 1)) ∧ Fr scr m m' ∧ 0 ≤ ty' ∧ ty' ≤ 3 ∧ noLess T c ty' ∧ (ty' = 3 ∨ fitAll T c ty' = true ∨ (missB T r c = true ∧ ty' = ty)) := by
  have w1 := wt.1
  have w2 := wt.2.1
  unfold fM_findType_12
  obtain ⟨v, hv, m', ty', hP⟩ := aLoop_ok (f := fM_findType_12_b c r) (Inv := fun x : aM × Int => Fr scr m x.1 ∧ 0 ≤ x.2 ∧ x.2 ≤ 3 ∧ noLess T c x.2 ∧ (missB T r c = true → x.2 = ty)) (μ := fun x => (3 - x.2).toNat) (Post := fun v => ∃ m' ty', v = .inl (m', ty', r + 1) ∧ Fr scr m m' ∧ 0 ≤ ty' ∧ ty' ≤ 3 ∧ noLess T c ty' ∧ (ty' = 3 ∨ fitAll T c ty' = true ∨ (missB T r c = true ∧ ty' = ty))) (by
    rintro ⟨m1, t1⟩ ⟨fr, g1, g2, g3, g4⟩
    simp only at fr g1 g2 g3 g4
    have kc1 := kc.scr fr
    unfold fM_findType_12_b
    simp only
    rw [w32_id (x := r + 1) (by omega) (by omega)]
    by_cases ht : t1 < 3
    · rw [if_pos ht, k_isNone wt kc1 h1 h2 h3 h4]
      simp only [Option.bind_some]
      by_cases hm : missB T r c = true
      · right
        rw [if_pos hm, if_neg (by decide)]
        exact ⟨_, rfl, m1, t1, rfl, fr, g1, g2, g3, Or.inr (Or.inr ⟨hm, g4 hm⟩)⟩
      · obtain ⟨m2, e1, e2⟩ := r_fitsAll wt kc1 h3 h4 g1 ht
        rw [if_neg hm, if_pos rfl, e1]
        simp only [Option.bind_some]
        by_cases hf : fitAll T c t1 = true
        · right
          rw [if_pos hf, if_neg (by decide)]
          exact ⟨_, rfl, m2, t1, rfl, fr.tr e2, g1, g2, g3, Or.inr (Or.inl hf)⟩
        · left
          rw [if_neg hf, if_pos rfl, w32_id (x := t1 + 1) (by omega) (by omega)]
          refine ⟨_, rfl, ⟨fr.tr e2, by simp only; omega, by simp only; omega, fun t a b => ?_, fun e => absurd e hm⟩, by simp only; omega⟩
          by_cases e : t = t1
          · rw [e]; simpa using hf
          · exact g3 t a (by simp only at b; omega)
    · right
      rw [if_neg ht]
      exact ⟨_, rfl, m1, t1, rfl, fr, g1, g2, g3, Or.inl (by omega)⟩) FU (m, ty) ⟨Fr.rf, t0, t3, nl, fun _ => rfl⟩ (by show (3 - ty).toNat < 1000000; omega)
  refine ⟨m', ty', ?_, hP.2⟩
  rw [hv, hP.1]
theorem ty_of {T : Tb} {c ty : Int} (t0 : 0 ≤ ty) (t3 : ty ≤ 3) (nl : noLess T c ty) (h : ty = 3 ∨ fitAll T c ty = true) : ty = tyS T c := by
  unfold tyS
  have z (t : Int) (a : 0 ≤ t) (b : t < ty) : ¬ fitAll T c t = true := by rw [nl t a b]; decide
  have hc : ty = 0 ∨ ty = 1 ∨ ty = 2 ∨ ty = 3 := by omega
  rcases hc with e | e | e | e
  · subst e; rw [if_pos (by rcases h with h | h; exact absurd h (by decide); exact h)]
  · subst e; rw [if_neg (z 0 (by decide) (by decide)), if_pos (by rcases h with h | h; exact absurd h (by decide); exact h)]
  · subst e; rw [if_neg (z 0 (by decide) (by decide)), if_neg (z 1 (by decide) (by decide)), if_pos (by rcases h with h | h; exact absurd h (by decide); exact h)]
  · subst e; rw [if_neg (z 0 (by decide) (by decide)), if_neg (z 1 (by decide) (by decide)), if_neg (z 2 (by decide) (by decide))]
def v137 (T : Tb) (m : aM) (c k : Int) : Prop := ∀ r, 0 ≤ r → r < k → m 137 (6 * r + c) = if missB T r c then 0 else valS (Tt T r c)
theorem r_ft56 {m : aM} {T : Tb} (wt : WT T) (kc : KC m T) {c : Int} (h3 : 0 ≤ c) (h4 : c < Tn T) : ∃ m', fM_findType_56 m c (tyS T c) 0 = some m' ∧ Fr (fun y j => scr y j ∨ (y = 137 ∧ ∃ r, 0 ≤ r ∧ r < Tr T ∧ j = 6 * r + c)) m m' ∧ (tyS T c < 3 → v137 T m' c (Tr T)) := by
  have w1 := wt.1
  have w2 := wt.2.1
  unfold fM_findType_56
  obtain ⟨v, hv, hP⟩ := aLoop_ok (f := fM_findType_56_b c (tyS T c)) (Inv := fun x : aM × Int => Fr (fun y j => scr y j ∨ (y = 137 ∧ ∃ r, 0 ≤ r ∧ r < Tr T ∧ j = 6 * r + c)) m x.1 ∧ 0 ≤ x.2 ∧ x.2 ≤ Tr T ∧ v137 T x.1 c x.2) (μ := fun x => (Tr T - x.2).toNat) (Post := fun v => Fr (fun y j => scr y j ∨ (y = 137 ∧ ∃ r, 0 ≤ r ∧ r < Tr T ∧ j = 6 * r + c)) m v ∧ (tyS T c < 3 → v137 T v c (Tr T))) (by
    rintro ⟨m1, r⟩ ⟨fr, g1, g2, g3⟩
    simp only at fr g1 g2 g3
    have kc1 : KC m1 T := kc.ft (c := c) (fr.wk (fun y j h => h.elim Or.inl (fun h => Or.inr (Or.inr h))))
    unfold fM_findType_56_b
    simp only
    rw [kc1.1]
    by_cases hr : r < Tr T
    · rw [if_pos hr]
      by_cases ht : tyS T c < 3
      · left
        have ht0 : 0 ≤ tyS T c := by
          unfold tyS
          split
          · decide
          · split
            · decide
            · split <;> decide
        rw [if_pos ht, k_isNone wt kc1 g1 hr h3 h4, w32_id (x := 6 * r) (by omega) (by omega), w32_id (x := 6 * r + c) (by omega) (by omega)]
        simp only [Option.bind_some]
        -- the cell is set
        have fin (m2 : aM) (w : Int) (fr2 : Fr scr m1 m2) (hw : w = if missB T r c then 0 else valS (Tt T r c)) : Fr (fun y j => scr y j ∨ (y = 137 ∧ ∃ r, 0 ≤ r ∧ r < Tr T ∧ j = 6 * r + c)) m (mup m2 137 (6 * r + c) w) ∧ v137 T (mup m2 137 (6 * r + c) w) c (r + 1) := by
          refine ⟨(fr.tr (fr2.wk (fun y j h => Or.inl h))).up (Or.inr ⟨rfl, r, g1, hr, rfl⟩), fun q q0 q1 => ?_⟩
          by_cases e : q = r
          · rw [e, mup_same]; exact hw
          · rw [mup_idx (by omega), fr2 137 _ (fun e => absurd e.1 (by decide))]
            exact g3 q q0 (by omega)
        by_cases hm : missB T r c = true
        · rw [if_pos hm, if_neg (by decide)]
          unfold fM_findType_97
          rw [if_pos rfl, w32_id (x := 6 * r) (by omega) (by omega), w32_id (x := 6 * r + c) (by omega) (by omega), gd_pos (by omega), w32_id (x := r + 1) (by omega) (by omega)]
          obtain ⟨f1, f2⟩ := fin m1 0 Fr.rf (by rw [if_pos hm])
          exact ⟨_, rfl, ⟨f1, by simp only; omega, by simp only; omega, f2⟩, by simp only; omega⟩
        · have hm' : missB T r c = false := by simpa using hm
          obtain ⟨m2, e1, e2, e3⟩ := r_fits wt kc1 g1 hr h3 h4 hm' ht0 ht
          have hfit := fit_ty wt g1 hr hm' ht
          rw [if_neg hm, if_pos rfl, e1]
          simp only [Option.bind_some]
          rw [if_pos hfit, if_neg (by decide)]
          unfold fM_findType_97
          rw [if_neg (by decide), w32_id (x := 6 * r) (by omega) (by omega), w32_id (x := 6 * r + c) (by omega) (by omega), gd_pos (by omega), w32_id (x := r + 1) (by omega) (by omega)]
          obtain ⟨f1, f2⟩ := fin m2 (m2 130 20) e2 (by rw [if_neg hm]; exact e3 hfit)
          exact ⟨_, rfl, ⟨f1, by simp only; omega, by simp only; omega, f2⟩, by simp only; omega⟩
      · right
        rw [if_neg ht]
        exact ⟨_, rfl, fr, fun e => absurd e ht⟩
    · right
      rw [if_neg hr]
      have : r = Tr T := by omega
      subst this
      exact ⟨_, rfl, fr, fun _ => g3⟩) FU (m, 0) ⟨Fr.rf, by simp only; omega, by simp only; omega, fun r r0 r1 => by simp only at r1; omega⟩ (by show (Tr T - 0).toNat < 1000000; omega)
  exact ⟨v, hv, hP⟩
theorem r_findType {m : aM} {T : Tb} (wt : WT T) (kc : KC m T) {c : Int} (h3 : 0 ≤ c) (h4 : c < Tn T) : ∃ m', fM_findType m c = some m' ∧ Fr (ftP T c) m m' ∧ m' 133 c = tyS T c ∧ (tyS T c < 3 → v137 T m' c (Tr T)) := by
  have w1 := wt.1
  have w2 := wt.2.1
  unfold fM_findType fM_findType_4
  obtain ⟨v, hv, hP⟩ := aLoop_ok (f := fM_findType_4_b c) (Inv := fun x : aM × Int × Int => Fr scr m x.1 ∧ 0 ≤ x.2.1 ∧ x.2.1 ≤ 3 ∧ 0 ≤ x.2.2 ∧ x.2.2 ≤ Tr T ∧ noLess T c x.2.1 ∧ (x.2.1 = 3 ∨ fitAll T c x.2.1 = true ∨ ∀ q, 0 ≤ q → q < x.2.2 → missB T q c = true)) (μ := fun x => (Tr T - x.2.2).toNat) (Post := fun v => Fr (ftP T c) m v ∧ v 133 c = tyS T c ∧ (tyS T c < 3 → v137 T v c (Tr T))) (by
    rintro ⟨m1, ty, r⟩ ⟨fr, g1, g2, g3, g4, g5, g6⟩
    simp only at fr g1 g2 g3 g4 g5 g6
    have kc1 := kc.scr fr
    unfold fM_findType_4_b
    simp only
    rw [kc1.1]
    by_cases hr : r < Tr T
    · left
      obtain ⟨m2, t2, e1, e2, e3, e4, e5, e6⟩ := r_ft12 wt kc1 g3 hr h3 h4 g1 g2 g5
      rw [if_pos hr, e1]
      refine ⟨_, rfl, ⟨fr.tr e2, e3, e4, by simp only; omega, by simp only; omega, e5, ?_⟩, by simp only; omega⟩
      simp only
      rcases e6 with e6 | e6 | ⟨e6, e7⟩
      · exact Or.inl e6
      · exact Or.inr (Or.inl e6)
      · rw [e7]
        rcases g6 with g6 | g6 | g6
        · exact Or.inl g6
        · exact Or.inr (Or.inl g6)
        · refine Or.inr (Or.inr (fun q q0 q1 => ?_))
          by_cases e : q = r
          · rw [e]; exact e6
          · exact g6 q q0 (by omega)
    · right
      have ety : ty = tyS T c := by
        apply ty_of g1 g2 g5
        rcases g6 with g6 | g6 | g6
        · exact Or.inl g6
        · exact Or.inr g6
        · exact Or.inr (fitAll_iff.mpr (fun q q0 q1 => Or.inl (g6 q q0 (by omega))))
      subst ety
      rw [if_neg hr, gd_pos (by omega)]
      have fr1 : Fr (ftP T c) m (mup m1 133 c (tyS T c)) := (fr.wk (fun y j h => Or.inl h)).up (Or.inr (Or.inl ⟨rfl, rfl⟩))
      obtain ⟨m2, e1, e2, e3⟩ := r_ft56 wt (kc.ft fr1) h3 h4
      rw [e1]
      refine ⟨m2, rfl, fr1.tr (e2.wk (fun y j h => h.elim Or.inl (fun h => Or.inr (Or.inr h)))), ?_, e3⟩
      rw [e2 133 c (fun e => by
        rcases e with e | e
        · exact absurd e.1 (by decide)
        · exact absurd e.1 (by decide)), mup_same]) FU (m, 0, 0) ⟨Fr.rf, by simp only; omega, by simp only; omega, by simp only; omega, by simp only; omega, fun t a b => by simp only at b; omega, Or.inr (Or.inr (fun q q0 q1 => by simp only at q1; omega))⟩ (by show (Tr T - 0).toNat < 1000000; omega)
  exact ⟨v, hv, hP⟩
/-- what the type-finding may change -/
def tyP (y j : Int) : Prop := scr y j ∨ y = 133 ∨ y = 137
theorem r_types {m : aM} {T : Tb} (wt : WT T) (kc : KC m T) (e4 : m 130 4 = Tn T) (hn : ∀ c, 0 ≤ c → c < Tn T → m 132 c = pk8 (Tm T c)) : ∃ m', fM_load_182 m 0 = some (Tr T, m') ∧ MT m' T ∧ Fr tyP m m' := by
  have w1 := wt.1
  have w2 := wt.2.1
  unfold fM_load_182
  obtain ⟨v, hv, m', hP⟩ := aLoop_ok (f := fM_load_182_b) (Inv := fun x : aM × Int => Fr tyP m x.1 ∧ KC x.1 T ∧ 0 ≤ x.2 ∧ x.2 ≤ Tn T ∧ ∀ c, 0 ≤ c → c < x.2 → x.1 133 c = tyS T c ∧ (tyS T c < 3 → v137 T x.1 c (Tr T))) (μ := fun x => (Tn T - x.2).toNat) (Post := fun v => ∃ m', v = (Tr T, m') ∧ MT m' T ∧ Fr tyP m m') (by
    rintro ⟨m1, c⟩ ⟨fr, kc1, g1, g2, g3⟩
    simp only at fr kc1 g1 g2 g3
    have f4 : m1 130 4 = Tn T := by
      rw [fr 130 4 (fun e => by
        rcases e with e | e | e
        · rcases e.2 with e | e <;> exact absurd e (by decide)
        · exact absurd e (by decide)
        · exact absurd e (by decide)), e4]
    unfold fM_load_182_b
    simp only
    rw [f4]
    by_cases hc : c < Tn T
    · left
      obtain ⟨m2, e1, e2, e3, e4⟩ := r_findType wt kc1 g1 hc
      rw [if_pos hc, e1, w32_id (x := c + 1) (by omega) (by omega)]
      refine ⟨_, rfl, ⟨fr.tr (e2.wk (fun y j h => ?_)), kc1.ft e2, by simp only; omega, by simp only; omega, fun d d0 d1 => ?_⟩, by simp only; omega⟩
      · rcases h with h | h | h
        · exact Or.inl h
        · exact Or.inr (Or.inl h.1)
        · exact Or.inr (Or.inr h.1)
      · simp only at d1 ⊢
        by_cases e : d = c
        · rw [e]; exact ⟨e3, e4⟩
        · obtain ⟨o1, o2⟩ := g3 d d0 (by omega)
          refine ⟨?_, fun ht r r0 r1 => ?_⟩
          · rw [e2 133 d (fun h => ?_)]
            · exact o1
            · rcases h with h | h | h
              · exact absurd h.1 (by decide)
              · exact e h.2
              · exact absurd h.1 (by decide)
          · rw [e2 137 _ (fun h => ?_)]
            · exact o2 ht r r0 r1
            · rcases h with h | h | ⟨-, q, q0, q1, q2⟩
              · exact absurd h.1 (by decide)
              · exact absurd h.1 (by decide)
              · omega
    · right
      have : c = Tn T := by omega
      subst this
      rw [if_neg hc]
      refine ⟨_, rfl, m1, by rw [kc1.1], ⟨f4, kc1.1, fun c c0 c1 => ⟨?_, (g3 c c0 c1).1⟩, fun r c r0 r1 c0 c1 => ?_⟩, fr⟩
      · rw [fr 132 c (fun e => by
          rcases e with e | e | e
          · exact absurd e.1 (by decide)
          · exact absurd e (by decide)
          · exact absurd e (by decide))]
        exact hn c c0 c1
      · obtain ⟨k1, k2, k3, k4, k5⟩ := kc1.2 r c r0 r1 c0 c1
        exact ⟨k1, k2, k3, k4, k5, fun ht => (g3 c c0 c1).2 ht r r0 r1⟩) FU (m, 0) ⟨Fr.rf, kc, by simp only; omega, by simp only; omega, fun c c0 c1 => by simp only at c1; omega⟩ (by show (Tn T - 0).toNat < 1000000; omega)
  exact ⟨m', by rw [hv, hP.1], hP.2⟩
