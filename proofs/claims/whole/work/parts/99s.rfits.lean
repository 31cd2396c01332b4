/-! LOAD: the reference finds the types -/
/-- the reference's cells -/
def KC (m : aM) (T : Tb) : Prop := m 130 5 = Tr T ∧ ∀ r c, 0 ≤ r → r < Tr T → 0 ≤ c → c < Tn T → m 136 (6 * r + c) = Tq T r c ∧ 336 ≤ m 134 (6 * r + c) ∧ m 134 (6 * r + c) + ((Tt T r c).length : Int) ≤ 576 ∧ m 135 (6 * r + c) = (if missB T r c then -1 else ((Tt T r c).length : Int)) ∧ sl m 131 (m 134 (6 * r + c)) (m 134 (6 * r + c) + ((Tt T r c).length : Int)) = Tt T r c
theorem KC.of {m m' : aM} {T : Tb} (h : KC m T) (h5 : m' 130 5 = m 130 5) (h1 : m' 131 = m 131) (h4 : m' 134 = m 134) (h6 : m' 135 = m 135) (h7 : m' 136 = m 136) : KC m' T := by
  unfold KC
  rw [h5, h4, h6, h7]
  simp only [sl_row h1]
  exact h
theorem KC.scr {m m' : aM} {T : Tb} (h : KC m T) (f : Fr scr m m') : KC m' T := by
  have row (y : Int) (hy : y ≠ 130) : m' y = m y := by
    funext j
    exact f y j (fun e => hy e.1)
  exact h.of (f 130 5 (fun e => by rcases e.2 with e | e <;> exact absurd e (by decide))) (row _ (by decide)) (row _ (by decide)) (row _ (by decide)) (row _ (by decide))
theorem sl_has {m : aM} {x a b j : Int} (h0 : a ≤ j) (h1 : j < b) : m x j ∈ sl m x a b := by
  have h : ∀ (k : Nat) (a : Int), a ≤ j → (j - a).toNat ≤ k → m x j ∈ sl m x a b := by
    intro k
    induction k with
    | zero =>
      intro a ha hk
      have : a = j := by omega
      subst this
      rw [sl_cons h1]
      exact List.mem_cons_self
    | succ k ih =>
      intro a ha hk
      rw [sl_cons (by omega)]
      by_cases e : a = j
      · subst e; exact List.mem_cons_self
      · exact List.mem_cons_of_mem _ (ih (a + 1) (by omega) (by omega))
  exact h (j - a).toNat a h0 (Nat.le_refl _)
theorem date_whole {s : List Int} (h : dateS s = true) : wholeS s = false := by
  unfold dateS at h
  split at h
  · rename_i a b c d hh e f g i j
    simp only [Bool.and_eq_true, decide_eq_true_eq, List.all_cons, List.all_nil] at h
    obtain ⟨⟨⟨h45, g45⟩, ha, hb, -⟩, -⟩ := h
    have hda := dg_iff.mp ha
    unfold wholeS
    rw [if_neg (by show ¬ some a = some 45; intro e; injection e; omega)]
    unfold wbody
    simp only
    by_cases h48 : a = 48
    · rw [if_pos h48]; rfl
    · rw [if_neg h48]
      subst h45
      simp only [List.all_cons, show dg 45 = false from rfl, Bool.false_and, Bool.and_false]
  · exact absurd h (by decide)
theorem shape_whole {s : List Int} : (shapeS s = 1 ∨ shapeS s = 0) ↔ wholeS s = true := by
  unfold shapeS
  by_cases h : wholeS s = true
  · rw [if_pos h]
    refine ⟨fun _ => h, fun _ => ?_⟩
    split
    · exact Or.inr rfl
    · exact Or.inl rfl
  · rw [if_neg h]
    refine ⟨fun e => ?_, fun e => absurd e h⟩
    split at e <;> (rcases e with e | e <;> exact absurd e (by decide))
theorem shape_date {s : List Int} : shapeS s = 2 ↔ dateS s = true := by
  unfold shapeS
  by_cases h : wholeS s = true
  · rw [if_pos h]
    refine ⟨fun e => ?_, fun e => ?_⟩
    · split at e <;> exact absurd e (by decide)
    · rw [date_whole e] at h; exact absurd h (by decide)
  · rw [if_neg h]
    by_cases d : dateS s = true
    · rw [if_pos d]; exact ⟨fun _ => d, fun _ => rfl⟩
    · rw [if_neg d]; exact ⟨fun e => absurd e (by decide), fun e => absurd e d⟩
theorem fitC_iff {q t : Int} {s : List Int} : fitC q s t = true ↔ q = 0 ∧ (shapeS s = t ∨ (shapeS s = 0 ∧ t = 1)) := by
  unfold fitC
  simp only [Bool.and_eq_true, Bool.or_eq_true, decide_eq_true_eq]
theorem r_fits {m : aM} {T : Tb} (wt : WT T) (kc : KC m T) {r c ty : Int} (h1 : 0 ≤ r) (h2 : r < Tr T) (h3 : 0 ≤ c) (h4 : c < Tn T) (hm : missB T r c = false) (t0 : 0 ≤ ty) (t3 : ty < 3) : ∃ m', fM_fits m (6 * r + c) ty = some (if fitC (Tq T r c) (Tt T r c) ty then 1 else 0, m') ∧ Fr scr m m' ∧ (fitC (Tq T r c) (Tt T r c) ty = true → m' 130 20 = valS (Tt T r c)) := by
  obtain ⟨k1, k2, k3, k4, k5⟩ := kc.2 r c h1 h2 h3 h4
  have w1 := wt.1
  have w2 := wt.2.1
  obtain ⟨wq, wch⟩ := wt.2.2.2.2.2.1 r c h1 h2 h3 h4
  rw [hm, if_neg (by decide)] at k4
  have hch : ∀ j, m 134 (6 * r + c) ≤ j → j < m 134 (6 * r + c) + ((Tt T r c).length : Int) → chOK (m 131 j) := fun j j0 j1 => by
    apply okT.ch
    apply wch
    rw [← k5]
    exact sl_has j0 j1
  unfold fM_fits
  rw [gd_pos (by omega), k1, k4, w32_id (by omega) (by omega)]
  by_cases q0 : Tq T r c = 0
  · rw [if_pos q0]
    by_cases e2 : ty = 2
    · subst e2
      rw [if_pos rfl]
      obtain ⟨m', d1, d2, d3⟩ := r_isDate (m := m) (a := m 134 (6 * r + c)) (b := m 134 (6 * r + c) + ((Tt T r c).length : Int)) (by omega) (by omega) (by omega) hch
      rw [k5] at d1 d3
      refine ⟨m', ?_, d2, fun h => ?_⟩
      · rw [d1]
        simp only [Option.bind_some]
        by_cases d : dateS (Tt T r c) = true
        · rw [if_pos d, if_pos (fitC_iff.mpr ⟨q0, Or.inl (shape_date.mpr d)⟩), gd_pos (Or.inr rfl)]
        · rw [if_neg d, if_neg, gd_pos (Or.inl rfl)]
          intro h
          rcases (fitC_iff.mp h).2 with h | h
          · exact d (shape_date.mp h)
          · exact absurd h.2 (by decide)
      · apply d3
        rcases (fitC_iff.mp h).2 with h | h
        · exact shape_date.mp h
        · exact absurd h.2 (by decide)
    · rw [if_neg e2, r_isWhole (by omega) (by omega) (by omega), k5]
      by_cases hw : wholeS (Tt T r c) = true
      · rw [if_pos hw]
        simp only [Option.bind_some]
        refine ⟨mup m 130 20 (valS (Tt T r c)), ?_, Fr.rf.up ⟨rfl, Or.inr rfl⟩, fun _ => mup_same _ _ _ _⟩
        rw [if_neg (by decide)]
        by_cases e1 : ty = 1
        · subst e1
          rw [if_pos rfl, if_pos]
          rcases shape_whole.mpr hw with h | h
          · exact fitC_iff.mpr ⟨q0, Or.inl h⟩
          · exact fitC_iff.mpr ⟨q0, Or.inr ⟨h, rfl⟩⟩
        · have e0 : ty = 0 := by omega
          subst e0
          rw [if_neg e1, mup_same]
          have hsh : shapeS (Tt T r c) = if -2147483648 ≤ valS (Tt T r c) ∧ valS (Tt T r c) ≤ 2147483647 then 0 else 1 := by
            unfold shapeS; rw [if_pos hw]
          have nf (h : ¬ (-2147483648 ≤ valS (Tt T r c) ∧ valS (Tt T r c) ≤ 2147483647)) : ¬ fitC (Tq T r c) (Tt T r c) 0 = true := by
            rw [if_neg h] at hsh
            intro f
            rcases (fitC_iff.mp f).2 with f | f <;> omega
          by_cases l1 : valS (Tt T r c) < -2147483648
          · rw [if_pos (cmp3_lt0.mpr l1), if_neg (nf (by omega))]
          · rw [if_neg (fun e => l1 (cmp3_lt0.mp e))]
            by_cases l2 : 2147483647 < valS (Tt T r c)
            · rw [if_pos (cmp3_gt0.mpr l2), if_neg (nf (by omega))]
            · rw [if_neg (fun e => l2 (cmp3_gt0.mp e)), if_pos]
              rw [if_pos (by omega)] at hsh
              exact fitC_iff.mpr ⟨q0, Or.inl hsh⟩
      · rw [if_neg hw]
        simp only [Option.bind_some]
        have nf : ¬ fitC (Tq T r c) (Tt T r c) ty = true := by
          intro f
          rcases (fitC_iff.mp f).2 with f | f
          · exact hw (shape_whole.mp (by omega))
          · exact hw (shape_whole.mp (by omega))
        exact ⟨m, by rw [if_pos trivial, if_neg nf], Fr.rf, fun f => absurd f nf⟩
  · have nf : ¬ fitC (Tq T r c) (Tt T r c) ty = true := fun f => q0 (fitC_iff.mp f).1
    exact ⟨m, by rw [if_neg q0, if_neg nf], Fr.rf, fun f => absurd f nf⟩
theorem k_isNone {m : aM} {T : Tb} (wt : WT T) (kc : KC m T) {r c : Int} (h1 : 0 ≤ r) (h2 : r < Tr T) (h3 : 0 ≤ c) (h4 : c < Tn T) : fM_isNone m r c = some (if missB T r c then 1 else 0) := by
  obtain ⟨k1, k2, k3, k4, k5⟩ := kc.2 r c h1 h2 h3 h4
  have w1 := wt.1
  have w2 := wt.2.1
  unfold fM_isNone
  rw [w32_id (x := 6 * r) (by omega) (by omega), w32_id (x := 6 * r + c) (by omega) (by omega), gd_pos (by omega), k4]
  by_cases e : missB T r c = true
  · rw [if_pos e, if_pos e, if_pos (by decide)]
  · rw [if_neg e, if_neg e, if_neg (by omega)]
theorem r_fitsAll {m : aM} {T : Tb} (wt : WT T) (kc : KC m T) {c ty : Int} (h3 : 0 ≤ c) (h4 : c < Tn T) (t0 : 0 ≤ ty) (t3 : ty < 3) : ∃ m', fM_fitsAll m c ty = some (if fitAll T c ty then 1 else 0, m') ∧ Fr scr m m' := by
  have w1 := wt.1
  have w2 := wt.2.1
  unfold fM_fitsAll fM_fitsAll_5
  obtain ⟨v, hv, hP1, hP2⟩ := aLoop_ok (f := fM_fitsAll_5_b c ty) (Inv := fun x : aM × Int × Int => Fr scr m x.1 ∧ 0 ≤ x.2.2 ∧ x.2.2 ≤ Tr T ∧ (x.2.1 = 0 ∨ x.2.1 = 1) ∧ (x.2.1 = 1 ↔ ∀ q, 0 ≤ q → q < x.2.2 → missB T q c = true ∨ fitC (Tq T q c) (Tt T q c) ty = true)) (μ := fun x => (Tr T - x.2.2).toNat) (Post := fun v => (v.1 = if fitAll T c ty then 1 else 0) ∧ Fr scr m v.2) (by
    rintro ⟨m1, g, r⟩ ⟨fr, g1, g2, g3, g4⟩
    simp only at fr g1 g2 g3 g4
    have kc1 := kc.scr fr
    unfold fM_fitsAll_5_b
    simp only
    rw [kc1.1]
    by_cases hr : r < Tr T
    · left
      rw [if_pos hr, w32_id (x := r + 1) (by omega) (by omega)]
      have next {v : Int} (h : v = 1 ↔ (g = 1 ∧ (missB T r c = true ∨ fitC (Tq T r c) (Tt T r c) ty = true))) : v = 1 ↔ ∀ q, 0 ≤ q → q < r + 1 → missB T q c = true ∨ fitC (Tq T q c) (Tt T q c) ty = true := by
        rw [h, g4]
        refine ⟨fun ⟨a, b⟩ q q0 q1 => ?_, fun a => ⟨fun q q0 q1 => a q q0 (by omega), a r g1 (by omega)⟩⟩
        by_cases e : q = r
        · rw [e]; exact b
        · exact a q q0 (by omega)
      by_cases hg : g = 0
      · rw [if_pos hg]
        exact ⟨_, rfl, ⟨fr, by simp only; omega, by simp only; omega, Or.inl rfl, next (v := 0) ⟨fun e => absurd e (by decide), fun e => by omega⟩⟩, by simp only; omega⟩
      · have hg1 : g = 1 := by omega
        rw [if_neg hg, k_isNone wt kc1 g1 hr h3 h4, w32_id (x := 6 * r) (by omega) (by omega), w32_id (x := 6 * r + c) (by omega) (by omega)]
        simp only [Option.bind_some]
        by_cases hm : missB T r c = true
        · rw [if_pos hm, if_neg (by decide)]
          exact ⟨_, rfl, ⟨fr, by simp only; omega, by simp only; omega, Or.inr rfl, next ⟨fun _ => ⟨hg1, Or.inl hm⟩, fun _ => rfl⟩⟩, by simp only; omega⟩
        · obtain ⟨m2, e1, e2, -⟩ := r_fits wt kc1 g1 hr h3 h4 (by simpa using hm) t0 t3
          rw [if_neg hm, if_pos rfl, e1]
          simp only [Option.bind_some]
          by_cases hf : fitC (Tq T r c) (Tt T r c) ty = true
          · rw [if_pos hf, if_neg (by decide)]
            exact ⟨_, rfl, ⟨fr.tr e2, by simp only; omega, by simp only; omega, Or.inr rfl, next ⟨fun _ => ⟨hg1, Or.inr hf⟩, fun _ => rfl⟩⟩, by simp only; omega⟩
          · rw [if_neg hf, if_pos rfl]
            exact ⟨_, rfl, ⟨fr.tr e2, by simp only; omega, by simp only; omega, Or.inl rfl, next (v := 0) ⟨fun e => absurd e (by decide), fun e => absurd e.2 (fun o => o.elim hm hf)⟩⟩, by simp only; omega⟩
    · right
      rw [if_neg hr, gd_pos g3]
      refine ⟨_, rfl, ?_, fr⟩
      simp only
      by_cases hf : fitAll T c ty = true
      · rw [if_pos hf]
        exact g4.mpr (fun q q0 q1 => fitAll_iff.mp hf q q0 (by omega))
      · rw [if_neg hf]
        have : g ≠ 1 := fun e => hf (fitAll_iff.mpr (fun q q0 q1 => g4.mp e q q0 (by omega)))
        omega) FU (m, 1, 0) ⟨Fr.rf, by simp only; omega, by simp only; omega, Or.inr rfl, ⟨fun _ q q0 q1 => by simp only at q1; omega, fun _ => rfl⟩⟩ (by show (Tr T - 0).toNat < 1000000; omega)
  exact ⟨v.2, by rw [hv, ← hP1], hP2⟩
