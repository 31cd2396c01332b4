/-! dates, as the reference reads them -/
abbrev scr (y j : Int) : Prop := y = 130 ∧ (j = 19 ∨ j = 20)
theorem sl_congr {m m' : aM} {x a b : Int} (h : ∀ j, a ≤ j → j < b → m' x j = m x j) : sl m' x a b = sl m x a b := by
  unfold sl
  refine List.map_congr_left fun k hk => ?_
  rw [List.mem_range] at hk
  exact h _ (by omega) (by omega)
theorem r_isDate {m : aM} {a b : Int} (ha : 0 ≤ a) (hab : a ≤ b) (hb : b ≤ 600) (hch : ∀ j, a ≤ j → j < b → chOK (m 131 j)) : ∃ m', fM_isDate m a b = some (if dateS (sl m 131 a b) then 1 else 0, m') ∧ Fr scr m m' ∧ (dateS (sl m 131 a b) = true → m' 130 20 = valS (sl m 131 a b)) := by
  unfold fM_isDate
  rw [w32_id (x := b - a) (by omega) (by omega)]
  by_cases hl : b - a = 10
  · obtain rfl : b = a + 10 := by omega
    rw [if_pos hl, w32_id (x := a + 4) (by omega) (by omega), gd_pos (by omega), w32_id (x := a + 7) (by omega) (by omega), w32_id (x := a + 5) (by omega) (by omega), w32_id (x := a + 8) (by omega) (by omega)]
    rw [sl10]
    by_cases h4 : m 131 (a + 4) = 45
    · rw [if_pos h4, gd_pos (by omega)]
      by_cases h7 : m 131 (a + 7) = 45
      · rw [if_pos h7]
        obtain ⟨m1, hm1⟩ : ∃ m1, m1 = mup m 130 19 1 := ⟨_, rfl⟩
        rw [← hm1]
        have r1 (y j : Int) (h : ¬ scr y j) : m1 y j = m y j := by
          rw [hm1]
          exact if_neg (fun e => h ⟨e.1, Or.inl e.2⟩)
        have d1 := r_digits (m := m1) (a := a) (n := 4) ha (by omega) (by omega) (fun j h1 h2 => by rw [r1 131 j (fun e => absurd e.1 (by decide))]; exact hch j (by omega) (by omega)) (Or.inr (by rw [hm1]; exact mup_same _ _ _ _))
        rw [sl4, r1 131 a (fun e => absurd e.1 (by decide)), r1 131 (a + 1) (fun e => absurd e.1 (by decide)), r1 131 (a + 2) (fun e => absurd e.1 (by decide)), r1 131 (a + 3) (fun e => absurd e.1 (by decide)), show m1 130 19 = 1 by rw [hm1]; exact mup_same _ _ _ _] at d1
        obtain ⟨g1, hg1⟩ : ∃ g : Int, g = (if (1 : Int) = 1 ∧ [m 131 a, m 131 (a + 1), m 131 (a + 2), m 131 (a + 3)].all dg = true then 1 else 0) := ⟨_, rfl⟩
        have hg1' : g1 = if [m 131 a, m 131 (a + 1), m 131 (a + 2), m 131 (a + 3)].all dg = true then 1 else 0 := by
          rw [hg1]
          by_cases h : [m 131 a, m 131 (a + 1), m 131 (a + 2), m 131 (a + 3)].all dg = true
          · rw [if_pos ⟨rfl, h⟩, if_pos h]
          · rw [if_neg (fun e => h e.2), if_neg h]
        have d1' : fM_digits m1 a 4 = some (mg 0 [m 131 a, m 131 (a + 1), m 131 (a + 2), m 131 (a + 3)], mup m 130 19 g1) := by
          rw [d1, hg1, hm1, mup_up]
        rw [d1']
        simp only [Option.bind_some]
        clear d1 d1' hg1
        have r2 (g : Int) (y j : Int) (h : ¬ scr y j) : mup m 130 19 g y j = m y j := if_neg (fun e => h ⟨e.1, Or.inl e.2⟩)
        have n131 (j : Int) : ¬ scr 131 j := fun e => absurd e.1 (by decide)
        have d2 := r_digits (m := mup m 130 19 g1) (a := a + 5) (n := 2) (by omega) (by omega) (by omega) (fun j h1 h2 => by rw [r2 g1 131 j (n131 j)]; exact hch j (by omega) (by omega)) (by rw [mup_same, hg1']; split <;> simp)
        rw [sl2, r2 g1 131 _ (n131 _), r2 g1 131 _ (n131 _), mup_same, mup_up, show a + 5 + 1 = a + 6 by omega] at d2
        rw [d2]
        simp only [Option.bind_some]
        obtain ⟨g2, hg2⟩ : ∃ g : Int, g = (if g1 = 1 ∧ [m 131 (a + 5), m 131 (a + 6)].all dg = true then 1 else 0) := ⟨_, rfl⟩
        rw [← hg2]
        have d3 := r_digits (m := mup m 130 19 g2) (a := a + 8) (n := 2) (by omega) (by omega) (by omega) (fun j h1 h2 => by rw [r2 g2 131 j (n131 j)]; exact hch j (by omega) (by omega)) (by rw [mup_same, hg2]; split <;> simp)
        rw [sl2, r2 g2 131 _ (n131 _), r2 g2 131 _ (n131 _), mup_same, mup_up, show a + 8 + 1 = a + 9 by omega] at d3
        rw [d3]
        simp only [Option.bind_some]
        obtain ⟨g3, hg3⟩ : ∃ g : Int, g = (if g2 = 1 ∧ [m 131 (a + 8), m 131 (a + 9)].all dg = true then 1 else 0) := ⟨_, rfl⟩
        rw [← hg3]
        obtain ⟨Y, hY⟩ : ∃ Y, Y = mg 0 [m 131 a, m 131 (a + 1), m 131 (a + 2), m 131 (a + 3)] := ⟨_, rfl⟩
        obtain ⟨M, hM⟩ : ∃ M, M = mg 0 [m 131 (a + 5), m 131 (a + 6)] := ⟨_, rfl⟩
        obtain ⟨D, hD⟩ : ∃ D, D = mg 0 [m 131 (a + 8), m 131 (a + 9)] := ⟨_, rfl⟩
        rw [← hY, ← hM, ← hD]
        have c0 : 0 ≤ m 131 a ∧ m 131 a ≤ 255 := hch a (by omega) (by omega)
        have c1 : 0 ≤ m 131 (a + 1) ∧ m 131 (a + 1) ≤ 255 := hch _ (by omega) (by omega)
        have c2 : 0 ≤ m 131 (a + 2) ∧ m 131 (a + 2) ≤ 255 := hch _ (by omega) (by omega)
        have c3 : 0 ≤ m 131 (a + 3) ∧ m 131 (a + 3) ≤ 255 := hch _ (by omega) (by omega)
        have c5 : 0 ≤ m 131 (a + 5) ∧ m 131 (a + 5) ≤ 255 := hch _ (by omega) (by omega)
        have c6 : 0 ≤ m 131 (a + 6) ∧ m 131 (a + 6) ≤ 255 := hch _ (by omega) (by omega)
        have c8 : 0 ≤ m 131 (a + 8) ∧ m 131 (a + 8) ≤ 255 := hch _ (by omega) (by omega)
        have c9 : 0 ≤ m 131 (a + 9) ∧ m 131 (a + 9) ≤ 255 := hch _ (by omega) (by omega)
        have hY' : Y = (((0 * 10 + (m 131 a - 48)) * 10 + (m 131 (a + 1) - 48)) * 10 + (m 131 (a + 2) - 48)) * 10 + (m 131 (a + 3) - 48) := hY
        have hM' : M = (0 * 10 + (m 131 (a + 5) - 48)) * 10 + (m 131 (a + 6) - 48) := hM
        have hD' : D = (0 * 10 + (m 131 (a + 8) - 48)) * 10 + (m 131 (a + 9) - 48) := hD
        have yr : -60000 ≤ Y ∧ Y ≤ 300000 := by omega
        have mr : -600 ≤ M ∧ M ≤ 3000 := by omega
        have dr : -600 ≤ D ∧ D ≤ 3000 := by omega
        obtain ⟨good, hgood⟩ : ∃ g : Bool, g = [m 131 a, m 131 (a + 1), m 131 (a + 2), m 131 (a + 3), m 131 (a + 5), m 131 (a + 6), m 131 (a + 8), m 131 (a + 9)].all dg := ⟨_, rfl⟩
        have hg3' : g3 = if good = true then 1 else 0 := by
          obtain ⟨A, hA⟩ : ∃ A : Bool, A = [m 131 a, m 131 (a + 1), m 131 (a + 2), m 131 (a + 3)].all dg := ⟨_, rfl⟩
          obtain ⟨B, hB⟩ : ∃ B : Bool, B = [m 131 (a + 5), m 131 (a + 6)].all dg := ⟨_, rfl⟩
          obtain ⟨C, hC⟩ : ∃ C : Bool, C = [m 131 (a + 8), m 131 (a + 9)].all dg := ⟨_, rfl⟩
          have hABC : good = (A && (B && C)) := by
            rw [hgood, hA, hB, hC]
            simp only [List.all_cons, List.all_nil, Bool.and_true, Bool.and_assoc]
          rw [hg3, hg2, hg1', hABC, ← hA, ← hB, ← hC]
          cases A <;> cases B <;> cases C <;> rfl
        have e153 (mo : Int) (hmo : mo = mdays (leapB Y) M) : fM_isDate_153 (mup m 130 19 g3) Y M D mo = some (if (good && dayOK Y M D) = true then 1 else 0, mup (mup m 130 19 g3) 130 20 (10000 * Y + 100 * M + D)) := by
          unfold fM_isDate_153
          rw [mup_same, w64_id (x := 10000 * Y) (by omega) (by omega), w64_id (x := 100 * M) (by omega) (by omega), w64_id (x := 10000 * Y + 100 * M) (by omega) (by omega), w64_id (x := 10000 * Y + 100 * M + D) (by omega) (by omega)]
          by_cases hgb : good = true
          case neg =>
            have g30 : g3 = 0 := by rw [hg3', if_neg hgb]
            rw [Bool.not_eq_true] at hgb
            rw [g30, hgb]
            rfl
          case pos =>
            have g31 : g3 = 1 := by rw [hg3', if_pos hgb]
            rw [g31, hgb, if_neg (by decide), Bool.true_and]
            unfold dayOK
            by_cases q1 : 0 < Y
            · rw [if_pos q1]
              by_cases q2 : 0 < M
              · rw [if_pos q2]
                by_cases q3 : M < 13
                · rw [if_pos q3]
                  by_cases q4 : 0 < D
                  · rw [if_pos q4]
                    by_cases q5 : mo < D
                    · rw [if_pos q5, if_neg (by rw [decide_eq_true_iff]; rintro ⟨_, _, _, _, h⟩; omega)]
                    · rw [if_neg q5, if_pos (by rw [decide_eq_true_iff]; exact ⟨by omega, by omega, by omega, by omega, by omega⟩)]
                  · rw [if_neg q4, if_neg (by rw [decide_eq_true_iff]; rintro ⟨_, _, _, h, _⟩; omega)]
                · rw [if_neg q3, if_neg (by rw [decide_eq_true_iff]; rintro ⟨_, _, h, _, _⟩; omega)]
              · rw [if_neg q2, if_neg (by rw [decide_eq_true_iff]; rintro ⟨_, h, _, _, _⟩; omega)]
            · rw [if_neg q1, if_neg (by rw [decide_eq_true_iff]; rintro ⟨h, _, _, _, _⟩; omega)]
        have e96 (l : Bool) (hlp : l = leapB Y) : fM_isDate_96 (mup m 130 19 g3) Y M D (if l then 1 else 0) = some (if (good && dayOK Y M D) = true then 1 else 0, mup (mup m 130 19 g3) 130 20 (10000 * Y + 100 * M + D)) := by
          unfold fM_isDate_96
          rw [← hlp] at e153
          by_cases m2 : M = 2
          · rw [if_pos m2]
            cases l with
            | false => rw [if_pos (by rfl)]; exact e153 28 (by rw [m2]; rfl)
            | true => rw [if_neg (by decide)]; exact e153 29 (by rw [m2]; rfl)
          · rw [if_neg m2]
            by_cases m4 : M = 4
            · rw [if_pos m4]; exact e153 30 (by unfold mdays; rw [if_neg m2, if_pos (by omega)])
            rw [if_neg m4]
            by_cases m6 : M = 6
            · rw [if_pos m6]; exact e153 30 (by unfold mdays; rw [if_neg m2, if_pos (by omega)])
            rw [if_neg m6]
            by_cases m9 : M = 9
            · rw [if_pos m9]; exact e153 30 (by unfold mdays; rw [if_neg m2, if_pos (by omega)])
            rw [if_neg m9]
            by_cases m11 : M = 11
            · rw [if_pos m11]; exact e153 30 (by unfold mdays; rw [if_neg m2, if_pos (by omega)])
            rw [if_neg m11]
            exact e153 31 (by unfold mdays; rw [if_neg m2, if_neg (by omega)])
        have et := e96 true
        have ef := e96 false
        rw [if_pos rfl] at et
        rw [if_neg (by decide)] at ef
        have fin : (if Int.tmod Y 4 = 0 then if Int.tmod Y 100 = 0 then if Int.tmod Y 400 = 0 then fM_isDate_96 (mup m 130 19 g3) Y M D 1 else fM_isDate_96 (mup m 130 19 g3) Y M D 0 else fM_isDate_96 (mup m 130 19 g3) Y M D 1 else fM_isDate_96 (mup m 130 19 g3) Y M D 0) = some (if (good && dayOK Y M D) = true then 1 else 0, mup (mup m 130 19 g3) 130 20 (10000 * Y + 100 * M + D)) := by
          by_cases l1 : Int.tmod Y 4 = 0
          · rw [if_pos l1]
            by_cases l2 : Int.tmod Y 100 = 0
            · rw [if_pos l2]
              by_cases l3 : Int.tmod Y 400 = 0
              · rw [if_pos l3, et (decide_eq_true ⟨l1, Or.inr l3⟩).symm]
              · rw [if_neg l3, ef (decide_eq_false (fun h => h.2.elim (fun q => q l2) l3)).symm]
            · rw [if_neg l2, et (decide_eq_true ⟨l1, Or.inl l2⟩).symm]
          · rw [if_neg l1, ef (decide_eq_false (fun h => l1 h.1)).symm]
        have ed : dateS [m 131 a, m 131 (a + 1), m 131 (a + 2), m 131 (a + 3), m 131 (a + 4), m 131 (a + 5), m 131 (a + 6), m 131 (a + 7), m 131 (a + 8), m 131 (a + 9)] = (good && dayOK Y M D) := by
          show (decide (m 131 (a + 4) = 45 ∧ m 131 (a + 7) = 45) && [m 131 a, m 131 (a + 1), m 131 (a + 2), m 131 (a + 3), m 131 (a + 5), m 131 (a + 6), m 131 (a + 8), m 131 (a + 9)].all dg && dayOK _ _ _) = _
          rw [decide_eq_true ⟨h4, h7⟩, Bool.true_and, ← hgood, ← hY, ← hM, ← hD]
        rw [ed]
        refine ⟨_, fin, (Fr.rf.up ⟨rfl, Or.inl rfl⟩).up ⟨rfl, Or.inr rfl⟩, fun hgd => ?_⟩
        rw [mup_same]
        rw [Bool.and_eq_true] at hgd
        have hgg := hgd.1
        rw [hgood] at hgg
        simp only [List.all_cons, List.all_nil, Bool.and_true, Bool.and_eq_true] at hgg
        obtain ⟨k0, k1, k2, k3, k5, k6, k8, k9⟩ := hgg
        have z0 := dg_iff.mp k0
        have z1 := dg_iff.mp k1
        have z2 := dg_iff.mp k2
        have z3 := dg_iff.mp k3
        have z5 := dg_iff.mp k5
        have z6 := dg_iff.mp k6
        have z8 := dg_iff.mp k8
        have z9 := dg_iff.mp k9
        unfold valS
        rw [if_neg (by show ¬ some (m 131 a) = some 45; intro h; have := Option.some.inj h; omega), h4, h7]
        simp only [nv, k0, k1, k2, k3, k5, k6, k8, k9, if_true, show dg 45 = false from rfl, Bool.false_eq_true, if_false]
        rw [w64_id (by omega) (by omega)]
        omega
      · rw [if_neg h7]
        have : dateS [m 131 a, m 131 (a + 1), m 131 (a + 2), m 131 (a + 3), m 131 (a + 4), m 131 (a + 5), m 131 (a + 6), m 131 (a + 7), m 131 (a + 8), m 131 (a + 9)] = false := by
          show (decide (m 131 (a + 4) = 45 ∧ m 131 (a + 7) = 45) && _ && _) = false
          rw [decide_eq_false (fun h => h7 h.2)]
          rfl
        rw [this]
        exact ⟨m, rfl, Fr.rf, fun h => by cases h⟩
    · rw [if_neg h4]
      have : dateS [m 131 a, m 131 (a + 1), m 131 (a + 2), m 131 (a + 3), m 131 (a + 4), m 131 (a + 5), m 131 (a + 6), m 131 (a + 7), m 131 (a + 8), m 131 (a + 9)] = false := by
        show (decide (m 131 (a + 4) = 45 ∧ m 131 (a + 7) = 45) && _ && _) = false
        rw [decide_eq_false (fun h => h4 h.1)]
        rfl
      rw [this]
      exact ⟨m, rfl, Fr.rf, fun h => by cases h⟩
  · rw [if_neg hl]
    have : dateS (sl m 131 a b) = false := by
      have hlen := sl_len m 131 a b
      unfold dateS
      split
      · rename_i heq
        rw [heq] at hlen
        simp at hlen
        omega
      · rfl
    rw [this]
    exact ⟨m, rfl, Fr.rf, fun h => by cases h⟩
