/-! ASK: the lines of the reference -/
/-- what a line of the reference holds of a group -/
def LR (T : Tb) (kd c : Int) (q : aM) (l : Int) (g : List Int) : Prop := q 152 l = (g.length : Int) ∧ (kd = 3 → ∃ s b, sumG T c g = some (s, b) ∧ q 153 l = s ∧ (b = true ↔ 0 ≤ q 154 l)) ∧ (4 ≤ kd → q 154 l = bestG T c kd g)
theorem LR.of {T : Tb} {kd c : Int} {q q' : aM} {l l' : Int} {g : List Int} (h : LR T kd c q l g) (e : ∀ y, 152 ≤ y → y ≤ 154 → q' y l' = q y l) : LR T kd c q' l' g := by
  unfold LR
  rw [e 152 (by decide) (by decide), e 153 (by decide) (by decide), e 154 (by decide) (by decide)]
  exact h
abbrev gaP (l y j : Int) : Prop := 152 ≤ y ∧ y ≤ 154 ∧ j = l
theorem ga_row {l : Int} {q q' : aM} (f : Fr (gaP l) q q') {y : Int} (h : ¬ (152 ≤ y ∧ y ≤ 154)) : q' y = q y := by
  funext j
  exact f y j (fun e => h ⟨e.1, e.2.1⟩)
theorem ga_aq {l : Int} {q q' : aM} (f : Fr (gaP l) q q') : Fr aqP q q' := f.wk (fun y j e => Or.inr ⟨by omega, by omega⟩)
section
variable {T : Tb} {kd c k : Int} {q : aM} {u : Int → Int} {n : Int}
/-- a row comes to a line -/
theorem r_gather {l r : Int} {g : List Int} (wt : WT T) (hE : EM q T u n) (hk : 2 ≤ kd ∧ kd ≤ 5) (h38 : q 130 38 = kd - 1) (h40 : 3 ≤ kd → q 130 40 = c ∧ 0 ≤ c ∧ c < Tn T) (h3 : kd = 3 → tyS T c ≤ 1) (l0 : 0 ≤ l) (l1 : l < 16) (hL : LR T kd c q l g) (hg : (g.length : Int) ≤ 16) (hgr : ∀ x ∈ g, 0 ≤ x ∧ x < Tr T) (r0 : 0 ≤ r) (r1 : r < Tr T) : ∃ o q', fM_gather q l r = some (o, q') ∧ Fr (gaP l) q q' ∧ ((o = 0 ∧ kd = 3 ∧ sumG T c (g ++ [r]) = none) ∨ (o = 1 ∧ LR T kd c q' l (g ++ [r]))) := by
  have mt := hE.2
  have w1 := wt.1
  have w2 := wt.2.1
  obtain ⟨L1, L2, L3⟩ := hL
  have gl : ((g ++ [r]).length : Int) = (g.length : Int) + 1 := by rw [List.length_append]; simp only [List.length_cons, List.length_nil]; omega
  unfold fM_gather fM_gather_100 fM_gather_149
  obtain ⟨q1, eq1⟩ : ∃ q1, q1 = mup q 152 l (w32 (q 152 l + 1)) := ⟨_, rfl⟩
  rw [← eq1]
  have f1 : Fr (gaP l) q q1 := by rw [eq1]; exact Fr.rf.up ⟨by decide, by decide, rfl⟩
  have e152 : q1 152 l = ((g ++ [r]).length : Int) := by rw [eq1, mup_same, L1, w32_id (by omega) (by omega), gl]
  have e153 : q1 153 = q 153 := by rw [eq1, row_up (by decide)]
  have e154 : q1 154 = q 154 := by rw [eq1, row_up (by decide)]
  have e38 : q1 130 38 = kd - 1 := by rw [ga_row f1 (by decide)]; exact h38
  rw [gd_pos ⟨l0, l1⟩, h38, e38]
  by_cases k2 : kd = 2
  · rw [if_pos (by omega)]
    exact ⟨1, q1, rfl, f1, Or.inr ⟨rfl, e152, by omega, by omega⟩⟩
  rw [if_neg (by omega)]
  obtain ⟨e40, c0, c1⟩ := h40 (by omega)
  have hE1 := hE.fr (ga_aq f1)
  rw [e40, r_isNone wt hE1.2 r0 r1 c0 c1]
  simp only [Option.bind_some]
  cases hm : missB T r c
  · rw [if_pos (by rfl)]
    obtain ⟨-, -, nm, d⟩ := mt
    obtain ⟨d1, d2, d3, d4, d5, d6⟩ := d r c r0 r1 c0 c1
    rw [hm] at d6
    by_cases k3 : kd = 3
    · obtain ⟨s, b, s1, s2, s3⟩ := L2 k3
      have ev := d6 (by have := h3 k3; omega)
      rw [if_neg (show ¬ (false = true) by decide)] at ev
      have es : sumG T c (g ++ [r]) = if (valS (Tt T r c) < 0 ∧ s < w64 (s + valS (Tt T r c))) ∨ (0 ≤ valS (Tt T r c) ∧ w64 (s + valS (Tt T r c)) < s) then none else some (w64 (s + valS (Tt T r c)), true) := by
        rw [sumG_snoc, s1]
        show (if missB T r c then some (s, b) else if (valS (Tt T r c) < 0 ∧ s < w64 (s + valS (Tt T r c))) ∨ (0 ≤ valS (Tt T r c) ∧ w64 (s + valS (Tt T r c)) < s) then none else some (w64 (s + valS (Tt T r c)), true)) = _
        rw [hm, if_neg (by decide)]
      rw [if_pos (by omega), w32_id (x := 6 * r) (by omega) (by omega), w32_id (x := 6 * r + c) (by omega) (by omega), gd_pos (by omega), ev, s2, es]
      obtain ⟨v, hv⟩ : ∃ v, v = valS (Tt T r c) := ⟨_, rfl⟩
      rw [← hv]
      have good (hok : ¬ ((v < 0 ∧ s < w64 (s + v)) ∨ (0 ≤ v ∧ w64 (s + v) < s))) : ∃ o q', (gd (0 ≤ l ∧ l < 16) (some ((1, mup (mup q1 153 l (w64 (s + v))) 154 l r))) : Option (Int × aM)) = some (o, q') ∧ Fr (gaP l) q q' ∧ ((o = 0 ∧ kd = 3 ∧ (if (v < 0 ∧ s < w64 (s + v)) ∨ (0 ≤ v ∧ w64 (s + v) < s) then none else some (w64 (s + v), true)) = none) ∨ (o = 1 ∧ LR T kd c q' l (g ++ [r]))) := by
        rw [gd_pos ⟨l0, l1⟩]
        refine ⟨1, _, rfl, (f1.up ⟨by decide, by decide, rfl⟩).up ⟨by decide, by decide, rfl⟩, Or.inr ⟨rfl, ?_, fun _ => ⟨w64 (s + v), true, ?_, ?_, ?_⟩, by omega⟩⟩
        · rw [mup_ref (by decide), mup_ref (by decide)]; exact e152
        · rw [es, ← hv, if_neg hok]
        · rw [mup_ref (by decide), mup_same]
        · rw [mup_same]
          exact ⟨fun _ => r0, fun _ => rfl⟩
      have badc (hb : (v < 0 ∧ s < w64 (s + v)) ∨ (0 ≤ v ∧ w64 (s + v) < s)) : ∃ o q', (some ((0, q1)) : Option (Int × aM)) = some (o, q') ∧ Fr (gaP l) q q' ∧ ((o = 0 ∧ kd = 3 ∧ (if (v < 0 ∧ s < w64 (s + v)) ∨ (0 ≤ v ∧ w64 (s + v) < s) then none else some (w64 (s + v), true)) = none) ∨ (o = 1 ∧ LR T kd c q' l (g ++ [r]))) := ⟨0, q1, rfl, f1, Or.inl ⟨rfl, k3, if_pos hb⟩⟩
      by_cases vp : 0 < v
      · rw [if_pos (cmp3_gt0.mpr vp)]
        by_cases o : w64 (s + v) < s
        · rw [if_pos (cmp3_lt0.mpr o)]
          exact badc (Or.inr ⟨by omega, o⟩)
        · rw [if_neg (fun g => o (cmp3_lt0.mp g))]
          exact good (by omega)
      · rw [if_neg (fun g => vp (cmp3_gt0.mp g))]
        by_cases o : s < w64 (s + v)
        · rw [if_pos (cmp3_gt0.mpr o)]
          refine badc (Or.inl ⟨?_, o⟩)
          rcases Int.lt_or_le v 0 with h | h
          · exact h
          · have v0 : v = 0 := by omega
            have si := sumG_rng g s b s1
            unfold i64 at si
            rw [v0, Int.add_zero, w64_id si.1 si.2] at o
            omega
        · rw [if_neg (fun g => o (cmp3_gt0.mp g))]
          by_cases v0 : v = 0
          · have si := sumG_rng g s b s1
            unfold i64 at si
            have : w64 (s + v) = s := by rw [v0, Int.add_zero, w64_id si.1 si.2]
            exact good (by omega)
          · exact good (by omega)
    · have e4 := L3 (by omega)
      have br := bestG_rng (T := T) (c := c) (kd := kd) g
      rw [if_neg (show ¬ kd - 1 = 2 by omega), gd_pos ⟨l0, l1⟩, e154, e4]
      have fin (v : Int) (hv : v = bestG T c kd (g ++ [r])) : ∃ o q', (some ((1, mup q1 154 l v)) : Option (Int × aM)) = some (o, q') ∧ Fr (gaP l) q q' ∧ ((o = 0 ∧ kd = 3 ∧ sumG T c (g ++ [r]) = none) ∨ (o = 1 ∧ LR T kd c q' l (g ++ [r]))) := ⟨1, _, rfl, f1.up ⟨by decide, by decide, rfl⟩, Or.inr ⟨rfl, by rw [mup_ref (by decide)]; exact e152, by omega, fun _ => by rw [mup_same]; exact hv⟩⟩
      rw [bestG_snoc] at fin
      unfold bestS at fin
      rw [hm, if_neg (show ¬ (false = true) by decide)] at fin
      by_cases b1 : bestG T c kd g = -1
      · rw [if_pos (by omega), if_pos (by omega)]
        rw [if_pos b1] at fin
        exact fin r rfl
      · have br' := br.resolve_left b1
        have bb := hgr _ br'.1
        rw [if_neg b1] at fin
        rw [if_neg (by omega), r_compareCells wt hE1.2 r0 r1 c0 c1 bb.1 bb.2 c0 c1 hm br'.2 Iff.rfl]
        simp only [Option.bind_some]
        rw [gd_pos ⟨l0, l1⟩, if_neg (by omega)]
        by_cases k4 : kd = 4
        · rw [if_pos (show kd - 1 = 3 by omega)]
          by_cases z : zc T r c (bestG T c kd g) c < 0
          · rw [if_pos (sgn_lt.mpr z)]
            exact fin r (by rw [if_pos (Or.inl ⟨k4, z⟩)])
          · rw [if_neg (fun g => z (sgn_lt.mp g))]
            exact fin _ (by rw [if_neg (by omega)])
        · rw [if_neg (show ¬ kd - 1 = 3 by omega)]
          by_cases z : 0 < zc T r c (bestG T c kd g) c
          · rw [if_pos (sgn_gt.mpr z)]
            exact fin r (by rw [if_pos (Or.inr ⟨k4, z⟩)])
          · rw [if_neg (fun g => z (sgn_gt.mp g))]
            exact fin _ (by rw [if_neg (by omega)])
  · rw [if_neg (show ¬ ((if true = true then (1 : Int) else 0) = 0) by decide)]
    refine ⟨1, q1, rfl, f1, Or.inr ⟨rfl, e152, fun k3 => ?_, fun k4 => ?_⟩⟩
    · obtain ⟨s, b, s1, s2, s3⟩ := L2 k3
      refine ⟨s, b, ?_, by rw [e153]; exact s2, by rw [e154]; exact s3⟩
      rw [sumG_snoc, s1]
      show (if missB T r c then some (s, b) else _) = _
      rw [hm, if_pos rfl]
    · rw [e154, L3 k4, bestG_snoc]
      unfold bestS
      rw [hm, if_pos rfl]
def lns (T : Tb) (kd c : Int) (q : aM) : Int → List (List Int) → Prop
  | _, [] => True
  | x, g :: gs => LR T kd c q x g ∧ q 151 x = rep g ∧ lns T kd c q (x + 1) gs
theorem lns_of {q' : aM} {d : Int} : ∀ {gs : List (List Int)} {x : Int}, (∀ y j, 151 ≤ y → y ≤ 154 → x ≤ j → j < x + (gs.length : Int) → q' y (j + d) = q y j) → lns T kd c q x gs → lns T kd c q' (x + d) gs
  | [], _, _, _ => trivial
  | g :: gs, x, e, h => ⟨h.1.of (fun y a b => e y x (by omega) b (by omega) (by simp only [List.length_cons]; omega)), (e 151 x (by decide) (by decide) (by omega) (by simp only [List.length_cons]; omega)).trans h.2.1, by
      have := lns_of (q' := q') (d := d) (gs := gs) (x := x + 1) (fun y j a b p r => e y j a b (by omega) (by simp only [List.length_cons]; omega)) h.2.2
      rwa [show x + 1 + d = x + d + 1 by omega] at this⟩
theorem lns_of0 {q' : aM} {gs : List (List Int)} {x : Int} (e : ∀ y j, 151 ≤ y → y ≤ 154 → x ≤ j → j < x + (gs.length : Int) → q' y j = q y j) (h : lns T kd c q x gs) : lns T kd c q' x gs := by
  have := lns_of (q' := q') (d := 0) (fun y j a b p r => by rw [Int.add_zero]; exact e y j a b p r) h
  rwa [Int.add_zero] at this
abbrev loP (y j : Int) : Prop := (y = 130 ∧ j = 37) ∨ (151 ≤ y ∧ y ≤ 154)
theorem lo_aq {q q' : aM} (f : Fr loP q q') : Fr aqP q q' := f.wk (fun y j e => by
  rcases e with e | e
  · exact Or.inl ⟨e.1, by omega⟩
  · exact Or.inr ⟨by omega, by omega⟩)
/-- the lines behind a place move on -/
theorem r_shift {r x : Int} (x0 : 0 ≤ x) : ∀ (t : Nat) (m : aM) (y3 : Int) (f : Nat), y3 = x + (t : Int) → y3 < 16 → t < f → 0 ≤ m 130 37 → m 130 37 < 16 → ∃ m', aLoop (fM_lineOf_49_b r x) f (m, y3) = some (x, m') ∧ Fr loP m m' ∧ (∀ y j, 151 ≤ y → y ≤ 154 → x ≤ j → j < y3 → m' y (j + 1) = m y j) ∧ (∀ y j, 151 ≤ y → y ≤ 154 → (j < x ∨ y3 < j) → m' y j = m y j) ∧ m' 151 x = r ∧ m' 152 x = 0 ∧ m' 153 x = 0 ∧ m' 154 x = -1 ∧ m' 130 37 = m 130 37 + 1
  | 0, m, y3, f, hy, h16, hf, n0, n1 => by
    obtain ⟨f, rfl⟩ : ∃ g, f = g + 1 := ⟨f - 1, by omega⟩
    obtain ⟨m1, em1⟩ : ∃ m1, m1 = mup (mup (mup (mup m 151 x r) 152 x 0) 153 x 0) 154 x (-1) := ⟨_, rfl⟩
    have f1 : Fr loP m m1 := by
      rw [em1]
      exact (((Fr.rf.up (Or.inr ⟨by decide, by decide⟩)).up (Or.inr ⟨by decide, by decide⟩)).up (Or.inr ⟨by decide, by decide⟩)).up (Or.inr ⟨by decide, by decide⟩)
    have e37 : m1 130 37 = m 130 37 := by rw [em1, mup_ref (by decide), mup_ref (by decide), mup_ref (by decide), mup_ref (by decide)]
    refine ⟨mup m1 130 37 (m 130 37 + 1), aL_end ?_, f1.up (Or.inl ⟨rfl, rfl⟩), fun y j a b p q => by omega, fun y j a b p => ?_, ?_, ?_, ?_, ?_, mup_same _ _ _ _⟩
    · unfold fM_lineOf_49_b fM_begin
      simp only
      rw [if_neg (by omega), gd_pos (by omega), ← em1]
      simp only [Option.bind_some]
      rw [e37, w32_id (by omega) (by omega)]
    · rw [mup_ref (by omega), em1, mup_idx (by omega), mup_idx (by omega), mup_idx (by omega), mup_idx (by omega)]
    · rw [mup_ref (by decide), em1, mup_ref (by decide), mup_ref (by decide), mup_ref (by decide), mup_same]
    · rw [mup_ref (by decide), em1, mup_ref (by decide), mup_ref (by decide), mup_same]
    · rw [mup_ref (by decide), em1, mup_ref (by decide), mup_same]
    · rw [mup_ref (by decide), em1, mup_same]
  | t + 1, m, y3, f, hy, h16, hf, n0, n1 => by
    obtain ⟨f, rfl⟩ : ∃ g, f = g + 1 := ⟨f - 1, by omega⟩
    obtain ⟨m1, em1⟩ : ∃ m1, m1 = mup (mup (mup (mup m 151 y3 (m 151 (y3 - 1))) 152 y3 (m 152 (y3 - 1))) 153 y3 (m 153 (y3 - 1))) 154 y3 (m 154 (y3 - 1)) := ⟨_, rfl⟩
    have f1 : Fr loP m m1 := by
      rw [em1]
      exact (((Fr.rf.up (Or.inr ⟨by decide, by decide⟩)).up (Or.inr ⟨by decide, by decide⟩)).up (Or.inr ⟨by decide, by decide⟩)).up (Or.inr ⟨by decide, by decide⟩)
    have e37 : m1 130 37 = m 130 37 := by rw [em1, mup_ref (by decide), mup_ref (by decide), mup_ref (by decide), mup_ref (by decide)]
    have at3 (y : Int) (a : 151 ≤ y) (b : y ≤ 154) : m1 y y3 = m y (y3 - 1) := by
      rcases (by omega : y = 151 ∨ y = 152 ∨ y = 153 ∨ y = 154) with e | e | e | e
      · subst e; rw [em1, mup_ref (by decide), mup_ref (by decide), mup_ref (by decide), mup_same]
      · subst e; rw [em1, mup_ref (by decide), mup_ref (by decide), mup_same]
      · subst e; rw [em1, mup_ref (by decide), mup_same]
      · subst e; rw [em1, mup_same]
    have oth (y j : Int) (h : j ≠ y3) : m1 y j = m y j := by rw [em1, mup_idx h, mup_idx h, mup_idx h, mup_idx h]
    have body : fM_lineOf_49_b r x (m, y3) = some (Sum.inl (m1, y3 - 1)) := by
      unfold fM_lineOf_49_b fM_moveLine
      simp only
      rw [if_pos (by omega), w32_id (x := y3 - 1) (by omega) (by omega), gd_pos (by omega), gd_pos (by omega)]
      simp only [Option.bind_some]
      rw [w32_id (by omega) (by omega), em1]
      rfl
    obtain ⟨m', e, f2, s1, s2, s3, s4, s5, s6, s7⟩ := r_shift (r := r) x0 t m1 (y3 - 1) f (by omega) (by omega) (by omega) (by omega) (by omega)
    refine ⟨m', (aL_go body).trans e, f1.tr f2, fun y j a b p q => ?_, fun y j a b p => ?_, s3, s4, s5, s6, by omega⟩
    · by_cases hj : j = y3 - 1
      · rw [s2 y (j + 1) a b (by omega), show j + 1 = y3 by omega, at3 y a b, hj]
      · rw [s1 y j a b p (by omega), oth y j (by omega)]
    · rw [s2 y j a b (by omega), oth y j (by omega)]
/-- the line of a row -/
theorem r_place {r : Int} (wt : WT T) (k0 : 0 ≤ k) (k1 : k < Tn T) (r0 : 0 ≤ r) (r1 : r < Tr T) (hE : EM q T u n) (h39 : q 130 39 = k) : ∀ (gs : List (List Int)) (x : Int) (f : Nat), 0 ≤ x → q 130 37 = x + (gs.length : Int) → q 130 37 < 16 → lns T kd c q x gs → GW T k gs → (∀ g ∈ gs, ∀ a ∈ g, 0 ≤ a ∧ a < Tr T) → gs.length < f →
    ∃ l q1 pre g post, aLoop (fM_lineOf_2_b q r) f x = some (l, q1) ∧ Fr loP q q1 ∧ (∀ y j, 151 ≤ y → y ≤ 154 → j < x → q1 y j = q y j) ∧ insG T k r gs = pre ++ (g ++ [r]) :: post ∧ l = x + (pre.length : Int) ∧ lns T kd c q1 x pre ∧ LR T kd c q1 l g ∧ q1 151 l = rep (g ++ [r]) ∧ lns T kd c q1 (l + 1) post ∧ q1 130 37 = x + ((insG T k r gs).length : Int) ∧ (g = [] ∨ g ∈ gs) := by
  have newline (gs : List (List Int)) (x : Int) (x0 : 0 ≤ x) (h37 : q 130 37 = x + (gs.length : Int)) (h16 : q 130 37 < 16) (hl : lns T kd c q x gs) : ∃ q1, fM_lineOf_49 q r x (q 130 37) = some (x, q1) ∧ Fr loP q q1 ∧ (∀ y j, 151 ≤ y → y ≤ 154 → j < x → q1 y j = q y j) ∧ LR T kd c q1 x [] ∧ q1 151 x = r ∧ lns T kd c q1 (x + 1) gs ∧ q1 130 37 = x + (gs.length : Int) + 1 := by
    obtain ⟨q1, e, f1, s1, s2, s3, s4, s5, s6, s7⟩ := r_shift (r := r) x0 gs.length q (q 130 37) FU h37 h16 (by show _ < 1000000; omega) (by omega) h16
    refine ⟨q1, e, f1, fun y j a b p => s2 y j a b (Or.inl p), ⟨s4, fun _ => ⟨0, false, rfl, s5, by rw [s6]; decide⟩, fun _ => s6⟩, s3, ?_, by omega⟩
    exact lns_of (fun y j a b p r => s1 y j a b p (by omega)) hl
  intro gs
  induction gs with
  | nil =>
    intro x f x0 h37 h16 hl _ _ hf
    obtain ⟨f, rfl⟩ : ∃ g, f = g + 1 := ⟨f - 1, by omega⟩
    obtain ⟨q1, e, f1, s1, s2, s3, s4, s5⟩ := newline [] x x0 h37 h16 hl
    refine ⟨x, q1, [], [], [], aL_end ?_, f1, s1, rfl, by simp, trivial, s2, s3, trivial, by simp only [List.length_nil] at s5; simp only [insG, List.length_cons, List.length_nil]; omega, Or.inl rfl⟩
    unfold fM_lineOf_2_b fM_lineOf_25
    simp only [List.length_nil] at h37
    have hn : ¬ x < q 130 37 := by omega
    rw [if_neg hn, if_neg hn, e]
    rfl
  | cons g gs ih =>
    intro x f x0 h37 h16 hl hG hr hf
    simp only [List.length_cons] at h37 hf
    obtain ⟨f, rfl⟩ : ∃ g, f = g + 1 := ⟨f - 1, by omega⟩
    have hrep := hr g (List.mem_cons_self ..) _ (rep_mem hG.1)
    have ecmp : fM_compareLine q r x = some (sgn (zr T r (rep g) k)) := by
      have := r_line (q := q) (x := x) wt hE.2 r0 r1 x0 (by omega) (by rw [hl.2.1]; exact hrep.1) (by rw [hl.2.1]; exact hrep.2) h39 k0 k1
      rw [hl.2.1] at this
      exact this
    have ei : insG T k r (g :: gs) = if 0 < zr T r (rep g) k then g :: insG T k r gs else if zr T r (rep g) k = 0 then (g ++ [r]) :: gs else [r] :: g :: gs := rfl
    have hlt : x < q 130 37 := by omega
    by_cases c1 : 0 < zr T r (rep g) k
    · have body : fM_lineOf_2_b q r x = some (Sum.inl (x + 1)) := by
        unfold fM_lineOf_2_b
        rw [if_pos hlt, ecmp]
        simp only [Option.bind_some]
        rw [if_pos (sgn_gt.mpr c1), w32_id (by omega) (by omega)]
      obtain ⟨l, q1, pre, g', post, a1, a2, a3, a4, a5, a6, a7, a8, a9, a10, a11⟩ := ih (x + 1) f (by omega) (by omega) h16 hl.2.2 hG.2.2.2 (fun g' h => hr g' (List.mem_cons_of_mem _ h)) (by omega)
      rw [ei, if_pos c1]
      refine ⟨l, q1, g :: pre, g', post, (aL_go body).trans a1, a2, fun y j a b p => a3 y j a b (by omega), by rw [a4]; rfl, by simp only [List.length_cons]; omega, ⟨hl.1.of (fun y a b => a3 y x (by omega) b (by omega)), (a3 151 x (by decide) (by decide) (by omega)).trans hl.2.1, a6⟩, a7, a8, a9, by simp only [List.length_cons]; omega, ?_⟩
      rcases a11 with h | h
      · exact Or.inl h
      · exact Or.inr (List.mem_cons_of_mem _ h)
    · have body25 : fM_lineOf_2_b q r x = (fM_lineOf_25 q r x).map Sum.inr := by
        unfold fM_lineOf_2_b
        rw [if_pos hlt, ecmp]
        simp only [Option.bind_some]
        rw [if_neg (fun g => c1 (sgn_gt.mp g))]
      rw [ei, if_neg c1]
      by_cases c2 : zr T r (rep g) k = 0
      · rw [if_pos c2]
        refine ⟨x, q, [], g, gs, aL_end ?_, Fr.rf, fun y j _ _ _ => rfl, rfl, by simp, trivial, hl.1, by rw [rep_snoc hG.1]; exact hl.2.1, hl.2.2, by simp only [List.length_cons]; omega, Or.inr (List.mem_cons_self ..)⟩
        rw [body25]
        unfold fM_lineOf_25
        rw [if_pos hlt, ecmp]
        simp only [Option.bind_some]
        rw [if_pos (sgn_eq.mpr c2)]
        rfl
      · rw [if_neg c2]
        obtain ⟨q1, e, f1, s1, s2, s3, s4, s5⟩ := newline (g :: gs) x x0 (by simp only [List.length_cons]; omega) h16 hl
        refine ⟨x, q1, [], [], g :: gs, aL_end ?_, f1, s1, rfl, by simp, trivial, s2, s3, s4, by simp only [List.length_cons] at s5 ⊢; omega, Or.inl rfl⟩
        rw [body25]
        unfold fM_lineOf_25
        rw [if_pos hlt, ecmp]
        simp only [Option.bind_some]
        rw [if_neg (fun g => c2 (sgn_eq.mp g)), e]
        rfl
end
