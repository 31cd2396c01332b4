/-! LOAD: records -/
abbrev tF : Type := Int × Int × Int
def same : List (List tF) → Bool
  | [] => true
  | x :: r => r.all fun y => decide (y.length = x.length)
def hdw : List (List tF) → Int
  | [] => 0
  | x :: _ => (x.length : Int)
/-- a field with what stands round it -/
def fwt (x : tF) : Int := x.2.1 - x.1 + 1 + 2 * x.2.2
def wsum : List tF → Int
  | [] => 0
  | x :: r => fwt x + wsum r
theorem wsum_app {a b : List tF} : wsum (a ++ b) = wsum a + wsum b := by
  induction a with
  | nil => show wsum b = 0 + wsum b; omega
  | cons x r ih => show fwt x + wsum (r ++ b) = fwt x + wsum r + wsum b; rw [ih]; omega
/-- the fields stand in the text -/
def fOk (t : Int → Int) (n : Int) (l : List tF) : Prop := ∀ x ∈ l, 0 ≤ x.1 ∧ x.1 ≤ x.2.1 ∧ x.2.1 ≤ n ∧ (x.2.2 = 0 ∨ x.2.2 = 1) ∧ (x.2.2 = 0 → ∀ i, x.1 ≤ i → i < x.2.1 → t i ≠ 34)
theorem fOk_w {t : Int → Int} {n : Int} {l : List tF} (h : fOk t n l) : (l.length : Int) ≤ wsum l := by
  induction l with
  | nil => exact Int.le_refl _
  | cons x r ih =>
    have hx := h x List.mem_cons_self
    have := ih (fun y hy => h y (List.mem_cons_of_mem _ hy))
    show ((r.length + 1 : Nat) : Int) ≤ fwt x + wsum r
    unfold fwt
    omega
def cRI (c : aM) (L : List (List tF)) (cur : List tF) : Prop := c 8 3 = ((L.flatten ++ cur).length : Int) ∧ c 8 4 = (L.length : Int) ∧ c 8 5 = hdw L ∧ c 8 6 = (cur.length : Int) ∧ (c 8 8 = if same L then 1 else 0) ∧ ∀ j : Nat, j < 102 → ∀ x, (L.flatten ++ cur)[j]? = some x → c 9 (j : Int) = x.1 ∧ c 10 (j : Int) = x.2.1 ∧ c 11 (j : Int) = x.2.2
def FrC (c c' : aM) : Prop := ∀ y, y ≠ 8 → y ≠ 9 → y ≠ 10 → y ≠ 11 → c' y = c y
theorem FrC.rf {c : aM} : FrC c c := fun _ _ _ _ _ => rfl
theorem FrC.tr {c c1 c2 : aM} (h1 : FrC c c1) (h2 : FrC c1 c2) : FrC c c2 := fun y a b d e => (h2 y a b d e).trans (h1 y a b d e)
theorem FrC.tx {c c' : aM} {t : Int → Int} {n : Int} (h : FrC c c') (hc : CTx c t n) : CTx c' t n := by
  obtain ⟨e1, e2, e3⟩ := hc
  refine ⟨by rw [h 2 (by decide) (by decide) (by decide) (by decide)]; exact e1, fun i h0 h1 => ?_, e3⟩
  rw [h 3 (by decide) (by decide) (by decide) (by decide)]
  exact e2 i h0 h1
theorem c_endField {c : aM} {L : List (List tF)} {cur : List tF} {a k q f e : Int} (h : cRI c L cur) (ha : c 8 7 = a) (hl : ((L.flatten ++ cur).length : Int) ≤ 1000) (hq : q = 0 ∨ q = 1) (hr : 0 ≤ a ∧ a ≤ 1000 ∧ 0 ≤ k ∧ k ≤ 1000) (hf : f = if q = 1 then a + 1 else a) (he : e = if q = 1 then k - 1 else k) : ∃ c', fR_endField c k q = some c' ∧ cRI c' L (cur ++ [(f, e, q)]) ∧ FrC c c' ∧ c' 8 7 = a := by
  obtain ⟨i1, i2, i3, i4, i5, i6⟩ := h
  have hlc : (cur.length : Int) ≤ 1000 := by rw [List.length_append] at hl; omega
  have e65 (d : aM) (h3 : d 8 3 = c 8 3) (h6 : d 8 6 = c 8 6) : fR_endField_65 d = some (mup (mup d 8 3 (c 8 3 + 1)) 8 6 (c 8 6 + 1)) := by
    unfold fR_endField_65
    rw [h3, h6, w32_id (by omega) (by omega), w32_id (by omega) (by omega)]
  have fin (d : aM) (h3 : d 8 = c 8) (hrow : ∀ y, y ≠ 8 → y ≠ 9 → y ≠ 10 → y ≠ 11 → d y = c y) (hold : ∀ j : Nat, (j : Int) < c 8 3 → j < 102 → d 9 (j : Int) = c 9 (j : Int) ∧ d 10 (j : Int) = c 10 (j : Int) ∧ d 11 (j : Int) = c 11 (j : Int)) (hnew : c 8 3 < 102 → d 9 (c 8 3) = f ∧ d 10 (c 8 3) = e ∧ d 11 (c 8 3) = q) : cRI (mup (mup d 8 3 (c 8 3 + 1)) 8 6 (c 8 6 + 1)) L (cur ++ [(f, e, q)]) ∧ FrC c (mup (mup d 8 3 (c 8 3 + 1)) 8 6 (c 8 6 + 1)) ∧ mup (mup d 8 3 (c 8 3 + 1)) 8 6 (c 8 6 + 1) 8 7 = a := by
    have r8 (j : Int) (h1 : j ≠ 3) (h2 : j ≠ 6) : mup (mup d 8 3 (c 8 3 + 1)) 8 6 (c 8 6 + 1) 8 j = c 8 j := by rw [mup_idx h2, mup_idx h1, h3]
    have ry (y : Int) (hy : y ≠ 8) : mup (mup d 8 3 (c 8 3 + 1)) 8 6 (c 8 6 + 1) y = d y := by funext j; rw [mup_ref hy, mup_ref hy]
    refine ⟨⟨?_, ?_, ?_, ?_, ?_, ?_⟩, ?_, by rw [r8 7 (by decide) (by decide), ha]⟩
    · rw [mup_idx (by decide), mup_same, i1, ← List.append_assoc]
      simp only [List.length_append, List.length_cons, List.length_nil]
      omega
    · rw [r8 4 (by decide) (by decide), i2]
    · rw [r8 5 (by decide) (by decide)]; exact i3
    · rw [mup_same, i4, List.length_append]
      simp only [List.length_cons, List.length_nil]
      omega
    · rw [r8 8 (by decide) (by decide), i5]
    · intro j hj x hx
      rw [ry 9 (by decide), ry 10 (by decide), ry 11 (by decide)]
      rw [← List.append_assoc] at hx
      by_cases hlt : j < (L.flatten ++ cur).length
      · rw [List.getElem?_append_left hlt] at hx
        obtain ⟨o1, o2, o3⟩ := hold j (by omega) hj
        rw [o1, o2, o3]
        exact i6 j hj x hx
      · have hje : j = (L.flatten ++ cur).length := by
          have := (List.getElem?_eq_some_iff.mp hx).1
          simp only [List.length_append, List.length_cons, List.length_nil] at this hlt ⊢
          omega
        rw [List.getElem?_append_right (by omega), show j - (L.flatten ++ cur).length = 0 by omega] at hx
        cases hx
        obtain ⟨o1, o2, o3⟩ := hnew (by omega)
        rw [show (j : Int) = c 8 3 by omega]
        exact ⟨o1, o2, o3⟩
    · intro y y1 y2 y3 y4
      rw [ry y y1]
      exact hrow y y1 y2 y3 y4
  unfold fR_endField
  by_cases h102 : c 8 3 < 102
  · rw [if_pos h102, ha]
    have h0 : 0 ≤ c 8 3 := by omega
    have L9 : LEN 9 = 102 := rfl
    have go (s2 : Int) (hs2 : s2 = f) : fR_endField_34 c k q 9 (c 8 3) s2 = fR_endField_65 (mup (mup (mup c 9 (c 8 3) f) 10 (c 8 3) e) 11 (c 8 3) q) := by
      unfold fR_endField_34
      rw [gd_pos (by rw [L9]; omega), mup_ref (show (8 : Int) ≠ 9 by decide), hs2]
      rcases hq with hq | hq
      · subst hq
        rw [if_pos rfl, gd_pos ⟨h0, h102⟩, gd_pos (Or.inl rfl)]
        rw [if_neg (by decide)] at he
        rw [he]
      · subst hq
        rw [if_neg (by decide), gd_pos ⟨h0, h102⟩, gd_pos (Or.inr rfl), w32_id (by omega) (by omega)]
        rw [if_pos rfl] at he
        rw [he]
    have d8 : (mup (mup (mup c 9 (c 8 3) f) 10 (c 8 3) e) 11 (c 8 3) q) 8 = c 8 := by
      funext j
      rw [mup_ref (by decide), mup_ref (by decide), mup_ref (by decide)]
    have key := fin (mup (mup (mup c 9 (c 8 3) f) 10 (c 8 3) e) 11 (c 8 3) q) d8 (fun y y1 y2 y3 y4 => by
      funext j
      rw [mup_ref y4, mup_ref y3, mup_ref y2]) (fun j hj _ => ⟨by rw [mup_ref (by decide), mup_ref (by decide), mup_idx (by omega)], by rw [mup_ref (by decide), mup_idx (by omega), mup_ref (by decide)], by rw [mup_idx (by omega), mup_ref (by decide), mup_ref (by decide)]⟩) (fun _ => ⟨by rw [mup_ref (by decide), mup_ref (by decide), mup_same], by rw [mup_ref (by decide), mup_same], by rw [mup_same]⟩)
    refine ⟨_, ?_, key⟩
    rw [← e65 _ (by rw [d8]) (by rw [d8])]
    rcases hq with hq | hq
    · subst hq
      rw [if_neg (by decide)] at hf
      rw [if_pos rfl]
      exact go a hf.symm
    · subst hq
      rw [if_pos rfl] at hf
      rw [if_neg (by decide), w32_id (by omega) (by omega)]
      exact go (a + 1) hf.symm
  · rw [if_neg h102]
    exact ⟨_, e65 c rfl rfl, fin c rfl (fun _ _ _ _ _ => rfl) (fun _ _ _ => ⟨rfl, rfl, rfl⟩) (fun h => absurd h h102)⟩
theorem same_app {L : List (List tF)} {x : List tF} (h : L ≠ []) : same (L ++ [x]) = (same L && decide ((x.length : Int) = hdw L)) := by
  cases L with
  | nil => exact absurd rfl h
  | cons y r =>
    show (r ++ [x]).all _ = (r.all _ && _)
    rw [List.all_append]
    congr 1
    show (decide (x.length = y.length) && true) = decide ((x.length : Int) = (y.length : Int))
    rw [Bool.and_true]
    by_cases e : x.length = y.length
    · rw [decide_eq_true e, decide_eq_true (by omega)]
    · rw [decide_eq_false e, decide_eq_false (by omega)]
theorem c_endRecord {c : aM} {L : List (List tF)} {cur : List tF} {nx : Int} (h : cRI c L cur) (hl : (L.length : Int) ≤ 1000) : ∃ c', fR_endRecord c nx = (0, c') ∧ cRI c' (L ++ [cur]) [] ∧ FrC c c' ∧ c' 8 7 = nx := by
  obtain ⟨i1, i2, i3, i4, i5, i6⟩ := h
  have fin (d : aM) (h3 : d 8 3 = c 8 3) (h4 : d 8 4 = c 8 4) (h5 : d 8 5 = hdw (L ++ [cur])) (h8 : d 8 8 = if same (L ++ [cur]) then 1 else 0) (hrow : ∀ y, y ≠ 8 → d y = c y) : ∃ c', fR_endRecord_34 d nx = (0, c') ∧ cRI c' (L ++ [cur]) [] ∧ FrC c c' ∧ c' 8 7 = nx := by
    refine ⟨mup (mup (mup d 8 4 (c 8 4 + 1)) 8 6 0) 8 7 nx, ?_, ⟨?_, ?_, ?_, ?_, ?_, ?_⟩, ?_, mup_same _ _ _ _⟩
    · unfold fR_endRecord_34
      rw [h4, w32_id (by omega) (by omega)]
    · rw [mup_idx (by decide), mup_idx (by decide), mup_idx (by decide), h3, i1]
      simp [List.flatten_append]
    · rw [mup_idx (by decide), mup_idx (by decide), mup_same, i2, List.length_append]
      simp only [List.length_cons, List.length_nil]
      omega
    · rw [mup_idx (by decide), mup_idx (by decide), mup_idx (by decide), h5]
    · rw [mup_idx (by decide), mup_same]; rfl
    · rw [mup_idx (by decide), mup_idx (by decide), mup_idx (by decide), h8]
    · intro j hj x hx
      rw [mup_ref (by decide), mup_ref (by decide), mup_ref (by decide), mup_ref (by decide), mup_ref (by decide), mup_ref (by decide), mup_ref (by decide), mup_ref (by decide), mup_ref (by decide), hrow 9 (by decide), hrow 10 (by decide), hrow 11 (by decide)]
      refine i6 j hj x ?_
      rw [← hx]
      congr 1
      simp [List.flatten_append]
    · intro y y1 _ _ _
      funext j
      rw [mup_ref y1, mup_ref y1, mup_ref y1, hrow y y1]
  unfold fR_endRecord
  by_cases hL : L = []
  · subst hL
    rw [if_pos (by rw [i2]; rfl)]
    refine fin _ (mup_idx (by decide)) (mup_idx (by decide)) (by rw [mup_same, i4]; rfl) ?_ (fun y hy => by funext j; exact mup_ref hy)
    rw [mup_idx (by decide), i5]
    rfl
  · have hlen : 0 < L.length := List.length_pos_iff.mpr hL
    rw [if_neg (by rw [i2]; omega), i4, i3]
    have hw : hdw (L ++ [cur]) = hdw L := by cases L with | nil => exact absurd rfl hL | cons y r => rfl
    by_cases he : (cur.length : Int) = hdw L
    · rw [if_pos he]
      refine fin c rfl rfl (by rw [hw]; exact i3) ?_ (fun _ _ => rfl)
      rw [same_app hL, decide_eq_true he, Bool.and_true, i5]
    · rw [if_neg he]
      refine fin _ (mup_idx (by decide)) (mup_idx (by decide)) (by rw [mup_idx (by decide), hw]; exact i3) ?_ (fun y hy => by funext j; exact mup_ref hy)
      rw [same_app hL, decide_eq_false he, Bool.and_false, mup_same]
      rfl
/-- the reference's fields and records; p: whether a record stands open -/
def mRI (m : aM) (L : List (List tF)) (cur : List tF) (p : Int) : Prop := m 130 13 = ((L.flatten ++ cur).length : Int) ∧ m 130 17 = (L.length : Int) + p ∧ (∀ r : Nat, r < L.length + p.toNat → m 141 (r : Int) = (((L.take r).flatten).length : Int)) ∧ ∀ (j : Nat) x, (L.flatten ++ cur)[j]? = some x → m 138 (j : Int) = x.1 ∧ m 139 (j : Int) = x.2.1 ∧ m 140 (j : Int) = x.2.2
def FrM (m m' : aM) : Prop := (∀ y, y ≠ 130 → y ≠ 138 → y ≠ 139 → y ≠ 140 → y ≠ 141 → m' y = m y) ∧ ∀ j, j ≠ 13 → j ≠ 17 → m' 130 j = m 130 j
theorem FrM.rf {m : aM} : FrM m m := ⟨fun _ _ _ _ _ _ => rfl, fun _ _ _ => rfl⟩
theorem FrM.tr {m m1 m2 : aM} (h1 : FrM m m1) (h2 : FrM m1 m2) : FrM m m2 := ⟨fun y a b c d e => (h2.1 y a b c d e).trans (h1.1 y a b c d e), fun j a b => (h2.2 j a b).trans (h1.2 j a b)⟩
theorem FrM.tx {m m' : aM} {t : Int → Int} {n : Int} (h : FrM m m') (hm : MTx m t n) : MTx m' t n := by
  obtain ⟨e1, e2, e3⟩ := hm
  refine ⟨by rw [h.2 2 (by decide) (by decide)]; exact e1, fun i h0 h1 => ?_, e3⟩
  rw [h.1 131 (by decide) (by decide) (by decide) (by decide) (by decide)]
  exact e2 i h0 h1
theorem r_field {m : aM} {L : List (List tF)} {cur : List tF} {f e q p : Int} (h : mRI m L cur p) (hl : ((L.flatten ++ cur).length : Int) < 242) (hq : q = 0 ∨ q = 1) : ∃ m', fM_field m f e q = some m' ∧ mRI m' L (cur ++ [(f, e, q)]) p ∧ FrM m m' := by
  obtain ⟨i1, i2, i3, i4⟩ := h
  refine ⟨mup (mup (mup (mup m 138 (m 130 13) f) 139 (m 130 13) e) 140 (m 130 13) q) 130 13 (m 130 13 + 1), ?_, ⟨?_, ?_, ?_, ?_⟩, ?_, ?_⟩
  · unfold fM_field
    rw [gd_pos (by omega), gd_pos hq, w32_id (by omega) (by omega)]
  · rw [mup_same, i1, ← List.append_assoc]
    simp only [List.length_append, List.length_cons, List.length_nil]
    omega
  · rw [mup_idx (by decide), mup_ref (by decide), mup_ref (by decide), mup_ref (by decide), i2]
  · intro r hr
    rw [mup_ref (by decide), mup_ref (by decide), mup_ref (by decide), mup_ref (by decide)]
    exact i3 r hr
  · intro j x hx
    rw [← List.append_assoc] at hx
    by_cases hlt : j < (L.flatten ++ cur).length
    · rw [List.getElem?_append_left hlt] at hx
      rw [mup_ref (by decide), mup_ref (by decide), mup_ref (by decide), mup_idx (by omega), mup_ref (by decide), mup_ref (by decide), mup_idx (by omega), mup_ref (by decide), mup_ref (by decide), mup_idx (by omega), mup_ref (by decide), mup_ref (by decide)]
      exact i4 j x hx
    · have hje : j = (L.flatten ++ cur).length := by
        have := (List.getElem?_eq_some_iff.mp hx).1
        simp only [List.length_append, List.length_cons, List.length_nil] at this hlt ⊢
        omega
      rw [List.getElem?_append_right (by omega), show j - (L.flatten ++ cur).length = 0 by omega] at hx
      cases hx
      rw [show (j : Int) = m 130 13 by omega]
      exact ⟨by rw [mup_ref (by decide), mup_ref (by decide), mup_ref (by decide), mup_same], by rw [mup_ref (by decide), mup_ref (by decide), mup_same], by rw [mup_ref (by decide), mup_same]⟩
  · intro y y1 y2 y3 y4 y5
    funext j
    rw [mup_ref y1, mup_ref y4, mup_ref y3, mup_ref y2]
  · intro j j1 j2
    rw [mup_idx j1, mup_ref (by decide), mup_ref (by decide), mup_ref (by decide)]
