/-! LOAD: the class -/
theorem pt_of {m m1 : aM} {T : Tb} (h : ∀ y, y ≠ 20 → m y = m1 y) : pt m T = pt m1 T := by
  funext y j
  show (if y = 20 then tyS T j else m y j) = if y = 20 then tyS T j else m1 y j
  by_cases e : y = 20
  · rw [if_pos e, if_pos e]
  · rw [if_neg e, if_neg e, h y e]
theorem c_types {m1 : aM} {T : Tb} (wt : WT T) (ct : CT (pt m1 T) T) : ∃ m', fT_take_179 m1 0 = some m' ∧ CT m' T ∧ ∀ y, y ≠ 20 → m' y = m1 y := by
  have w1 := wt.1
  have e8 : m1 12 8 = Tn T := ct.1
  unfold fT_take_179
  obtain ⟨m', hv, hP⟩ := aLoop_ok (f := fT_take_179_b) (Inv := fun s : aM × Int => 0 ≤ s.2 ∧ s.2 ≤ Tn T ∧ (∀ y, y ≠ 20 → s.1 y = m1 y) ∧ ∀ c, 0 ≤ c → c < s.2 → s.1 20 c = tyS T c) (μ := fun s => (Tn T - s.2).toNat) (Post := fun v => (∀ y, y ≠ 20 → v y = m1 y) ∧ ∀ c, 0 ≤ c → c < Tn T → v 20 c = tyS T c) (by
    rintro ⟨m, c⟩ ⟨g1, g2, g3, g4⟩
    simp only at g1 g2 g3 g4
    unfold fT_take_179_b
    simp only
    rw [g3 12 (by decide), e8]
    by_cases hc : c < Tn T
    · left
      have ct' : CT (pt m T) T := by rw [pt_of g3]; exact ct
      rw [if_pos hc, c_findType wt ct' g1 hc]
      simp only [Option.bind_some]
      rw [gd_pos (by omega), w32_id (by omega) (by omega)]
      refine ⟨_, rfl, ⟨by simp only; omega, by simp only; omega, fun y hy => ?_, fun q q0 q1 => ?_⟩, by simp only; omega⟩
      · funext j
        show mup m 20 c (tyS T c) y j = m1 y j
        rw [mup_ref hy, g3 y hy]
      · simp only at q1
        show mup m 20 c (tyS T c) 20 q = tyS T q
        by_cases e : q = c
        · rw [e, mup_same]
        · rw [mup_idx e]; exact g4 q q0 (by omega)
    · right
      rw [if_neg hc]
      have : c = Tn T := by omega
      subst this
      exact ⟨_, rfl, g3, g4⟩) FU (m1, 0) ⟨by simp only; omega, by simp only; omega, fun _ _ => rfl, fun q q0 q1 => by simp only at q1; omega⟩ (by show (Tn T - 0).toNat < 1000000; omega)
  refine ⟨m', hv, ?_, hP.1⟩
  obtain ⟨c1, c2, c3, c4, c5, -⟩ := ct
  have r12 := hP.1 12 (by decide)
  have r13 := hP.1 13 (by decide)
  have r14 := hP.1 14 (by decide)
  have r15 := hP.1 15 (by decide)
  have r16 := hP.1 16 (by decide)
  have r17 := hP.1 17 (by decide)
  have r18 := hP.1 18 (by decide)
  have r19 := hP.1 19 (by decide)
  unfold CT ChK ChR
  rw [r12, r13, r15, r16, r17, r18, r19]
  simp only [sl_row r14, show (13 : Int) + 1 = 14 from rfl, r14]
  exact ⟨c1, c2, c3, c4, c5, hP.2⟩
theorem c_take {m : aM} {t : Int → Int} {n : Int} {L : List (List tF)} (hC : CTx m t n) (ci : cRI m L []) (hg : goodL t n L) (h13 : 0 ≤ m 13 1) : ∃ m', fT_take m 2 = some m' ∧ CT m' (TL t L) ∧ FrT m m' := by
  obtain ⟨w1, w2, w3, w4⟩ := hg.w
  have wt := WT_TL hg
  obtain ⟨g1, g2, g3, g4, g5, g6, g7, g8, g9, g10⟩ := id hg
  obtain ⟨m0, hm0⟩ : ∃ m0, m0 = mup (mup (mup m 12 8 (hdw L)) 12 7 ((L.length : Int) - 1)) 13 1 0 := ⟨_, rfl⟩
  have e0 : fT_take m 2 = fT_take_38 m0 2 0 := by
    unfold fT_take fC_keepFirst fJM_min
    rw [ci.2.2.1, ci.2.1, w32_id (by omega) (by omega), if_neg (show ¬ (6 : Int) < hdw L by omega), if_neg (show ¬ (16 : Int) < (L.length : Int) - 1 by omega), if_neg (by decide), mup_ref (show (13 : Int) ≠ 12 by decide), mup_ref (show (13 : Int) ≠ 12 by decide), if_neg (by omega), ← hm0]
  have r0 (y : Int) (h12 : y ≠ 12) (h13 : y ≠ 13) : m0 y = m y := by rw [hm0]; funext j; rw [mup_ref h13, mup_ref h12, mup_ref h12]
  have hC0 : CTx m0 t n := by
    obtain ⟨c1, c2, c3⟩ := hC
    exact ⟨by rw [r0 2 (by decide) (by decide)]; exact c1, by rw [r0 3 (by decide) (by decide)]; exact c2, c3⟩
  have ci0 : cRI m0 L [] := by
    unfold cRI
    rw [r0 8 (by decide) (by decide), r0 9 (by decide) (by decide), r0 10 (by decide) (by decide), r0 11 (by decide) (by decide)]
    exact ci
  obtain ⟨m1, a1, a2, a3, a4, a5, a6⟩ := c_take_loop (m0 := m0) (N := (L.flatten.length : Int)) g10 hC0 ci0 g6 g7 rfl w4 (by rw [hm0, mup_same])
  have ct1 : CT (pt m1 (TL t L)) (TL t L) := by
    refine ⟨?_, ?_, a3, fun c c0 c1 => ?_, fun r c r0 r1 c0 c1 => ?_, fun c _ _ => rfl⟩
    · show m1 12 8 = hdw L
      rw [a5, hm0, mup_ref (by decide), mup_idx (by decide), mup_same]
    · show m1 12 7 = (L.length : Int) - 1
      rw [a5, hm0, mup_ref (by decide), mup_same]
    · have c1 : c < hdw L := c1
      have hle := hdw_le (L := L)
      obtain ⟨t1, t2, t3, t4, -⟩ := a2 c c0 (by omega)
      exact ⟨t1, t2, t3, t4⟩
    · have hi := gidx hg r0 r1 c0 c1
      exact a2 _ hi.1 hi.2
  obtain ⟨m2, b1, b2, b3⟩ := c_types wt ct1
  refine ⟨m2, by rw [e0, a1]; exact b1, b2, fun y h12 h13 h14 h15 h16 h17 h18 h19 h20 => ?_⟩
  rw [b3 y h20, a4 y h12 h13 h14 h15 h16 h17 h18 h19 h20, r0 y h12 h13]
/-- what follows the fields in the class's load -/
def cRest (c : aM) : Option (Nat × Int × aM) :=
  if fR_areEven c = 0 then some (3, 0, c) else (fR_haveNames c 2).bind fun v2 => if v2 = 0 then some (4, 0, c) else if 16 < w32 (c 8 4 - 1) then some (5, 0, c) else (fT_take c 2).bind fun v3 => some (1, v3 12 7, mup v3 123 0 0)
theorem c_rest {c : aM} {t : Int → Int} {n : Int} {L : List (List tF)} (hC : CTx c t n) (ci : cRI c L []) (hok : fOk t n L.flatten) (hw : wsum L.flatten ≤ n + 1) (hne : ∀ x ∈ L, 1 ≤ x.length) (ht : ∀ i, 0 ≤ i → i < n → okT (t i)) (hl : (L.length : Int) ≤ 1000) (h13 : 0 ≤ c 13 1) :
    (¬ (same L = true ∧ hdw L ≤ 6) ∧ cRest c = some (3, 0, c)) ∨ ((same L = true ∧ hdw L ≤ 6) ∧ ¬ (L ≠ [] ∧ NM t L (hdw L)) ∧ cRest c = some (4, 0, c)) ∨ ((same L = true ∧ hdw L ≤ 6) ∧ (L ≠ [] ∧ NM t L (hdw L)) ∧ 17 < (L.length : Int) ∧ cRest c = some (5, 0, c)) ∨ (goodL t n L ∧ ∃ m', cRest c = some (1, (L.length : Int) - 1, mup m' 123 0 0) ∧ CT m' (TL t L) ∧ FrT c m') := by
  unfold cRest fR_areEven
  rw [ci.2.2.2.2.1, ci.2.2.1]
  by_cases hs : same L = true
  · rw [if_pos hs, if_neg (show ¬ (1 : Int) = 0 by decide)]
    by_cases h6 : 6 < hdw L
    · rw [if_pos h6, if_pos rfl]
      exact Or.inl ⟨fun h => by omega, rfl⟩
    · rw [if_neg h6, if_neg (show ¬ (1 : Int) = 0 by decide)]
      obtain ⟨v, v1, v2, v3⟩ := c_haveNames hC ht ci hok (by omega)
      rw [v1]
      simp only [Option.bind_some]
      rcases v2 with v2 | v2
      · rw [if_pos v2]
        exact Or.inr (Or.inl ⟨⟨hs, by omega⟩, fun h => by have := v3.mpr h; omega, rfl⟩)
      · rw [if_neg (by omega), ci.2.1]
        have hnm := v3.mp v2
        have hp : 0 < L.length := List.length_pos_iff.mpr hnm.1
        rw [w32_id (by omega) (by omega)]
        by_cases h17 : 16 < (L.length : Int) - 1
        · rw [if_pos h17]
          exact Or.inr (Or.inr (Or.inl ⟨⟨hs, by omega⟩, hnm, by omega, rfl⟩))
        · rw [if_neg h17]
          have hg : goodL t n L := ⟨hs, by omega, hnm.1, hnm.2, by omega, hok, hw, hne, hC.2.2.2, ht⟩
          obtain ⟨m', e1, e2, e3⟩ := c_take hC ci hg h13
          refine Or.inr (Or.inr (Or.inr ⟨hg, m', ?_, e2, e3⟩))
          rw [e1]
          simp only [Option.bind_some]
          rw [e2.2.1]
          rfl
  · rw [if_neg hs, if_pos rfl, if_pos rfl]
    exact Or.inl ⟨fun h => hs h.1, rfl⟩
theorem fX_load_eq {m : aM} : fX_load m = (fR_find m 2).bind fun v1 => if v1.1 = 0 then some (2, 0, v1.2) else cRest v1.2 := rfl
