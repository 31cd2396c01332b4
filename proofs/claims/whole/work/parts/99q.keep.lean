/-! LOAD: the reference keeps the cells -/
def KP (m m' : aM) (l : List Int) : Prop := m' 130 8 = m 130 8 + (l.length : Int) ∧ (∀ j, j < 336 + m 130 8 → m' 131 j = m 131 j) ∧ (∀ i : Nat, i < l.length → m' 131 (336 + m 130 8 + (i : Int)) = l.getD i 0) ∧ (∀ y, y ≠ 130 → y ≠ 131 → m' y = m y) ∧ ∀ j, j ≠ 8 → m' 130 j = m 130 j
theorem KP.cons {m m1 m2 : aM} {c : Int} {l : List Int} (h1 : KP m m1 [c]) (h2 : KP m1 m2 l) : KP m m2 (c :: l) := by
  obtain ⟨a1, a2, a3, a4, a5⟩ := h1
  obtain ⟨b1, b2, b3, b4, b5⟩ := h2
  have a1 : m1 130 8 = m 130 8 + 1 := a1
  refine ⟨by rw [b1, a1, List.length_cons]; omega, fun j hj => by rw [b2 j (by omega), a2 j hj], fun i hi => ?_, fun y y1 y2 => by rw [b4 y y1 y2, a4 y y1 y2], fun j hj => by rw [b5 j hj, a5 j hj]⟩
  cases i with
  | zero =>
    rw [b2 _ (by rw [a1]; omega)]
    exact a3 0 (by simp)
  | succ i =>
    rw [List.length_cons] at hi
    have := b3 i (by omega)
    rw [a1, show 336 + (m 130 8 + 1) + (i : Int) = 336 + m 130 8 + ((i + 1 : Nat) : Int) by omega] at this
    exact this
theorem r_keep_loop {t : Int → Int} {n cell fi b q : Int} (hb : b ≤ n) (hfi : 0 ≤ fi ∧ fi < 242) (hq : q = 0 ∨ q = 1) : ∀ (j : Nat) (a : Int) (m : aM) (f : Nat), MTx m t n → m 139 fi = b → m 140 fi = q → (q = 0 → ∀ i, a ≤ i → i < b → t i ≠ 34) → 0 ≤ a → a ≤ b + 1 → (b - a).toNat < j → (b - a).toNat < f → 0 ≤ m 130 8 → m 130 8 + ((un (sl (fun _ => t) 0 a b)).length : Int) ≤ 240 → ∃ m' a' f', aLoop (fM_keep_33_b cell fi) f (m, a) = aLoop (fM_keep_33_b cell fi) (f' + 1) (m', a') ∧ b ≤ a' ∧ KP m m' (un (sl (fun _ => t) 0 a b)) := by
  intro j
  induction j with
  | zero => intro a m f _ _ _ _ _ _ hj; omega
  | succ j ih =>
    intro a m f hM h139 h140 hpl h0 hab hj hf hm hr
    obtain ⟨f, rfl⟩ : ∃ g, f = g + 1 := ⟨f - 1, by omega⟩
    have hn := hM.2.2.2
    by_cases hlt : a < b
    · rw [sl_cons hlt, un_cons] at hr ⊢
      rw [List.length_cons] at hr
      obtain ⟨m1, hm1⟩ : ∃ m1, m1 = mup (mup m 131 (336 + m 130 8) (t a)) 130 8 (m 130 8 + 1) := ⟨_, rfl⟩
      have k1 : KP m m1 [t a] := by
        rw [hm1]
        refine ⟨by rw [mup_same]; rfl, fun j hj => by rw [mup_ref (by decide), mup_idx (by omega)], fun i hi => ?_, fun y y1 y2 => by funext j; rw [mup_ref y1, mup_ref y2], fun j hj => by rw [mup_idx hj, mup_ref (by decide)]⟩
        have hi : i < 1 := hi
        obtain rfl : i = 0 := by omega
        rw [mup_ref (by decide), show 336 + m 130 8 + ((0 : Nat) : Int) = 336 + m 130 8 by omega, mup_same]
        rfl
      have q1 : m1 130 8 = m 130 8 + 1 := k1.1
      have hM1 : MTx m1 t n := by
        obtain ⟨e1, e2, e3⟩ := hM
        refine ⟨by rw [k1.2.2.2.2 2 (by decide)]; exact e1, fun i i0 i1 => ?_, e3⟩
        rw [k1.2.1 i (by omega)]
        exact e2 i i0 i1
      have ea : m 131 a = t a := hM.2.1 a h0 (by omega)
      have eb (w : Int) (hw : w = if t a = 34 then a + 2 else a + 1) : fM_keep_33_b cell fi (m, a) = some (Sum.inl (m1, w)) := by
        unfold fM_keep_33_b
        simp only
        rw [gd_pos hfi, h139, if_pos hlt, gd_pos (by omega), w32_id (x := 336 + m 130 8) (by omega) (by omega), gd_pos (by omega), ea, h140, w32_id (x := m 130 8 + 1) (by omega) (by omega), w32_id (x := a + 1) (by omega) (by omega), w32_id (x := a + 2) (by omega) (by omega), ← hm1, mup_idx (show a ≠ 336 + m 130 8 by omega), ea, hw]
        rcases hq with hq | hq
        · rw [if_pos hq, if_neg (hpl hq a (by omega) hlt)]
        · rw [if_neg (by omega)]
          split <;> rfl
      have h139' : m1 139 fi = b := by rw [k1.2.2.2.1 139 (by decide) (by decide)]; exact h139
      have h140' : m1 140 fi = q := by rw [k1.2.2.2.1 140 (by decide) (by decide)]; exact h140
      by_cases h34 : t a = 34
      · have et : (sl (fun _ => t) 0 (a + 1) b).tail = sl (fun _ => t) 0 (a + 2) b := by
          by_cases hl2 : a + 1 < b
          · rw [sl_cons hl2, List.tail_cons, show a + 1 + 1 = a + 2 by omega]
          · rw [sl_nil (by omega), sl_nil (by omega)]; rfl
        rw [if_pos h34, et] at hr ⊢
        obtain ⟨m2, a2, f2, e2, e3, p2⟩ := ih (a + 2) m1 f hM1 h139' h140' (fun hq0 i i0 i1 => hpl hq0 i (by omega) i1) (by omega) (by omega) (by omega) (by omega) (by omega) (by omega)
        exact ⟨m2, a2, f2, (aL_go (eb (a + 2) (by rw [if_pos h34]))).trans e2, e3, k1.cons p2⟩
      · rw [if_neg h34] at hr ⊢
        obtain ⟨m2, a2, f2, e2, e3, p2⟩ := ih (a + 1) m1 f hM1 h139' h140' (fun hq0 i i0 i1 => hpl hq0 i (by omega) i1) (by omega) (by omega) (by omega) (by omega) (by omega) (by omega)
        exact ⟨m2, a2, f2, (aL_go (eb (a + 1) (by rw [if_neg h34]))).trans e2, e3, k1.cons p2⟩
    · rw [sl_nil (by omega)]
      exact ⟨m, a, f, rfl, by omega, by show m 130 8 = m 130 8 + ((0 : Nat) : Int); omega, fun _ _ => rfl, fun i hi => absurd hi (Nat.not_lt_zero _), fun _ _ _ => rfl, fun _ _ => rfl⟩
theorem KP.sl {m m' : aM} {l : List Int} (h : KP m m' l) : sl m' 131 (336 + m 130 8) (336 + m 130 8 + (l.length : Int)) = l := by
  obtain ⟨a, b, c, d⟩ := h
  apply List.ext_getElem?
  intro i
  by_cases hi : i < l.length
  · rw [sl_at (by omega), c i hi, List.getD_eq_getElem?_getD, List.getElem?_eq_getElem hi]
    rfl
  · rw [List.getElem?_eq_none (by rw [sl_len]; omega), List.getElem?_eq_none (by omega)]
/-- the rows that keeping changes -/
def FrK (m m' : aM) : Prop := (∀ y, y ≠ 130 → y ≠ 131 → y ≠ 134 → y ≠ 135 → y ≠ 136 → m' y = m y) ∧ (∀ j, j ≠ 8 → m' 130 j = m 130 j) ∧ ∀ j, j < 336 → m' 131 j = m 131 j
theorem FrK.tr {m m1 m2 : aM} (h1 : FrK m m1) (h2 : FrK m1 m2) : FrK m m2 := ⟨fun y a b c d e => (h2.1 y a b c d e).trans (h1.1 y a b c d e), fun j hj => (h2.2.1 j hj).trans (h1.2.1 j hj), fun j hj => (h2.2.2 j hj).trans (h1.2.2 j hj)⟩
theorem r_keep {t : Int → Int} {n cell : Int} {x : tF} {fi : Int} {m : aM} (hM : MTx m t n) (hc : 0 ≤ cell ∧ cell < 96) (hfi : 0 ≤ fi ∧ fi < 242) (h138 : m 138 fi = x.1) (h139 : m 139 fi = x.2.1) (h140 : m 140 fi = x.2.2) (hx : 0 ≤ x.1 ∧ x.1 ≤ x.2.1 ∧ x.2.1 ≤ n ∧ (x.2.2 = 0 ∨ x.2.2 = 1) ∧ (x.2.2 = 0 → ∀ i, x.1 ≤ i → i < x.2.1 → t i ≠ 34)) (hu : 0 ≤ m 130 8) (hr : m 130 8 + ((un (rawT t x)).length : Int) ≤ 240) : ∃ m', fM_keep m cell fi = some m' ∧ FrK m m' ∧ m' 130 8 = m 130 8 + ((un (rawT t x)).length : Int) ∧ (∀ j, j < 336 + m 130 8 → m' 131 j = m 131 j) ∧ m' 136 cell = x.2.2 ∧ m' 134 cell = 336 + m 130 8 ∧ (m' 135 cell = if x.2.2 = 0 ∧ un (rawT t x) = [] then -1 else ((un (rawT t x)).length : Int)) ∧ sl m' 131 (336 + m 130 8) (336 + m 130 8 + ((un (rawT t x)).length : Int)) = un (rawT t x) ∧ ∀ k, k ≠ cell → m' 134 k = m 134 k ∧ m' 135 k = m 135 k ∧ m' 136 k = m 136 k := by
  obtain ⟨x1, x2, x3, x4, x5⟩ := hx
  have hn := hM.2.2.2
  obtain ⟨ma, hma⟩ : ∃ ma, ma = mup (mup m 134 cell (336 + m 130 8)) 136 cell x.2.2 := ⟨_, rfl⟩
  have ra (y : Int) (h1 : y ≠ 134) (h2 : y ≠ 136) : ma y = m y := by rw [hma]; funext j; rw [mup_ref h2, mup_ref h1]
  have hMa : MTx ma t n := by
    obtain ⟨e1, e2, e3⟩ := hM
    exact ⟨by rw [ra 130 (by decide) (by decide)]; exact e1, by rw [ra 131 (by decide) (by decide)]; exact e2, e3⟩
  have e0 : fM_keep m cell fi = aLoop (fM_keep_33_b cell fi) FU (ma, x.1) := by
    unfold fM_keep fM_keep_33
    rw [gd_pos hc, gd_pos hfi, h140, gd_pos x4, w32_id (by omega) (by omega), ← hma, h138]
  obtain ⟨mb, a', f', q1, q2, q3⟩ := r_keep_loop (cell := cell) x3 hfi x4 ((x.2.1 - x.1).toNat + 1) x.1 ma FU hMa (by rw [ra 139 (by decide) (by decide)]; exact h139) (by rw [ra 140 (by decide) (by decide)]; exact h140) x5 x1 (by omega) (by omega) (by show _ < 1000000; omega) (by rw [ra 130 (by decide) (by decide)]; exact hu) (by rw [ra 130 (by decide) (by decide)]; exact hr)
  have q3 : KP ma mb (un (rawT t x)) := q3
  have hsl := q3.sl
  obtain ⟨p1, p2, p3, p4, p5⟩ := q3
  rw [ra 130 (by decide) (by decide)] at p1 p2 p5 hsl
  rw [ra 131 (by decide) (by decide)] at p2
  have b134 : mb 134 = ma 134 := p4 134 (by decide) (by decide)
  have b135 : mb 135 = m 135 := by rw [p4 135 (by decide) (by decide), ra 135 (by decide) (by decide)]
  have b136 : mb 136 = ma 136 := p4 136 (by decide) (by decide)
  have b139 : mb 139 fi = x.2.1 := by rw [p4 139 (by decide) (by decide), ra 139 (by decide) (by decide)]; exact h139
  have v134 : mb 134 cell = 336 + m 130 8 := by rw [b134, hma, mup_ref (by decide), mup_same]
  have v136 : mb 136 cell = x.2.2 := by rw [b136, hma, mup_same]
  obtain ⟨w, hw⟩ : ∃ w : Int, w = if x.2.2 = 0 ∧ un (rawT t x) = [] then -1 else ((un (rawT t x)).length : Int) := ⟨_, rfl⟩
  have hlen0 : ((un (rawT t x)).length : Int) = 0 ↔ un (rawT t x) = [] := by
    rw [← List.length_eq_zero_iff]
    omega
  have fin : fM_keep_33_b cell fi (mb, a') = some (Sum.inr (mup mb 135 cell w)) := by
    unfold fM_keep_33_b
    simp only
    rw [gd_pos hfi, b139, if_neg (by omega), gd_pos hc, mup_same, p1, v134, v136, w32_id (x := 336 + (m 130 8 + ((un (rawT t x)).length : Int))) (by omega) (by omega), w32_id (by omega) (by omega), show 336 + (m 130 8 + ((un (rawT t x)).length : Int)) - (336 + m 130 8) = ((un (rawT t x)).length : Int) by omega, mup_up, mup_up, hw]
    by_cases hz : ((un (rawT t x)).length : Int) = 0
    · rw [if_pos hz]
      by_cases hq : x.2.2 = 0
      · rw [if_pos hq, if_pos ⟨hq, hlen0.mp hz⟩]
      · rw [if_neg hq, if_neg (fun h => hq h.1)]
    · rw [if_neg hz, if_neg (fun h => hz (hlen0.mpr h.2))]
  have rc (y : Int) (hy : y ≠ 135) : mup mb 135 cell w y = mb y := by funext j; exact mup_ref hy
  refine ⟨mup mb 135 cell w, by rw [e0, q1, aL_end fin], ⟨fun y y1 y2 y3 y4 y5 => ?_, fun j hj => ?_, fun j hj => ?_⟩, ?_, fun j hj => ?_, ?_, ?_, ?_, ?_, fun k hk => ⟨?_, ?_, ?_⟩⟩
  · rw [rc y y4, p4 y y1 y2, ra y y3 y5]
  · rw [rc 130 (by decide), p5 j hj]
  · rw [rc 131 (by decide), p2 j (by omega)]
  · rw [rc 130 (by decide), p1]
  · rw [rc 131 (by decide), p2 j hj]
  · rw [rc 136 (by decide), v136]
  · rw [rc 134 (by decide), v134]
  · rw [mup_same, hw]
  · rw [sl_row (rc 131 (by decide))]; exact hsl
  · rw [rc 134 (by decide), b134, hma, mup_ref (by decide), mup_idx hk]
  · rw [mup_idx hk, b135]
  · rw [rc 136 (by decide), b136, hma, mup_idx hk, mup_ref (by decide)]
