/-! ASK: the tokens, as the class finds them -/
def us (u : Int → Int) (a b : Int) : List Int := sl (fun _ => u) 0 a b
def QC (c : aM) (u : Int → Int) (n : Int) : Prop := c 4 1 = n ∧ (∀ i, 0 ≤ i → i < n → c 5 i = u i) ∧ (0 ≤ n ∧ n ≤ 96) ∧ ∀ i, 0 ≤ i → i < n → 32 ≤ u i ∧ u i ≤ 126
theorem QC.of {c c' : aM} {u : Int → Int} {n : Int} (h : QC c u n) (h4 : c' 4 = c 4) (h5 : c' 5 = c 5) : QC c' u n := by
  unfold QC
  rw [h4, h5]
  exact h
theorem usC {c : aM} {u : Int → Int} {n a b : Int} (h : QC c u n) (h0 : 0 ≤ a) (h1 : b ≤ n) : sl c 5 a b = us u a b := by
  unfold us sl
  apply List.map_congr_left
  intro k hk
  rw [List.mem_range] at hk
  exact h.2.1 _ (by omega) (by omega)
theorem QC.chk {c : aM} {u : Int → Int} {n : Int} (h : QC c u n) : ChK c 4 := by
  obtain ⟨h1, h2, h3, h4⟩ := h
  refine ⟨⟨by omega, by rw [h1]; have : LEN (4 + 1) = 96 := rfl; omega, by decide⟩, fun j j0 j1 => ?_⟩
  rw [h1] at j1
  show chOK (c 5 j)
  rw [h2 j j0 j1]
  have := h4 j j0 j1
  exact ⟨by omega, by omega⟩
theorem QC.at {c : aM} {u : Int → Int} {n i : Int} (h : QC c u n) (i0 : 0 ≤ i) : fC_at c 4 i = some (if i < n then u i else -1) := by
  rw [at_eq h.chk.1]
  by_cases hi : i < n
  · rw [if_pos hi, ca_in i0 (by rw [h.1]; exact hi)]
    show some (c 5 i) = _
    rw [h.2.1 i i0 hi]
  · rw [if_neg hi, ca_out (by rw [h.1]; omega)]
def colR (T : Tb) (w : List Int) (d : Int) : Prop := (d = -1 ∧ ∀ c, 0 ≤ c → c < Tn T → Tm T c ≠ w) ∨ (0 ≤ d ∧ d < Tn T ∧ Tm T d = w)
def emp (τ : Int → Int) : Prop := τ 3 = 15 ∧ τ 4 = -1
def TkW (T : Tb) (u : Int → Int) (n : Int) (τ : Int → Int) : Prop := lo (u (τ 1)) = true ∧ τ 1 < τ 2 ∧ τ 2 ≤ n ∧ (∀ j, τ 1 ≤ j → j < τ 2 → lo (u j) = true) ∧ (τ 2 < n → lo (u (τ 2)) = false) ∧ τ 0 = 1 ∧ τ 3 = wordS (us u (τ 1) (τ 2)) ∧ colR T (us u (τ 1) (τ 2)) (τ 4) ∧ τ 5 = (if τ 4 = -1 then -1 else fK_sortOf (tyS T (τ 4)))
def dgm (c : Int) : Bool := dg c || decide (c = 45)
def TkD (u : Int → Int) (n : Int) (τ : Int → Int) : Prop := dgm (u (τ 1)) = true ∧ τ 1 < τ 2 ∧ τ 2 ≤ n ∧ (∀ j, τ 1 ≤ j → j < τ 2 → dgm (u j) = true) ∧ (τ 2 < n → dgm (u (τ 2)) = false) ∧ emp τ ∧ ((shapeS (us u (τ 1) (τ 2)) = 3 ∧ τ 0 = 0 ∧ τ 5 = -1) ∨ (shapeS (us u (τ 1) (τ 2)) ≠ 3 ∧ τ 0 = 2 ∧ τ 5 = fK_sortOf (shapeS (us u (τ 1) (τ 2))) ∧ τ 6 = valS (us u (τ 1) (τ 2))))
def TkQ (u : Int → Int) (n : Int) (τ : Int → Int) : Prop := u (τ 1) = 39 ∧ emp τ ∧ ∃ e, τ 1 < e ∧ e ≤ n ∧ (∀ j, τ 1 < j → j < e → u j ≠ 39) ∧ (e < n → u e = 39) ∧ ((e = n ∧ τ 0 = 0 ∧ τ 5 = -1 ∧ τ 2 = n) ∨ (e < n ∧ τ 0 = 2 ∧ τ 5 = 3 ∧ τ 2 = e + 1))
def nx (u : Int → Int) (n s : Int) : Int := if s + 1 < n then u (s + 1) else -1
def sgR (c d s : Int) (τ : Int → Int) : Prop :=
  (c = 40 ∧ τ 0 = 4 ∧ τ 2 = s + 1) ∨ (c = 41 ∧ τ 0 = 5 ∧ τ 2 = s + 1) ∨ (c = 61 ∧ τ 0 = 3 ∧ τ 2 = s + 1 ∧ τ 7 = 2) ∨ (c = 60 ∧ d = 62 ∧ τ 0 = 3 ∧ τ 2 = s + 2 ∧ τ 7 = 5) ∨ (c = 60 ∧ d = 61 ∧ τ 0 = 3 ∧ τ 2 = s + 2 ∧ τ 7 = 3) ∨ (c = 60 ∧ d ≠ 62 ∧ d ≠ 61 ∧ τ 0 = 3 ∧ τ 2 = s + 1 ∧ τ 7 = 1) ∨ (c = 62 ∧ d = 61 ∧ τ 0 = 3 ∧ τ 2 = s + 2 ∧ τ 7 = 6) ∨ (c = 62 ∧ d ≠ 61 ∧ τ 0 = 3 ∧ τ 2 = s + 1 ∧ τ 7 = 4) ∨ (c ≠ 40 ∧ c ≠ 41 ∧ c ≠ 61 ∧ c ≠ 60 ∧ c ≠ 62 ∧ τ 0 = 0 ∧ τ 2 = s + 1)
def TkS (u : Int → Int) (n : Int) (τ : Int → Int) : Prop := lo (u (τ 1)) = false ∧ dgm (u (τ 1)) = false ∧ u (τ 1) ≠ 39 ∧ emp τ ∧ τ 5 = -1 ∧ sgR (u (τ 1)) (nx u n (τ 1)) (τ 1) τ
def TkE (n : Int) (τ : Int → Int) : Prop := τ 0 = 6 ∧ τ 1 = n ∧ τ 2 = n ∧ emp τ ∧ τ 5 = -1
def Tk (T : Tb) (u : Int → Int) (n : Int) (τ : Int → Int) : Prop := (0 ≤ τ 1 ∧ τ 1 ≤ n) ∧ ((τ 1 < n ∧ u (τ 1) ≠ 32 ∧ (TkW T u n τ ∨ TkD u n τ ∨ TkQ u n τ ∨ TkS u n τ)) ∨ TkE n τ)
theorem bec_row {m : aM} {x k s e y : Int} (h : y ≠ x) : fK_become m x k s e y = m y := by
  funext j
  unfold fK_become
  rw [mup_ref h, mup_ref h, mup_ref h, mup_ref h, mup_ref h, mup_ref h, mup_ref h, mup_ref h]
theorem bec_at {m : aM} {x k s e : Int} : fK_become m x k s e x 0 = k ∧ fK_become m x k s e x 1 = s ∧ fK_become m x k s e x 2 = e ∧ fK_become m x k s e x 3 = 15 ∧ fK_become m x k s e x 4 = -1 ∧ fK_become m x k s e x 5 = -1 ∧ fK_become m x k s e x 6 = 0 ∧ fK_become m x k s e x 7 = 0 := by
  unfold fK_become mup
  simp
theorem row_up {m : aM} {x i v y : Int} (h : y ≠ x) : mup m x i v y = m y := by
  funext j
  exact mup_ref h
theorem c_digits {m : aM} {x a : Int} (hc : ChR m x) (ha : 0 ≤ a) (han : a ≤ m x 1) : ∃ v, fC_endOfDigits m x a = some v ∧ a ≤ v ∧ v ≤ m x 1 ∧ (∀ j, a ≤ j → j < v → dgm (m (x + 1) j) = true) ∧ (v < m x 1 → dgm (m (x + 1) v) = false) := by
  have h7 := hc.2.2
  have h6 := hc.2.1
  unfold fC_endOfDigits fC_endOfDigits_2
  refine aLoop_ok (Inv := fun i : Int => a ≤ i ∧ i ≤ m x 1 ∧ ∀ j, a ≤ j → j < i → dgm (m (x + 1) j) = true) (μ := fun i => (m x 1 - i).toNat) (Post := fun v => a ≤ v ∧ v ≤ m x 1 ∧ (∀ j, a ≤ j → j < v → dgm (m (x + 1) j) = true) ∧ (v < m x 1 → dgm (m (x + 1) v) = false)) ?_ FU a ⟨by omega, han, fun j j0 j1 => by omega⟩ (by show (m x 1 - a).toNat < 1000000; omega)
  rintro i ⟨g1, g2, g3⟩
  unfold fC_endOfDigits_2_b
  by_cases hi : i < m x 1
  · rw [if_pos hi, at_eq hc, ca_in (by omega) hi]
    simp only [Option.bind_some]
    rw [xDig, w32_id (by omega) (by omega)]
    have next (h : dgm (m (x + 1) i) = true) : a ≤ i + 1 ∧ i + 1 ≤ m x 1 ∧ ∀ j, a ≤ j → j < i + 1 → dgm (m (x + 1) j) = true := ⟨by omega, by omega, fun j j0 j1 => by
      by_cases e : j = i
      · rw [e]; exact h
      · exact g3 j j0 (by omega)⟩
    by_cases hl : dg (m (x + 1) i) = true
    · left
      rw [if_pos hl, if_neg (by decide)]
      exact ⟨_, rfl, next (by unfold dgm; rw [hl]; rfl), by omega⟩
    · rw [if_neg hl, if_pos rfl]
      by_cases h45 : m (x + 1) i = 45
      · left
        rw [if_pos h45]
        exact ⟨_, rfl, next (by unfold dgm; rw [h45]; rfl), by omega⟩
      · right
        rw [if_neg h45]
        refine ⟨_, rfl, g1, g2, g3, fun _ => ?_⟩
        unfold dgm
        rw [Bool.eq_false_iff.mpr hl, decide_eq_false h45]
        rfl
  · right
    rw [if_neg hi]
    exact ⟨_, rfl, g1, g2, g3, fun h => absurd h hi⟩
theorem c_place {m : aM} {x a : Int} (hc : ChR m x) (ha : 0 ≤ a) (han : a ≤ m x 1) : ∃ v, fC_placeOf m x 39 a = some v ∧ a ≤ v ∧ v ≤ m x 1 ∧ (∀ j, a ≤ j → j < v → m (x + 1) j ≠ 39) ∧ (v < m x 1 → m (x + 1) v = 39) := by
  have h7 := hc.2.2
  have h6 := hc.2.1
  unfold fC_placeOf fC_placeOf_2
  refine aLoop_ok (Inv := fun i : Int => a ≤ i ∧ i ≤ m x 1 ∧ ∀ j, a ≤ j → j < i → m (x + 1) j ≠ 39) (μ := fun i => (m x 1 - i).toNat) (Post := fun v => a ≤ v ∧ v ≤ m x 1 ∧ (∀ j, a ≤ j → j < v → m (x + 1) j ≠ 39) ∧ (v < m x 1 → m (x + 1) v = 39)) ?_ FU a ⟨by omega, han, fun j j0 j1 => by omega⟩ (by show (m x 1 - a).toNat < 1000000; omega)
  rintro i ⟨g1, g2, g3⟩
  unfold fC_placeOf_2_b
  by_cases hi : i < m x 1
  · rw [if_pos hi, at_eq hc, ca_in (by omega) hi]
    simp only [Option.bind_some]
    by_cases hl : m (x + 1) i = 39
    · right
      rw [if_pos hl]
      exact ⟨_, rfl, g1, g2, g3, fun _ => hl⟩
    · left
      rw [if_neg hl, w32_id (by omega) (by omega)]
      refine ⟨_, rfl, ⟨by omega, by omega, fun j j0 j1 => ?_⟩, by omega⟩
      by_cases e : j = i
      · rw [e]; exact hl
      · exact g3 j j0 (by omega)
  · right
    rw [if_neg hi]
    exact ⟨_, rfl, g1, g2, g3, fun h => absurd h hi⟩
theorem c_colNamed {m : aM} {T : Tb} {u : Int → Int} {n a b : Int} (wt : WT T) (ct : CT m T) (hq : QC m u n) (a0 : 0 ≤ a) (ab : a ≤ b) (bn : b ≤ n) : ∃ d, fT_columnNamed m 4 a b = some d ∧ colR T (us u a b) d := by
  obtain ⟨c1, c2, c3, c4, c5, c6⟩ := ct
  have w1 := wt.1
  unfold fT_columnNamed fT_columnNamed_3
  refine aLoop_ok (Inv := fun i : Int => 0 ≤ i ∧ i ≤ Tn T ∧ ∀ c, 0 ≤ c → c < i → Tm T c ≠ us u a b) (μ := fun i => (Tn T - i).toNat) (Post := fun d => colR T (us u a b) d) ?_ FU 0 ⟨by omega, by omega, fun j j0 j1 => by omega⟩ (by show (Tn T - 0).toNat < 1000000; omega)
  rintro i ⟨g1, g2, g3⟩
  unfold fT_columnNamed_3_b
  rw [c1]
  by_cases hi : i < Tn T
  · obtain ⟨d1, d2, d3, d4⟩ := c4 i g1 hi
    rw [if_pos hi, if_pos (by omega), gd_pos (by omega), c_compareWith c3 hq.chk d1 d2 d3 a0 ab (by rw [hq.1]; exact bn)]
    simp only [Option.bind_some]
    have e1 : sl m (13 + 1) (m 15 i) (m 16 i) = Tm T i := d4
    have e2 : sl m (4 + 1) a b = us u a b := usC hq a0 bn
    rw [e1, e2]
    by_cases hl : tc (Tm T i) (us u a b) = 0
    · right
      rw [if_pos hl]
      exact ⟨_, rfl, Or.inr ⟨g1, hi, tc_eq0.mp hl⟩⟩
    · left
      rw [if_neg hl, w32_id (by omega) (by omega)]
      refine ⟨_, rfl, ⟨by omega, by omega, fun j j0 j1 => ?_⟩, by omega⟩
      by_cases e : j = i
      · rw [e]; exact fun h => hl (tc_eq0.mpr h)
      · exact g3 j j0 (by omega)
  · right
    rw [if_neg hi]
    exact ⟨_, rfl, Or.inl ⟨rfl, fun c c0 c1 => g3 c c0 (by omega)⟩⟩
/-- a memory that differs at the tokens alone -/
def FrS (c c' : aM) : Prop := ∀ y, ¬ (22 ≤ y ∧ y ≤ 120) → c' y = c y
theorem CT.row {m m' : aM} {T : Tb} (h : CT m T) (f : ∀ y, 12 ≤ y → y ≤ 20 → m' y = m y) : CT m' T :=
  h.of (by rw [f 12 (by decide) (by decide)]) (by rw [f 12 (by decide) (by decide)]) (by rw [f 13 (by decide) (by decide)]) (f 14 (by decide) (by decide)) (f 15 (by decide) (by decide)) (f 16 (by decide) (by decide)) (f 17 (by decide) (by decide)) (f 18 (by decide) (by decide)) (f 19 (by decide) (by decide)) (f 20 (by decide) (by decide))
theorem c_readWord {c : aM} {T : Tb} {u : Int → Int} {n s x : Int} (wt : WT T) (ct : CT c T) (hq : QC c u n) (s0 : 0 ≤ s) (sn : s < n) (hx : 24 ≤ x) (hl : lo (u s) = true) : ∃ c', fS_readWord c x 4 s = some c' ∧ (∀ y, y ≠ x → c' y = c y) ∧ c' x 1 = s ∧ TkW T u n (c' x) := by
  obtain ⟨e, e1, e2, e3, e4, e5⟩ := c_letters hq.chk.1 s0 (by rw [hq.1]; omega)
  rw [hq.1] at e3 e5
  have hse : s < e := by
    rcases Int.lt_or_le s e with h | h
    · exact h
    · have : e = s := by omega
      subst this
      have := e5 sn
      have h5 : lo (c 5 e) = false := this
      rw [hq.2.1 e s0 sn, hl] at h5
      exact absurd h5 (by decide)
  have hlo : ∀ j, s ≤ j → j < e → lo (u j) = true := fun j j0 j1 => by
    have h5 : lo (c 5 j) = true := e4 j j0 j1
    rwa [hq.2.1 j (by omega) (by omega)] at h5
  have hnl : e < n → lo (u e) = false := fun h => by
    have h5 : lo (c 5 e) = false := e5 h
    rwa [hq.2.1 e (by omega) (by omega)] at h5
  unfold fS_readWord
  rw [e1]
  simp only [Option.bind_some]
  obtain ⟨m1, h1⟩ : ∃ m1, m1 = fK_become c x 1 s e := ⟨_, rfl⟩
  rw [← h1]
  have r1 (y : Int) (hy : y ≠ x) : m1 y = c y := by rw [h1]; exact bec_row hy
  obtain ⟨b0, b1, b2, b3, b4, b5, b6, b7⟩ := bec_at (m := c) (x := x) (k := 1) (s := s) (e := e)
  rw [← h1] at b0 b1 b2 b3 b4 b5 b6 b7
  have q1 : QC m1 u n := hq.of (r1 4 (by omega)) (r1 5 (by omega))
  rw [c_spelled q1.chk.1 s0 (by omega) (by rw [q1.1]; exact e3)]
  have eu : sl m1 (4 + 1) s e = us u s e := usC q1 s0 e3
  rw [eu]
  simp only [Option.bind_some]
  obtain ⟨m2, h2⟩ : ∃ m2, m2 = mup m1 x 3 (wordS (us u s e)) := ⟨_, rfl⟩
  rw [← h2]
  have r2 (y : Int) (hy : y ≠ x) : m2 y = c y := by rw [h2, row_up hy, r1 y hy]
  have q2 : QC m2 u n := hq.of (r2 4 (by omega)) (r2 5 (by omega))
  have ct2 : CT m2 T := ct.row (fun y y0 y1 => r2 y (by omega))
  obtain ⟨d, d1, d2⟩ := c_colNamed wt ct2 q2 s0 (by omega : s ≤ e) e3
  rw [d1]
  simp only [Option.bind_some]
  obtain ⟨m3, h3⟩ : ∃ m3, m3 = mup m2 x 4 d := ⟨_, rfl⟩
  rw [← h3]
  have r3 (y : Int) (hy : y ≠ x) : m3 y = c y := by rw [h3, row_up hy, r2 y hy]
  have ct3 : CT m3 T := ct.row (fun y y0 y1 => r3 y (by omega))
  have f0 : m3 x 0 = 1 := by rw [h3, mup_idx (by decide), h2, mup_idx (by decide)]; exact b0
  have f1 : m3 x 1 = s := by rw [h3, mup_idx (by decide), h2, mup_idx (by decide)]; exact b1
  have f2 : m3 x 2 = e := by rw [h3, mup_idx (by decide), h2, mup_idx (by decide)]; exact b2
  have f3 : m3 x 3 = wordS (us u s e) := by rw [h3, mup_idx (by decide), h2, mup_same]
  have f4 : m3 x 4 = d := by rw [h3, mup_same]
  have f5 : m3 x 5 = -1 := by rw [h3, mup_idx (by decide), h2, mup_idx (by decide)]; exact b5
  rw [f4]
  by_cases hd : d = -1
  · rw [if_pos hd]
    refine ⟨m3, rfl, r3, f1, ?_⟩
    unfold TkW
    rw [f0, f1, f2, f3, f4, f5]
    exact ⟨hl, hse, e3, hlo, hnl, rfl, rfl, d2, by rw [if_pos hd]⟩
  · have dr : 0 ≤ d ∧ d < Tn T := by
      rcases d2 with h | h
      · exact absurd h.1 hd
      · exact ⟨h.1, h.2.1⟩
    rw [if_neg hd, c_typeAt wt ct3 dr.1 dr.2]
    simp only [Option.bind_some]
    refine ⟨_, rfl, fun y hy => by rw [row_up hy, r3 y hy], by rw [mup_idx (by decide)]; exact f1, ?_⟩
    unfold TkW
    rw [mup_idx (show (0 : Int) ≠ 5 by decide), mup_idx (show (1 : Int) ≠ 5 by decide), mup_idx (show (2 : Int) ≠ 5 by decide), mup_idx (show (3 : Int) ≠ 5 by decide), mup_idx (show (4 : Int) ≠ 5 by decide), mup_same, f0, f1, f2, f3, f4]
    exact ⟨hl, hse, e3, hlo, hnl, rfl, rfl, d2, by rw [if_neg hd]⟩
theorem c_readDigits {c : aM} {u : Int → Int} {n s x : Int} (hq : QC c u n) (s0 : 0 ≤ s) (sn : s < n) (hx : 24 ≤ x) (hl : dgm (u s) = true) : ∃ c', fS_readDigits c x 4 s = some c' ∧ (∀ y, y ≠ x → c' y = c y) ∧ c' x 1 = s ∧ TkD u n (c' x) := by
  obtain ⟨e, e1, e2, e3, e4, e5⟩ := c_digits hq.chk.1 s0 (by rw [hq.1]; omega)
  rw [hq.1] at e3 e5
  have hse : s < e := by
    rcases Int.lt_or_le s e with h | h
    · exact h
    · have : e = s := by omega
      subst this
      have h5 : dgm (c 5 e) = false := e5 sn
      rw [hq.2.1 e s0 sn, hl] at h5
      exact absurd h5 (by decide)
  have hlo : ∀ j, s ≤ j → j < e → dgm (u j) = true := fun j j0 j1 => by
    have h5 : dgm (c 5 j) = true := e4 j j0 j1
    rwa [hq.2.1 j (by omega) (by omega)] at h5
  have hnl : e < n → dgm (u e) = false := fun h => by
    have h5 : dgm (c 5 e) = false := e5 h
    rwa [hq.2.1 e (by omega) (by omega)] at h5
  have eu : sl c (4 + 1) s e = us u s e := usC hq s0 e3
  unfold fS_readDigits
  rw [e1]
  simp only [Option.bind_some]
  rw [c_shapeOf hq.chk.1 s0 (by omega) (by rw [hq.1]; exact e3), eu]
  simp only [Option.bind_some]
  by_cases h3 : shapeS (us u s e) = 3
  · rw [if_pos h3]
    obtain ⟨b0, b1, b2, b3, b4, b5, b6, b7⟩ := bec_at (m := c) (x := x) (k := 0) (s := s) (e := e)
    refine ⟨_, rfl, fun y hy => bec_row hy, b1, ?_⟩
    unfold TkD emp
    rw [b0, b1, b2, b3, b4, b5]
    exact ⟨hl, hse, e3, hlo, hnl, ⟨rfl, rfl⟩, Or.inl ⟨h3, rfl, rfl⟩⟩
  · rw [if_neg h3]
    obtain ⟨b0, b1, b2, b3, b4, b5, b6, b7⟩ := bec_at (m := c) (x := x) (k := 2) (s := s) (e := e)
    obtain ⟨m1, h1⟩ : ∃ m1, m1 = mup (fK_become c x 2 s e) x 5 (fK_sortOf (shapeS (us u s e))) := ⟨_, rfl⟩
    rw [← h1]
    have r1 (y : Int) (hy : y ≠ x) : m1 y = c y := by rw [h1, row_up hy]; exact bec_row hy
    have q1 : QC m1 u n := hq.of (r1 4 (by omega)) (r1 5 (by omega))
    have eu1 : sl m1 (4 + 1) s e = us u s e := usC q1 s0 e3
    rw [c_digitsOf q1.chk.1 s0 (by omega) (by rw [q1.1]; exact e3) (by rw [eu1]; exact valS_nv h3), eu1]
    simp only [Option.bind_some]
    refine ⟨_, rfl, fun y hy => by rw [row_up hy, r1 y hy], by rw [mup_idx (by decide), h1, mup_idx (by decide)]; exact b1, ?_⟩
    have g0 : mup m1 x 6 (valS (us u s e)) x 0 = 2 := by rw [mup_idx (by decide), h1, mup_idx (by decide)]; exact b0
    have g1 : mup m1 x 6 (valS (us u s e)) x 1 = s := by rw [mup_idx (by decide), h1, mup_idx (by decide)]; exact b1
    have g2 : mup m1 x 6 (valS (us u s e)) x 2 = e := by rw [mup_idx (by decide), h1, mup_idx (by decide)]; exact b2
    have g3 : mup m1 x 6 (valS (us u s e)) x 3 = 15 := by rw [mup_idx (by decide), h1, mup_idx (by decide)]; exact b3
    have g4 : mup m1 x 6 (valS (us u s e)) x 4 = -1 := by rw [mup_idx (by decide), h1, mup_idx (by decide)]; exact b4
    have g5 : mup m1 x 6 (valS (us u s e)) x 5 = fK_sortOf (shapeS (us u s e)) := by rw [mup_idx (by decide), h1, mup_same]
    unfold TkD emp
    rw [g0, g1, g2, g3, g4, g5, mup_same]
    exact ⟨hl, hse, e3, hlo, hnl, ⟨rfl, rfl⟩, Or.inr ⟨h3, rfl, rfl, rfl⟩⟩
theorem c_readText {c : aM} {u : Int → Int} {n s x : Int} (hq : QC c u n) (s0 : 0 ≤ s) (sn : s < n) (hx : 24 ≤ x) (hl : u s = 39) : ∃ c', fS_readText c x 4 s = some c' ∧ (∀ y, y ≠ x → c' y = c y) ∧ c' x 1 = s ∧ TkQ u n (c' x) := by
  have hn := hq.2.2.1
  obtain ⟨e, e1, e2, e3, e4, e5⟩ := c_place (a := s + 1) hq.chk.1 (by omega) (by rw [hq.1]; omega)
  rw [hq.1] at e3 e5
  have hlo : ∀ j, s < j → j < e → u j ≠ 39 := fun j j0 j1 => by
    have h5 : c 5 j ≠ 39 := e4 j (by omega) j1
    rwa [hq.2.1 j (by omega) (by omega)] at h5
  have hnl : e < n → u e = 39 := fun h => by
    have h5 : c 5 e = 39 := e5 h
    rwa [hq.2.1 e (by omega) (by omega)] at h5
  unfold fS_readText
  rw [w32_id (by omega) (by omega), e1]
  simp only [Option.bind_some]
  rw [hq.1]
  by_cases h3 : e = n
  · rw [if_pos h3]
    obtain ⟨b0, b1, b2, b3, b4, b5, b6, b7⟩ := bec_at (m := c) (x := x) (k := 0) (s := s) (e := e)
    refine ⟨_, rfl, fun y hy => bec_row hy, b1, ?_⟩
    unfold TkQ emp
    rw [b0, b1, b2, b3, b4, b5]
    exact ⟨hl, ⟨rfl, rfl⟩, e, by omega, e3, hlo, hnl, Or.inl ⟨h3, rfl, rfl, h3⟩⟩
  · rw [if_neg h3, w32_id (by omega) (by omega)]
    obtain ⟨b0, b1, b2, b3, b4, b5, b6, b7⟩ := bec_at (m := c) (x := x) (k := 2) (s := s) (e := e + 1)
    refine ⟨_, rfl, fun y hy => by rw [row_up hy]; exact bec_row hy, by rw [mup_idx (by decide)]; exact b1, ?_⟩
    unfold TkQ emp
    rw [mup_idx (show (0 : Int) ≠ 5 by decide), mup_idx (show (1 : Int) ≠ 5 by decide), mup_idx (show (2 : Int) ≠ 5 by decide), mup_idx (show (3 : Int) ≠ 5 by decide), mup_idx (show (4 : Int) ≠ 5 by decide), mup_same, b0, b1, b2, b3, b4]
    exact ⟨hl, ⟨rfl, rfl⟩, e, by omega, e3, hlo, hnl, Or.inr ⟨by omega, rfl, rfl, rfl⟩⟩
theorem c_readSign {c : aM} {u : Int → Int} {n s x : Int} (hq : QC c u n) (s0 : 0 ≤ s) (sn : s < n) (hx : 24 ≤ x) (hl : lo (u s) = false) (hd : dgm (u s) = false) (h39 : u s ≠ 39) : ∃ c', fS_readSign c x 4 s = some c' ∧ (∀ y, y ≠ x → c' y = c y) ∧ c' x 1 = s ∧ TkS u n (c' x) := by
  have hn := hq.2.2.1
  have a1 := hq.at s0
  have a2 := hq.at (i := s + 1) (by omega)
  rw [if_pos sn] at a1
  have hnx : (if s + 1 < n then u (s + 1) else -1) = nx u n s := rfl
  rw [hnx] at a2
  unfold fS_readSign
  rw [w32_id (by omega) (by omega), a1, a2]
  simp only [Option.bind_some]
  -- a token without outcomes
  have pl (k : Int) (h : sgR (u s) (nx u n s) s (fK_become c x k s (s + 1) x)) : ∃ c', some (fK_become c x k s (w32 (s + 1))) = some c' ∧ (∀ y, y ≠ x → c' y = c y) ∧ c' x 1 = s ∧ TkS u n (c' x) := by
    obtain ⟨b0, b1, b2, b3, b4, b5, b6, b7⟩ := bec_at (m := c) (x := x) (k := k) (s := s) (e := s + 1)
    rw [w32_id (by omega) (by omega)]
    refine ⟨_, rfl, fun y hy => bec_row hy, b1, ?_⟩
    unfold TkS emp
    rw [b1, b3, b4, b5]
    exact ⟨hl, hd, h39, ⟨rfl, rfl⟩, rfl, h⟩
  have cm (l o : Int) (l2 : l = 1 ∨ l = 2) (h : sgR (u s) (nx u n s) s (mup (fK_become c x 3 s (s + l)) x 7 o x)) : ∃ c', some (fS_becomeComparison c x s l o) = some c' ∧ (∀ y, y ≠ x → c' y = c y) ∧ c' x 1 = s ∧ TkS u n (c' x) := by
    obtain ⟨b0, b1, b2, b3, b4, b5, b6, b7⟩ := bec_at (m := c) (x := x) (k := 3) (s := s) (e := s + l)
    unfold fS_becomeComparison
    rw [w32_id (by omega) (by omega)]
    refine ⟨_, rfl, fun y hy => by rw [row_up hy]; exact bec_row hy, by rw [mup_idx (by decide)]; exact b1, ?_⟩
    unfold TkS emp
    rw [mup_idx (show (1 : Int) ≠ 7 by decide), mup_idx (show (3 : Int) ≠ 7 by decide), mup_idx (show (4 : Int) ≠ 7 by decide), mup_idx (show (5 : Int) ≠ 7 by decide), b1, b3, b4, b5]
    exact ⟨hl, hd, h39, ⟨rfl, rfl⟩, rfl, h⟩
  have p0 (k e : Int) : fK_become c x k s e x 0 = k := bec_at.1
  have p2 (k e : Int) : fK_become c x k s e x 2 = e := bec_at.2.2.1
  have cs (l o : Int) : mup (fK_become c x 3 s (s + l)) x 7 o x 0 = 3 ∧ mup (fK_become c x 3 s (s + l)) x 7 o x 2 = s + l ∧ mup (fK_become c x 3 s (s + l)) x 7 o x 7 = o := ⟨by rw [mup_idx (by decide)]; exact p0 3 _, by rw [mup_idx (by decide)]; exact p2 3 _, mup_same _ _ _ _⟩
  by_cases h40 : u s = 40
  · rw [if_pos h40]
    unfold fS_readSign_27 fS_readSign_39
    rw [if_pos h40]
    exact pl 4 (Or.inl ⟨h40, p0 4 _, p2 4 _⟩)
  rw [if_neg h40]
  by_cases h41 : u s = 41
  · rw [if_pos h41]
    unfold fS_readSign_27 fS_readSign_39
    rw [if_neg h40]
    exact pl 5 (Or.inr (Or.inl ⟨h41, p0 5 _, p2 5 _⟩))
  rw [if_neg h41]
  by_cases h61 : u s = 61
  · rw [if_pos h61]
    exact cm 1 2 (Or.inl rfl) (Or.inr (Or.inr (Or.inl ⟨h61, cs 1 2⟩)))
  rw [if_neg h61]
  unfold fS_readSign_88 fS_readSign_100 fS_readSign_111 fS_readSign_127 fS_readSign_143
  have o3 : bOr 1 2 = 3 := by decide
  have o6 : bOr 4 2 = 6 := by decide
  by_cases h60 : u s = 60
  · rw [if_pos h60]
    by_cases d62 : nx u n s = 62
    · rw [if_pos d62]
      exact cm 2 5 (Or.inr rfl) (Or.inr (Or.inr (Or.inr (Or.inl ⟨h60, d62, cs 2 5⟩))))
    · rw [if_neg d62, if_pos h60]
      by_cases d61 : nx u n s = 61
      · rw [if_pos h60, if_pos d61, if_pos d61, o3]
        exact cm 2 3 (Or.inr rfl) (Or.inr (Or.inr (Or.inr (Or.inr (Or.inl ⟨h60, d61, cs 2 3⟩)))))
      · rw [if_pos h60, if_neg d61, if_neg d61]
        exact cm 1 1 (Or.inl rfl) (Or.inr (Or.inr (Or.inr (Or.inr (Or.inr (Or.inl ⟨h60, d62, d61, cs 1 1⟩))))))
  · rw [if_neg h60, if_neg h60]
    by_cases h62 : u s = 62
    · rw [if_pos h62, if_neg h60]
      by_cases d61 : nx u n s = 61
      · rw [if_pos d61, if_pos d61, o6]
        exact cm 2 6 (Or.inr rfl) (Or.inr (Or.inr (Or.inr (Or.inr (Or.inr (Or.inr (Or.inl ⟨h62, d61, cs 2 6⟩)))))))
      · rw [if_neg d61, if_neg d61]
        exact cm 1 4 (Or.inl rfl) (Or.inr (Or.inr (Or.inr (Or.inr (Or.inr (Or.inr (Or.inr (Or.inl ⟨h62, d61, cs 1 4⟩))))))))
    · rw [if_neg h62]
      exact pl 0 (Or.inr (Or.inr (Or.inr (Or.inr (Or.inr (Or.inr (Or.inr (Or.inr ⟨h40, h41, h61, h60, h62, p0 0 _, p2 0 _⟩))))))))
