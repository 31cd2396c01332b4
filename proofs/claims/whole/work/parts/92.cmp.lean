/-! shapes, comparisons, words -/
def ChK (m : aM) (x : Int) : Prop := ChR m x ∧ ∀ j, 0 ≤ j → j < m x 1 → chOK (m (x + 1) j)
def shapeS (s : List Int) : Int := if wholeS s then (if -2147483648 ≤ valS s ∧ valS s ≤ 2147483647 then 0 else 1) else if dateS s then 2 else 3
theorem whole_val {s : List Int} (h : wholeS s = true) : -9223372036854775808 ≤ nv 0 s ∧ -9223372036854775808 ≤ valS s ∧ valS s ≤ 9223372036854775807 := by
  unfold wholeS at h
  by_cases h45 : s.head? = some 45
  · rw [if_pos h45] at h
    have hs : s = 45 :: s.tail := by
      cases s with
      | nil => cases h45
      | cons c r => cases h45; rfl
    have hd := wbody_dg h
    have hr := mg_rng hd.1
    rw [if_pos rfl] at hd
    have e : nv 0 s = -(mg 0 s.tail) := by
      rw [hs]
      exact nv_mg (a := 0) hd.1
    have ev : valS s = -(mg 0 s.tail) := by
      rw [hs]
      exact valS_neg hd.1
    omega
  · rw [if_neg h45] at h
    have hd := wbody_dg h
    have hr := mg_rng hd.1
    rw [if_neg (by decide)] at hd
    have e : nv 0 s = -(mg 0 s) := nv_mg (a := 0) hd.1
    have ev : valS s = mg 0 s := valS_dg hd.1 hd.2
    omega
theorem cmp3_eq0 {a b : Int} : cmp3 a b = 0 ↔ a = b := by
  unfold cmp3
  by_cases h1 : a < b
  · rw [if_pos h1]
    exact ⟨fun h => absurd h (by decide), fun h => by omega⟩
  · rw [if_neg h1]
    by_cases h2 : a = b
    · rw [if_pos h2]; exact ⟨fun _ => h2, fun _ => rfl⟩
    · rw [if_neg h2]; exact ⟨fun h => absurd h (by decide), fun h => absurd h h2⟩
theorem cmp3_lt0 {a b : Int} : cmp3 a b < 0 ↔ a < b := by
  unfold cmp3
  by_cases h1 : a < b
  · rw [if_pos h1]
    exact ⟨fun _ => h1, fun _ => by decide⟩
  · rw [if_neg h1]
    by_cases h2 : a = b
    · rw [if_pos h2]; exact ⟨fun h => absurd h (by decide), fun h => absurd h h1⟩
    · rw [if_neg h2]; exact ⟨fun h => absurd h (by decide), fun h => absurd h h1⟩
theorem cmp3_gt0 {a b : Int} : 0 < cmp3 a b ↔ b < a := by
  unfold cmp3
  by_cases h1 : a < b
  · rw [if_pos h1]
    exact ⟨fun h => absurd h (by decide), fun h => by omega⟩
  · rw [if_neg h1]
    by_cases h2 : a = b
    · rw [if_pos h2]; exact ⟨fun h => absurd h (by decide), fun h => by omega⟩
    · rw [if_neg h2]; exact ⟨fun _ => by omega, fun _ => by decide⟩
theorem c_shapeOf {m : aM} {x a b : Int} (hc : ChR m x) (ha : 0 ≤ a) (hab : a ≤ b) (hb : b ≤ m x 1) : fC_shapeOf m x a b = some (shapeS (sl m (x + 1) a b)) := by
  unfold fC_shapeOf shapeS
  rw [c_isWhole hc ha hab hb, c_isDate hc ha hab hb]
  simp only [Option.bind_some]
  by_cases hw : wholeS (sl m (x + 1) a b) = true
  · have hv := whole_val hw
    rw [if_pos hw, if_neg (by decide), c_digitsOf hc ha hab hb hv.1, if_pos hw]
    simp only [Option.bind_some]
    by_cases hr : -2147483648 ≤ valS (sl m (x + 1) a b) ∧ valS (sl m (x + 1) a b) ≤ 2147483647
    · rw [if_pos hr, if_pos (cmp3_eq0.mpr (w32_id (by omega) (by omega)).symm)]
    · rw [if_neg hr, if_neg]
      intro h
      have h := cmp3_eq0.mp h
      have hw32 := w32_rng (valS (sl m (x + 1) a b))
      omega
  · rw [if_neg hw, if_pos rfl, if_neg hw]
    by_cases hd : dateS (sl m (x + 1) a b) = true
    · rw [if_pos hd, if_neg (by decide), if_pos hd]
    · rw [if_neg hd, if_pos rfl, if_neg hd]
/-- the first difference of two texts, or that of their lengths -/
def tc : List Int → List Int → Int
  | a :: r, b :: t => if a - b = 0 then tc r t else a - b
  | [], t => -(t.length : Int)
  | s, [] => (s.length : Int)
def sgn (z : Int) : Int := if z < 0 then -1 else if 0 < z then 1 else 0
theorem tc_nil_l (t : List Int) : tc [] t = -(t.length : Int) := by cases t <;> rfl
theorem tc_nil_r (s : List Int) : tc s [] = (s.length : Int) := by cases s <;> rfl
theorem c_compareWith {m : aM} {x a b y c d : Int} (hx : ChK m x) (hy : ChK m y) (ha : 0 ≤ a) (hab : a ≤ b) (hb : b ≤ m x 1) (hc : 0 ≤ c) (hcd : c ≤ d) (hd : d ≤ m y 1) : fC_compareWith m x a b y c d = some (tc (sl m (x + 1) a b) (sl m (y + 1) c d)) := by
  have x7 := hx.1.2.2
  have x6 := hx.1.2.1
  have y7 := hy.1.2.2
  have y6 := hy.1.2.1
  unfold fC_compareWith fC_compareWith_16
  rw [w32_id (x := b - a) (by omega) (by omega), w32_id (x := d - c) (by omega) (by omega)]
  obtain ⟨n, hn⟩ : ∃ n, n = fJM_min (b - a) (d - c) := ⟨_, rfl⟩
  have hn' : n ≤ b - a ∧ n ≤ d - c ∧ (n = b - a ∨ n = d - c) := by
    rw [hn]; unfold fJM_min
    by_cases h : d - c < b - a
    · rw [if_pos h]; omega
    · rw [if_neg h]; omega
  rw [← hn]
  refine (aLoop_eq (Inv := fun i : Int => 0 ≤ i ∧ i ≤ n) (μ := fun i => (n - i).toNat) (F := fun i => tc (sl m (x + 1) (a + i) b) (sl m (y + 1) (c + i) d)) ?_ FU 0 ⟨by omega, by omega⟩ (by show (n - 0).toNat < 1000000; omega)).trans (by simp only [Int.add_zero])
  rintro i ⟨g1, g2⟩
  unfold fC_compareWith_16_b
  by_cases hi : i < n
  · rw [if_pos hi, w32_id (x := a + i) (by omega) (by omega), w32_id (x := c + i) (by omega) (by omega), at_eq hx.1, at_eq hy.1, ca_in (by omega) (by omega), ca_in (by omega) (by omega)]
    simp only [Option.bind_some]
    have c1 : 0 ≤ m (x + 1) (a + i) ∧ m (x + 1) (a + i) ≤ 255 := hx.2 _ (by omega) (by omega)
    have c2 : 0 ≤ m (y + 1) (c + i) ∧ m (y + 1) (c + i) ≤ 255 := hy.2 _ (by omega) (by omega)
    rw [w32_id (x := m (x + 1) (a + i) - m (y + 1) (c + i)) (by omega) (by omega), w32_id (x := i + 1) (by omega) (by omega), sl_cons (show a + i < b by omega), sl_cons (show c + i < d by omega)]
    by_cases h0 : m (x + 1) (a + i) - m (y + 1) (c + i) = 0
    · left
      rw [if_pos h0]
      refine ⟨_, rfl, ⟨by omega, by omega⟩, by omega, ?_⟩
      show _ = if _ then _ else _
      rw [if_pos h0, show a + (i + 1) = a + i + 1 by omega, show c + (i + 1) = c + i + 1 by omega]
    · right
      rw [if_neg h0]
      show _ = some (Sum.inr (if _ then _ else _))
      rw [if_neg h0]
  · right
    rw [if_neg hi, w32_id (x := b - a) (by omega) (by omega), w32_id (x := d - c) (by omega) (by omega), w32_id (x := b - a - (d - c)) (by omega) (by omega)]
    congr 2
    rcases hn'.2.2 with h | h
    · rw [sl_nil (show b ≤ a + i by omega), tc_nil_l, sl_len]
      omega
    · rw [sl_nil (show d ≤ c + i by omega), tc_nil_r, sl_len]
      omega
theorem r_compareTexts {m : aM} {a b c d : Int} (ha : 0 ≤ a) (hab : a ≤ b) (hb : b ≤ 600) (hc : 0 ≤ c) (hcd : c ≤ d) (hd : d ≤ 600) (h1 : ∀ j, a ≤ j → j < b → chOK (m 131 j)) (h2 : ∀ j, c ≤ j → j < d → chOK (m 131 j)) : fM_compareTexts m a b c d = some (sgn (tc (sl m 131 a b) (sl m 131 c d))) := by
  unfold fM_compareTexts fM_compareTexts_6
  have e82 (x y : Int) : fM_compareTexts_82 m x y = some (sgn (x - y)) := by
    unfold fM_compareTexts_82 sgn
    by_cases q1 : x < y
    · rw [if_pos q1, if_pos (by omega)]
    · rw [if_neg q1, if_neg (show ¬ x - y < 0 by omega)]
      by_cases q2 : y < x
      · rw [if_pos q2, if_pos (by omega)]
      · rw [if_neg q2, if_neg (by omega)]
  refine (aLoop_eq (Inv := fun y : Int × Int => a ≤ y.1 ∧ y.1 ≤ b ∧ c ≤ y.2 ∧ y.2 ≤ d) (μ := fun y => (b - y.1).toNat) (F := fun y => sgn (tc (sl m 131 y.1 b) (sl m 131 y.2 d))) ?_ FU (a, c) ⟨by simp only; omega, by simp only; omega, by simp only; omega, by simp only; omega⟩ (by show (b - a).toNat < 1000000; omega)).trans rfl
  rintro ⟨i, j⟩ ⟨g1, g2, g3, g4⟩
  simp only at g1 g2 g3 g4
  show (∃ z, fM_compareTexts_6_b m b d (i, j) = _ ∧ _) ∨ fM_compareTexts_6_b m b d (i, j) = _
  unfold fM_compareTexts_6_b
  simp only
  have e62 (x : Int) : fM_compareTexts_62 m d j x = some (sgn (x - (if j < d then m 131 j else -1))) := by
    unfold fM_compareTexts_62
    by_cases q : j < d
    · rw [if_pos q, if_pos q, gd_pos (by omega), e82]
    · rw [if_neg q, if_neg q, e82]
  have e45 : fM_compareTexts_45 m b d i j = some (sgn ((if i < b then m 131 i else -1) - (if j < d then m 131 j else -1))) := by
    unfold fM_compareTexts_45
    by_cases q : i < b
    · rw [if_pos q, if_pos q, gd_pos (by omega), e62]
    · rw [if_neg q, if_neg q, e62]
  by_cases hi : i < b
  · have c1 : 0 ≤ m 131 i ∧ m 131 i ≤ 255 := h1 i g1 hi
    rw [if_pos hi]
    by_cases hj : j < d
    · have c2 : 0 ≤ m 131 j ∧ m 131 j ≤ 255 := h2 j g3 hj
      rw [if_pos hj, gd_pos (by omega), gd_pos (by omega), sl_cons hi, sl_cons hj]
      by_cases he : m 131 i = m 131 j
      · left
        rw [if_pos he, w32_id (by omega) (by omega), w32_id (by omega) (by omega)]
        refine ⟨_, rfl, ⟨by simp only; omega, by simp only; omega, by simp only; omega, by simp only; omega⟩, by simp only; omega, ?_⟩
        show _ = sgn (if m 131 i - m 131 j = 0 then _ else _)
        rw [if_pos (by omega)]
      · right
        rw [if_neg he, e45, if_pos hi, if_pos hj]
        show _ = some (Sum.inr (sgn (if m 131 i - m 131 j = 0 then _ else _)))
        rw [if_neg (by omega)]
        rfl
    · right
      rw [if_neg hj, e45, if_pos hi, if_neg hj, sl_nil (show d ≤ j by omega), tc_nil_r, sl_len]
      show some (Sum.inr _) = _
      congr 2
      unfold sgn
      rw [if_neg (by omega), if_pos (by omega), if_neg (by omega), if_pos (by omega)]
  · right
    rw [if_neg hi, e45, if_neg hi, sl_nil (show b ≤ i by omega), tc_nil_l, sl_len]
    show some (Sum.inr _) = _
    congr 2
    by_cases hj : j < d
    · have c2 : 0 ≤ m 131 j ∧ m 131 j ≤ 255 := h2 j g3 hj
      rw [if_pos hj]
      unfold sgn
      rw [if_pos (by omega), if_pos (by omega)]
    · rw [if_neg hj]
      unfold sgn
      rw [if_neg (by omega), if_neg (by omega), if_neg (by omega), if_neg (by omega)]
/-- a text spells a word -/
theorem c_spells {m : aM} {x a b k : Int} (hc : ChR m x) (ha : 0 ≤ a) (hab : a ≤ b) (hb : b ≤ m x 1) (hk : 0 ≤ k ∧ k < 18) : fC_spells m x a b k = some (if sl m (x + 1) a b = kS k then 1 else 0) := by
  have h7 := hc.2.2
  have h6 := hc.2.1
  unfold fC_spells
  rw [w32_id (by omega) (by omega), jlen' hk.1 hk.2]
  have hs := kS_short' hk.1 hk.2
  by_cases hl : b - a = ((kS k).length : Nat)
  · rw [if_pos hl]
    unfold fC_spells_15
    refine (aLoop_eq (Inv := fun i : Int => 0 ≤ i ∧ i ≤ b - a ∧ (sl m (x + 1) a b = kS k ↔ sl m (x + 1) (a + i) b = (kS k).drop i.toNat)) (μ := fun i => (b - a - i).toNat) (F := fun i => if sl m (x + 1) a b = kS k then 1 else 0) ?_ FU 0 ⟨by omega, by omega, by simp⟩ (by show (b - a - 0).toNat < 1000000; omega)).trans rfl
    rintro i ⟨g1, g2, g3⟩
    unfold fC_spells_15_b
    rw [jlen' hk.1 hk.2]
    by_cases hi : i < ((kS k).length : Nat)
    · rw [if_pos hi, w32_id (x := a + i) (by omega) (by omega), at_eq hc, ca_in (by omega) (by omega), jchar' hk.1 hk.2 g1 hi, w32_id (x := i + 1) (by omega) (by omega)]
      simp only [Option.bind_some]
      rw [sl_cons (show a + i < b by omega), drop_cons (show i.toNat < (kS k).length by omega), List.cons.injEq, show a + i + 1 = a + (i + 1) by omega, show i.toNat + 1 = (i + 1).toNat by omega] at g3
      by_cases he : m (x + 1) (a + i) = (kS k).getD i.toNat 0
      · left
        rw [if_pos he]
        exact ⟨_, rfl, ⟨by omega, by omega, g3.trans ⟨fun h => h.2, fun h => ⟨he, h⟩⟩⟩, by omega, trivial⟩
      · right
        rw [if_neg he, if_neg (fun h => he (g3.mp h).1)]
    · right
      rw [if_neg hi, if_pos (g3.mpr (by rw [sl_nil (by omega), List.drop_eq_nil_of_le (by omega)]))]
  · rw [if_neg hl, if_neg]
    intro h
    have := congrArg List.length h
    rw [sl_len] at this
    omega
def wfind (s : List Int) : Int → Nat → Int
  | _, 0 => 15
  | k, n + 1 => if s = kS k then k else wfind s (k + 1) n
/-- the number of the word that a text spells (15: none) -/
def wordS (s : List Int) : Int := wfind s 1 15
theorem c_spelled {m : aM} {x a b : Int} (hc : ChR m x) (ha : 0 ≤ a) (hab : a ≤ b) (hb : b ≤ m x 1) : fW_spelled m x a b = some (wordS (sl m (x + 1) a b)) := by
  unfold fW_spelled fW_spelled_11 wordS
  refine (aLoop_eq (Inv := fun i : Int => 0 ≤ i ∧ i ≤ 15) (μ := fun i => (15 - i).toNat) (F := fun i => wfind (sl m (x + 1) a b) (i + 1) (15 - i).toNat) ?_ FU 0 ⟨by omega, by omega⟩ (by decide)).trans rfl
  rintro i ⟨g1, g2⟩
  unfold fW_spelled_11_b
  by_cases hi : i < 15
  · rw [if_pos hi, gd_pos (by omega), gd_pos (by omega), c_spells hc ha hab hb (by omega), w32_id (by omega) (by omega)]
    simp only [Option.bind_some]
    rw [show (15 - i).toNat = (15 - (i + 1)).toNat + 1 by omega]
    by_cases he : sl m (x + 1) a b = kS (i + 1)
    · right
      rw [if_pos he, if_neg (by decide)]
      show _ = some (Sum.inr (if _ then _ else _))
      rw [if_pos he]
    · left
      rw [if_neg he, if_pos rfl]
      refine ⟨_, rfl, ⟨by omega, by omega⟩, by omega, ?_⟩
      show _ = if _ then _ else _
      rw [if_neg he]
  · right
    rw [if_neg hi, show (15 - i).toNat = 0 by omega]
    rfl
