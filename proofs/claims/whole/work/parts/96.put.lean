/-! PUT AND CUT -/
/-- an added character -/
theorem c_add {m : aM} {x c : Int} (h0 : 0 ≤ m x 1) (h1 : m x 1 < LEN (x + 1)) (h2 : LEN (x + 1) ≤ 700) (hc : 0 ≤ c ∧ c ≤ 255) : fC_add m x c = some (mup (mup m (x + 1) (m x 1) c) x 1 (m x 1 + 1)) := by
  unfold fC_add
  have e : (c % 65536) % 65536 = c := by omega
  rw [if_pos h1, gd_pos ⟨h0, h1⟩, e, mup_ref (show x ≠ x + 1 by omega), w32_id (by omega) (by omega)]
/-- may a byte stand in the text (0), in the question (1) -/
def okB (q c : Int) : Prop := (32 ≤ c ∧ c ≤ 126) ∨ (q = 0 ∧ (c = 10 ∨ c = 13))
theorem c_mayStand {c q : Int} : fX_mayStand c q = 0 ↔ ¬ okB q c := by
  unfold fX_mayStand fX_mayStand_12 okB
  by_cases h1 : c < 32
  · rw [if_pos h1]
    by_cases h2 : q = 0
    · rw [if_pos h2]
      by_cases h3 : c = 10
      · rw [if_pos h3]; constructor <;> intro h <;> omega
      · rw [if_neg h3]
        by_cases h4 : c = 13
        · rw [if_pos h4]; constructor <;> intro h <;> omega
        · rw [if_neg h4]; constructor <;> intro h <;> omega
    · rw [if_neg h2]; constructor <;> intro h <;> omega
  · rw [if_neg h1]
    by_cases h5 : 126 < c
    · rw [if_pos h5]
      by_cases h2 : q = 0
      · rw [if_pos h2, if_neg (by omega), if_neg (by omega)]; constructor <;> intro h <;> omega
      · rw [if_neg h2]; constructor <;> intro h <;> omega
    · rw [if_neg h5]; constructor <;> intro h <;> omega
/-- behind the characters of row y, from place l, stand n bytes of w -/
def PutR (m m' : aM) (y l w n : Int) : Prop := (∀ j, j < l → m' y j = m y j) ∧ ∀ t, 0 ≤ t → t < n → m' y (l + t) = byt w t
theorem c_put_add {m : aM} {x w n : Int} (h0 : 0 ≤ m x 1) (h1 : m x 1 + n ≤ LEN (x + 1)) (h2 : LEN (x + 1) ≤ 700) (hn : 1 ≤ n ∧ n ≤ 8) : ∃ m', fX_put_76 m w n x 0 = some (1, m') ∧ (∀ y, y ≠ x → y ≠ x + 1 → m' y = m y) ∧ (∀ j, j ≠ 1 → m' x j = m x j) ∧ m' x 1 = m x 1 + n ∧ PutR m m' (x + 1) (m x 1) w n := by
  unfold fX_put_76
  obtain ⟨v, hv, hP⟩ := aLoop_ok (f := fX_put_76_b w n x) (Inv := fun s : aM × Int => 0 ≤ s.2 ∧ s.2 ≤ n ∧ (∀ y, y ≠ x → y ≠ x + 1 → s.1 y = m y) ∧ (∀ j, j ≠ 1 → s.1 x j = m x j) ∧ s.1 x 1 = m x 1 + s.2 ∧ PutR m s.1 (x + 1) (m x 1) w s.2) (μ := fun s => (n - s.2).toNat) (Post := fun v : Int × aM => v.1 = 1 ∧ (∀ y, y ≠ x → y ≠ x + 1 → v.2 y = m y) ∧ (∀ j, j ≠ 1 → v.2 x j = m x j) ∧ v.2 x 1 = m x 1 + n ∧ PutR m v.2 (x + 1) (m x 1) w n) (by
    rintro ⟨q, i⟩ ⟨g1, g2, g3, g4, g5, g6, g7⟩
    simp only at g1 g2 g3 g4 g5 g6 g7
    unfold fX_put_76_b
    simp only
    by_cases hi : i < n
    · left
      have hb := byt_rng (w := w) (k := i) g1 (by omega)
      rw [if_pos hi, show fX_byteOf w i = byt w i from rfl, c_add (by omega) (by omega) h2 hb, w32_id (by omega) (by omega)]
      refine ⟨_, rfl, ⟨by simp only; omega, by simp only; omega, ?_, ?_, ?_, ?_, ?_⟩, by simp only; omega⟩
      · intro y y1 y2
        funext j
        show mup (mup q (x + 1) (q x 1) (byt w i)) x 1 (q x 1 + 1) y j = m y j
        rw [mup_ref y1, mup_ref y2, g3 y y1 y2]
      · intro j hj
        show mup (mup q (x + 1) (q x 1) (byt w i)) x 1 (q x 1 + 1) x j = m x j
        rw [mup_idx hj, mup_ref (by omega), g4 j hj]
      · show mup (mup q (x + 1) (q x 1) (byt w i)) x 1 (q x 1 + 1) x 1 = m x 1 + (i + 1)
        rw [mup_same, g5]
        omega
      · intro j hj
        show mup (mup q (x + 1) (q x 1) (byt w i)) x 1 (q x 1 + 1) (x + 1) j = m (x + 1) j
        rw [mup_ref (by omega), mup_idx (by omega), g6 j hj]
      · intro t t0 t1
        simp only at t1
        show mup (mup q (x + 1) (q x 1) (byt w i)) x 1 (q x 1 + 1) (x + 1) (m x 1 + t) = byt w t
        rw [mup_ref (by omega)]
        by_cases ht : t = i
        · rw [ht, g5, mup_same]
        · rw [mup_idx (by omega), g7 t t0 (by omega)]
    · right
      have : i = n := by omega
      subst this
      rw [if_neg hi]
      exact ⟨_, rfl, rfl, g3, g4, g5, g6, g7⟩) FU (m, 0) ⟨by simp only; omega, by simp only; omega, fun _ _ _ => rfl, fun _ _ => rfl, by simp only; omega, fun _ _ => rfl, fun t t0 t1 => absurd t1 (by simp only; omega)⟩ (by show (n - 0).toNat < 1000000; omega)
  obtain ⟨v1, v2⟩ := v
  obtain ⟨p1, p2, p3, p4, p5⟩ := hP
  simp only at p1 p2 p3 p4 p5
  subst p1
  exact ⟨v2, hv, p2, p3, p4, p5⟩
theorem c_put_yes {m : aM} {x w n q : Int} {r : Int × aM} (hn : 1 ≤ n ∧ n ≤ 8) (hb : ∀ t, 0 ≤ t → t < n → okB q (byt w t)) (h : fX_put_76 m w n x 0 = some r) : fX_put_45 m q w n x 0 = some r := by
  unfold fX_put_45
  refine (aLoop_eq (Inv := fun i : Int => 0 ≤ i ∧ i ≤ n) (μ := fun i => (n - i).toNat) (F := fun _ => r) ?_ FU 0 ⟨by omega, by omega⟩ (by show (n - 0).toNat < 1000000; omega)).trans rfl
  rintro i ⟨g1, g2⟩
  unfold fX_put_45_b
  by_cases hi : i < n
  · left
    rw [if_pos hi, if_neg (fun e : fX_mayStand (fX_byteOf w i) q = 0 => (c_mayStand.mp e) (hb i g1 hi)), w32_id (by omega) (by omega)]
    exact ⟨_, rfl, ⟨by omega, by omega⟩, by omega, rfl⟩
  · right
    rw [if_neg hi, h]
    rfl
theorem c_put_no {m : aM} {x w n q t : Int} (hn : 1 ≤ n ∧ n ≤ 8) (t0 : 0 ≤ t) (t1 : t < n) (hb : ¬ okB q (byt w t)) : fX_put_45 m q w n x 0 = some (0, m) := by
  unfold fX_put_45
  refine (aLoop_eq (Inv := fun i : Int => 0 ≤ i ∧ i ≤ t) (μ := fun i => (n - i).toNat) (F := fun _ => (0, m)) ?_ FU 0 ⟨by omega, by omega⟩ (by show (n - 0).toNat < 1000000; omega)).trans rfl
  rintro i ⟨g1, g2⟩
  unfold fX_put_45_b
  rw [if_pos (show i < n by omega)]
  by_cases hm : fX_mayStand (fX_byteOf w i) q = 0
  · right
    rw [if_pos hm]
  · left
    rw [if_neg hm, w32_id (by omega) (by omega)]
    refine ⟨_, rfl, ⟨by omega, ?_⟩, by omega, rfl⟩
    by_cases e : i = t
    · subst e
      exact absurd (c_mayStand.mpr hb) hm
    · omega
/-- the reference's side -/
theorem r_put_no {m : aM} {q w n x6 : Int} : fM_put_133 m q w n 0 x6 = some (0, m) := by
  unfold fM_put_133
  refine aL_end (n := 999999) ?_
  unfold fM_put_133_b
  by_cases h : x6 < n
  · simp only [if_pos h]; rfl
  · simp only [if_neg h]; rfl
theorem r_put_99 {m : aM} {q w n i c : Int} (hi : 0 ≤ i ∧ i < 8) (hc : ¬ (32 ≤ c ∧ c ≤ 126)) : ∃ f : Int, fM_put_99 m q w n i c = some (Sum.inl (f, i + 1)) ∧ (f = 0 ∨ f = 1) ∧ (f = 1 ↔ okB q c) := by
  unfold fM_put_99
  rw [w32_id (by omega) (by omega)]
  unfold okB
  by_cases h2 : q = 0
  · rw [if_pos h2]
    by_cases h3 : c = 10
    · rw [if_pos h3]; exact ⟨1, rfl, Or.inr rfl, by omega⟩
    · rw [if_neg h3]
      by_cases h4 : c = 13
      · rw [if_pos h4]; exact ⟨1, rfl, Or.inr rfl, by omega⟩
      · rw [if_neg h4]; exact ⟨0, rfl, Or.inl rfl, by omega⟩
  · rw [if_neg h2]; exact ⟨0, rfl, Or.inl rfl, by omega⟩
theorem r_put_step {m : aM} {q w n i : Int} (hw : i64 w) (hi : 0 ≤ i ∧ i < n) (hn : n ≤ 8) : ∃ f : Int, fM_put_59_b m q w n (1, i) = some (Sum.inl (f, i + 1)) ∧ (f = 0 ∨ f = 1) ∧ (f = 1 ↔ okB q (byt w i)) := by
  unfold fM_put_59_b
  simp only
  have hb := byt_rng (w := w) (k := i) hi.1 (by omega)
  rw [if_pos hi.2, if_neg (by decide), r_byte hw hi.1 (by omega)]
  by_cases h1 : 31 < byt w i
  · rw [if_pos h1]
    by_cases h2 : byt w i < 127
    · rw [if_pos h2, w32_id (by omega) (by omega)]
      exact ⟨1, rfl, Or.inr rfl, ⟨fun _ => Or.inl (by omega), fun _ => rfl⟩⟩
    · rw [if_neg h2]
      exact r_put_99 (by omega) (by omega)
  · rw [if_neg h1]
    exact r_put_99 (by omega) (by omega)
theorem r_put_bad {m : aM} {q w n x6 : Int} : fM_put_59 m q w n 0 x6 = some (0, m) := by
  unfold fM_put_59
  refine aL_end (n := 999999) ?_
  unfold fM_put_59_b
  by_cases h : x6 < n
  · simp only [if_pos h, r_put_no]; rfl
  · simp only [if_neg h, r_put_no]; rfl
theorem r_put_yes {m : aM} {q w n : Int} {r : Int × aM} (hw : i64 w) (hn : 1 ≤ n ∧ n ≤ 8) (hb : ∀ t, 0 ≤ t → t < n → okB q (byt w t)) (h : fM_put_133 m q w n 1 0 = some r) : fM_put_59 m q w n 1 0 = some r := by
  unfold fM_put_59
  refine (aLoop_eq (Inv := fun s : Int × Int => s.1 = 1 ∧ 0 ≤ s.2 ∧ s.2 ≤ n) (μ := fun s => (n - s.2).toNat) (F := fun _ => r) ?_ FU (1, 0) ⟨rfl, by simp only; omega, by simp only; omega⟩ (by show (n - 0).toNat < 1000000; omega)).trans rfl
  rintro ⟨f, i⟩ ⟨g0, g1, g2⟩
  simp only at g0 g1 g2
  subst g0
  by_cases hi : i < n
  · left
    obtain ⟨f, e1, e2, e3⟩ := r_put_step (m := m) (q := q) (n := n) hw ⟨g1, hi⟩ hn.2
    have : f = 1 := e3.mpr (hb i g1 hi)
    subst this
    exact ⟨_, e1, ⟨rfl, by simp only; omega, by simp only; omega⟩, by simp only; omega, rfl⟩
  · right
    unfold fM_put_59_b
    simp only
    rw [if_neg hi, h]
    rfl
theorem r_put_not {m : aM} {q w n t : Int} (hw : i64 w) (hn : 1 ≤ n ∧ n ≤ 8) (t0 : 0 ≤ t) (t1 : t < n) (hb : ¬ okB q (byt w t)) : fM_put_59 m q w n 1 0 = some (0, m) := by
  unfold fM_put_59
  refine (aLoop_eq (Inv := fun s : Int × Int => (s.1 = 0 ∨ s.1 = 1 ∧ s.2 ≤ t) ∧ 0 ≤ s.2 ∧ s.2 ≤ n) (μ := fun s => (n - s.2).toNat) (F := fun _ => (0, m)) ?_ FU (1, 0) ⟨Or.inr ⟨rfl, by simp only; omega⟩, by simp only; omega, by simp only; omega⟩ (by show (n - 0).toNat < 1000000; omega)).trans rfl
  rintro ⟨f, i⟩ ⟨g0, g1, g2⟩
  simp only at g0 g1 g2
  rcases g0 with g0 | ⟨g0, g3⟩
  · subst g0
    right
    unfold fM_put_59_b
    by_cases h : i < n
    · simp only [if_pos h, r_put_no]; rfl
    · simp only [if_neg h, r_put_no]; rfl
  · subst g0
    left
    obtain ⟨f, e1, e2, e3⟩ := r_put_step (m := m) (q := q) (n := n) hw ⟨g1, by omega⟩ hn.2
    refine ⟨_, e1, ⟨?_, by simp only; omega, by simp only; omega⟩, by simp only; omega, rfl⟩
    simp only
    rcases e2 with e2 | e2
    · exact Or.inl e2
    · right
      refine ⟨e2, ?_⟩
      by_cases e : i = t
      · subst e
        exact absurd (e3.mp e2) hb
      · omega
/-- text -/
theorem r_put_text {m : aM} {w n : Int} (hw : i64 w) (h0 : 0 ≤ m 130 2) (h1 : m 130 2 + n ≤ 240) (hn : 1 ≤ n ∧ n ≤ 8) : ∃ m', fM_put_133 m 0 w n 1 0 = some (1, m') ∧ (∀ y, y ≠ 130 → y ≠ 131 → m' y = m y) ∧ (∀ j, j ≠ 2 → m' 130 j = m 130 j) ∧ m' 130 2 = m 130 2 + n ∧ PutR m m' 131 (m 130 2) w n ∧ (∀ j, m 130 2 + n ≤ j → m' 131 j = m 131 j) := by
  unfold fM_put_133
  obtain ⟨v, hv, hP⟩ := aLoop_ok (f := fM_put_133_b 0 w n 1) (Inv := fun s : aM × Int => 0 ≤ s.2 ∧ s.2 ≤ n ∧ (∀ y, y ≠ 130 → y ≠ 131 → s.1 y = m y) ∧ (∀ j, j ≠ 2 → s.1 130 j = m 130 j) ∧ s.1 130 2 = m 130 2 + s.2 ∧ PutR m s.1 131 (m 130 2) w s.2 ∧ (∀ j, m 130 2 + n ≤ j → s.1 131 j = m 131 j)) (μ := fun s => (n - s.2).toNat) (Post := fun v : Int × aM => v.1 = 1 ∧ (∀ y, y ≠ 130 → y ≠ 131 → v.2 y = m y) ∧ (∀ j, j ≠ 2 → v.2 130 j = m 130 j) ∧ v.2 130 2 = m 130 2 + n ∧ PutR m v.2 131 (m 130 2) w n ∧ (∀ j, m 130 2 + n ≤ j → v.2 131 j = m 131 j)) (by
    rintro ⟨q, i⟩ ⟨g1, g2, g3, g4, g5, ⟨g6, g7⟩, g8⟩
    simp only at g1 g2 g3 g4 g5 g6 g7 g8
    unfold fM_put_133_b
    simp only
    by_cases hi : i < n
    · left
      have hl : LEN 131 = 600 := rfl
      have hb := byt_rng (w := w) (k := i) g1 (by omega)
      unfold fM_put_168 fM_put_199
      rw [if_pos hi, if_neg (by decide), if_pos (show True from trivial), gd_pos (by rw [hl]; omega), if_pos rfl, if_pos rfl, r_byte hw g1 (by omega), w32_id (x := i + 1) (by omega) (by omega)]
      have e3 : mup (mup q 131 (q 130 2) (byt w i)) 130 3 (mup q 131 (q 130 2) (byt w i) 130 3) = mup q 131 (q 130 2) (byt w i) := by
        funext y j
        by_cases h : y = 130 ∧ j = 3
        · rw [h.1, h.2, mup_same]
        · exact if_neg h
      rw [e3, mup_ref (show (130 : Int) ≠ 131 by decide), w32_id (by omega) (by omega)]
      refine ⟨_, rfl, ⟨by simp only; omega, by simp only; omega, ?_, ?_, ?_, ⟨?_, ?_⟩, ?_⟩, by simp only; omega⟩
      · intro y y1 y2
        funext j
        show mup (mup q 131 (q 130 2) (byt w i)) 130 2 (q 130 2 + 1) y j = m y j
        rw [mup_ref y1, mup_ref y2, g3 y y1 y2]
      · intro j hj
        show mup (mup q 131 (q 130 2) (byt w i)) 130 2 (q 130 2 + 1) 130 j = m 130 j
        rw [mup_idx hj, mup_ref (by decide), g4 j hj]
      · show mup (mup q 131 (q 130 2) (byt w i)) 130 2 (q 130 2 + 1) 130 2 = m 130 2 + (i + 1)
        rw [mup_same, g5]
        omega
      · intro j hj
        show mup (mup q 131 (q 130 2) (byt w i)) 130 2 (q 130 2 + 1) 131 j = m 131 j
        rw [mup_ref (by decide), mup_idx (by omega), g6 j hj]
      · intro t t0 t1
        simp only at t1
        show mup (mup q 131 (q 130 2) (byt w i)) 130 2 (q 130 2 + 1) 131 (m 130 2 + t) = byt w t
        rw [mup_ref (by decide)]
        by_cases ht : t = i
        · rw [ht, g5, mup_same]
        · rw [mup_idx (by omega), g7 t t0 (by omega)]
      · intro j hj
        show mup (mup q 131 (q 130 2) (byt w i)) 130 2 (q 130 2 + 1) 131 j = m 131 j
        rw [mup_ref (by decide), mup_idx (by omega), g8 j hj]
    · right
      have : i = n := by omega
      subst this
      rw [if_neg hi, gd_pos (Or.inr trivial)]
      exact ⟨_, rfl, rfl, g3, g4, g5, ⟨g6, g7⟩, g8⟩) FU (m, 0) ⟨by simp only; omega, by simp only; omega, fun _ _ _ => rfl, fun _ _ => rfl, by simp only; omega, ⟨fun _ _ => rfl, fun t t0 t1 => absurd t1 (by simp only; omega)⟩, fun _ _ => rfl⟩ (by show (n - 0).toNat < 1000000; omega)
  obtain ⟨v1, v2⟩ := v
  obtain ⟨p1, p2, p3, p4, p5, p6⟩ := hP
  simp only at p1 p2 p3 p4 p5 p6
  subst p1
  exact ⟨v2, hv, p2, p3, p4, p5, p6⟩
/-- question -/
theorem r_put_q {m : aM} {w n : Int} (hw : i64 w) (h0 : 0 ≤ m 130 3) (h1 : m 130 3 + n ≤ 96) (hn : 1 ≤ n ∧ n ≤ 8) : ∃ m', fM_put_133 m 1 w n 1 0 = some (1, m') ∧ (∀ y, y ≠ 130 → y ≠ 131 → m' y = m y) ∧ (∀ j, j ≠ 3 → m' 130 j = m 130 j) ∧ m' 130 3 = m 130 3 + n ∧ PutR m m' 131 (240 + m 130 3) w n ∧ (∀ j, 240 + m 130 3 + n ≤ j → m' 131 j = m 131 j) := by
  unfold fM_put_133
  obtain ⟨v, hv, hP⟩ := aLoop_ok (f := fM_put_133_b 1 w n 1) (Inv := fun s : aM × Int => 0 ≤ s.2 ∧ s.2 ≤ n ∧ (∀ y, y ≠ 130 → y ≠ 131 → s.1 y = m y) ∧ (∀ j, j ≠ 3 → s.1 130 j = m 130 j) ∧ s.1 130 3 = m 130 3 + s.2 ∧ PutR m s.1 131 (240 + m 130 3) w s.2 ∧ (∀ j, 240 + m 130 3 + n ≤ j → s.1 131 j = m 131 j)) (μ := fun s => (n - s.2).toNat) (Post := fun v : Int × aM => v.1 = 1 ∧ (∀ y, y ≠ 130 → y ≠ 131 → v.2 y = m y) ∧ (∀ j, j ≠ 3 → v.2 130 j = m 130 j) ∧ v.2 130 3 = m 130 3 + n ∧ PutR m v.2 131 (240 + m 130 3) w n ∧ (∀ j, 240 + m 130 3 + n ≤ j → v.2 131 j = m 131 j)) (by
    rintro ⟨q, i⟩ ⟨g1, g2, g3, g4, g5, ⟨g6, g7⟩, g8⟩
    simp only at g1 g2 g3 g4 g5 g6 g7 g8
    unfold fM_put_133_b
    simp only
    by_cases hi : i < n
    · left
      have hl : LEN 131 = 600 := rfl
      have hb := byt_rng (w := w) (k := i) g1 (by omega)
      unfold fM_put_168 fM_put_199
      rw [if_pos hi, if_neg (by decide), if_neg (by decide), w32_id (x := 240 + q 130 3) (by omega) (by omega), gd_pos (by rw [hl]; omega), if_neg (by decide), if_neg (by decide), r_byte hw g1 (by omega), w32_id (x := i + 1) (by omega) (by omega), mup_ref (show (130 : Int) ≠ 131 by decide), w32_id (x := q 130 3 + 1) (by omega) (by omega)]
      have e3 : mup (mup (mup q 131 (240 + q 130 3) (byt w i)) 130 3 (q 130 3 + 1)) 130 2 (mup q 131 (240 + q 130 3) (byt w i) 130 2) = mup (mup q 131 (240 + q 130 3) (byt w i)) 130 3 (q 130 3 + 1) := by
        funext y j
        by_cases h : y = 130 ∧ j = 2
        · rw [h.1, h.2, mup_same]
          exact (mup_idx (show (2 : Int) ≠ 3 by decide)).symm
        · exact if_neg h
      rw [e3]
      refine ⟨_, rfl, ⟨by simp only; omega, by simp only; omega, ?_, ?_, ?_, ⟨?_, ?_⟩, ?_⟩, by simp only; omega⟩
      · intro y y1 y2
        funext j
        show mup (mup q 131 (240 + q 130 3) (byt w i)) 130 3 (q 130 3 + 1) y j = m y j
        rw [mup_ref y1, mup_ref y2, g3 y y1 y2]
      · intro j hj
        show mup (mup q 131 (240 + q 130 3) (byt w i)) 130 3 (q 130 3 + 1) 130 j = m 130 j
        rw [mup_idx hj, mup_ref (by decide), g4 j hj]
      · show mup (mup q 131 (240 + q 130 3) (byt w i)) 130 3 (q 130 3 + 1) 130 3 = m 130 3 + (i + 1)
        rw [mup_same, g5]
        omega
      · intro j hj
        show mup (mup q 131 (240 + q 130 3) (byt w i)) 130 3 (q 130 3 + 1) 131 j = m 131 j
        rw [mup_ref (by decide), mup_idx (by omega), g6 j hj]
      · intro t t0 t1
        simp only at t1
        show mup (mup q 131 (240 + q 130 3) (byt w i)) 130 3 (q 130 3 + 1) 131 (240 + m 130 3 + t) = byt w t
        rw [mup_ref (by decide)]
        by_cases ht : t = i
        · rw [ht, g5, show 240 + m 130 3 + i = 240 + (m 130 3 + i) by omega, mup_same]
        · rw [mup_idx (by omega), g7 t t0 (by omega)]
      · intro j hj
        show mup (mup q 131 (240 + q 130 3) (byt w i)) 130 3 (q 130 3 + 1) 131 j = m 131 j
        rw [mup_ref (by decide), mup_idx (by omega), g8 j hj]
    · right
      have : i = n := by omega
      subst this
      rw [if_neg hi, gd_pos (Or.inr trivial)]
      exact ⟨_, rfl, rfl, g3, g4, g5, ⟨g6, g7⟩, g8⟩) FU (m, 0) ⟨by simp only; omega, by simp only; omega, fun _ _ _ => rfl, fun _ _ => rfl, by simp only; omega, ⟨fun _ _ => rfl, fun t t0 t1 => absurd t1 (by simp only; omega)⟩, fun _ _ => rfl⟩ (by show (n - 0).toNat < 1000000; omega)
  obtain ⟨v1, v2⟩ := v
  obtain ⟨p1, p2, p3, p4, p5, p6⟩ := hP
  simp only at p1 p2 p3 p4 p5 p6
  subst p1
  exact ⟨v2, hv, p2, p3, p4, p5, p6⟩
section PutCut
variable {S : Int → Int}
theorem bytes_dec {q w n : Int} (hn : 1 ≤ n ∧ n ≤ 8) : (∀ t, 0 ≤ t → t < n → okB q (byt w t)) ∨ ∃ t, 0 ≤ t ∧ t < n ∧ ¬ okB q (byt w t) := by
  by_cases h : ∀ t, 0 ≤ t → t < n → okB q (byt w t)
  · exact Or.inl h
  · right
    apply Classical.byContradiction
    intro hc
    apply h
    intro t t0 t1
    apply Classical.byContradiction
    intro hb
    exact hc ⟨t, t0, t1, hb⟩
theorem ok_put {c w n : Int} (hc : c = 0 ∨ c = 1) (hw : i64 w) (hn : i32 n) : OkV (RI S) (fun m => fX_put m c w n) (fun m => fM_put m c w n) := by
  intro m hm
  simp only
  have no (h1 : fX_put m c w n = some (0, m)) (h2 : fM_put m c w n = some (0, mup m 130 0 0)) : ∃ v v2, fX_put m c w n = some v ∧ v.2 (-1) = m (-1) ∧ fM_put v.2 c w n = some v2 ∧ v.1 = v2.1 ∧ RI S v2.2 := ⟨_, _, h1, rfl, h2, rfl, hm.thr Thr.mk1⟩
  obtain ⟨T, wt, tx, qx, fx, ox, ct, mt, ax, sx⟩ := id hm
  obtain ⟨⟨t0, t240⟩, t1, t2⟩ := id tx
  obtain ⟨⟨q0, q96⟩, q1, q2⟩ := id qx
  by_cases hr : 1 ≤ n ∧ n ≤ 8
  case neg =>
    refine no ?_ ?_
    · have h15 (x : Int) : fX_put_15 m c w n x = some (0, m) := by
        unfold fX_put_15
        by_cases h1 : n < 1
        · rw [if_pos h1]
        · rw [if_neg h1, if_pos (by omega)]
      unfold fX_put
      rw [h15, h15]
      split <;> rfl
    · unfold fM_put
      by_cases h1 : 0 < n
      · rw [if_pos h1, if_neg (by omega), r_put_bad]
      · rw [if_neg h1, r_put_bad]
  case pos =>
    rcases hc with hc | hc
    · subst hc
      have hL : LEN ((2 : Int) + 1) = 240 := rfl
      have eM : fM_put m 0 w n = fM_put_59 (mup m 130 0 0) 0 w n (if 240 < m 2 1 + n then 0 else 1) 0 := by
        unfold fM_put
        rw [if_pos (by omega), if_pos (by omega), if_pos rfl, t1, w32_id (by omega) (by omega)]
        by_cases h : 240 < m 2 1 + n
        · rw [if_pos h, if_pos h]
        · rw [if_neg h, if_neg h]
      have eX : fX_put m 0 w n = if 240 < m 2 1 + n then some (0, m) else fX_put_45 m 0 w n 2 0 := by
        unfold fX_put fX_put_15 fC_free
        rw [if_pos rfl, if_neg (by omega), if_neg (by omega), hL, w32_id (by omega) (by omega)]
        by_cases h : 240 < m 2 1 + n
        · rw [if_pos (by omega), if_pos h]
        · rw [if_neg (by omega), if_neg h]
      by_cases hf : 240 < m 2 1 + n
      · exact no (by rw [eX, if_pos hf]) (by rw [eM, if_pos hf, r_put_bad])
      · rcases bytes_dec (q := 0) (w := w) hr with hb | ⟨t, b0, b1, hb⟩
        · obtain ⟨m1, c1, c2, c3, c4, c5, c6⟩ := c_put_add (m := m) (x := 2) (w := w) (n := n) t0 (by rw [hL]; omega) (by rw [hL]; decide) hr
          rw [show (2 : Int) + 1 = 3 from rfl] at c2 c5 c6
          have e1 := c_put_yes (m := m) (x := 2) (w := w) (q := 0) hr hb c1
          have z2 : m1 130 2 = m 2 1 := by rw [c2 130 (by decide) (by decide)]; exact t1
          have y2 : mup m1 130 0 0 130 2 = m1 130 2 := mup_idx (by decide)
          obtain ⟨m2, d1, d2, d3, d4, ⟨d5, d6⟩, d7⟩ := r_put_text (m := mup m1 130 0 0) (w := w) (n := n) hw (by rw [y2, z2]; exact t0) (by rw [y2, z2]; omega) hr
          rw [y2, z2] at d4 d5 d6 d7
          refine ⟨(1, m1), (1, m2), by rw [eX, if_neg hf]; exact e1, (by show m1 (-1) = m (-1); rw [c2 (-1) (by decide) (by decide)]), ?_, rfl, (?_ : RI S m2)⟩
          · show fM_put m1 0 w n = _
            have eM' : fM_put m1 0 w n = fM_put_59 (mup m1 130 0 0) 0 w n 1 0 := by
              unfold fM_put
              rw [if_pos (by omega), if_pos (by omega), if_pos rfl, z2, w32_id (by omega) (by omega), if_neg hf]
            rw [eM']
            exact r_put_yes hw hr hb d1
          · have rw1 (y : Int) (y1 : y ≠ 130) (y2 : y ≠ 131) : m2 y = m1 y := by
              rw [d2 y y1 y2]
              funext j
              exact mup_ref y1
            have rw2 (y : Int) (y1 : y ≠ 130) (y2 : y ≠ 131) (y3 : y ≠ 2) (y4 : y ≠ 3) : m2 y = m y := by rw [rw1 y y1 y2, c2 y y3 y4]
            have cl (j : Int) (j1 : j ≠ 2) (j2 : j ≠ 0) : m2 130 j = m 130 j := by
              rw [d3 j j1, mup_idx j2, c2 130 (by decide) (by decide)]
            have r131 (j : Int) (hj : j < m 2 1 ∨ m 2 1 + n ≤ j) : m2 131 j = m 131 j := by
              rcases hj with hj | hj
              · rw [d5 j hj, mup_ref (by decide), c2 131 (by decide) (by decide)]
              · rw [d7 j hj, mup_ref (by decide), c2 131 (by decide) (by decide)]
            have n21 : m2 2 1 = m 2 1 + n := by rw [rw1 2 (by decide) (by decide), c4]
            refine ⟨T, wt, ⟨⟨by rw [n21]; omega, by rw [n21]; omega⟩, by rw [n21, d4], fun i i0 i1 => ?_⟩, ?_, ?_, ?_, ?_, ?_, ?_, ?_⟩
            · rw [n21] at i1
              rw [rw1 3 (by decide) (by decide)]
              by_cases hi : i < m 2 1
              · rw [r131 i (Or.inl hi), c5 i hi]
                exact t2 i i0 hi
              · have e : i = m 2 1 + (i - m 2 1) := by omega
                rw [e, d6 _ (by omega) (by omega), c6 _ (by omega) (by omega)]
                refine ⟨rfl, ?_⟩
                rcases hb (i - m 2 1) (by omega) (by omega) with h | ⟨-, h | h⟩
                · exact Or.inr (Or.inr h)
                · exact Or.inl h
                · exact Or.inr (Or.inl h)
            · exact qx.of (by rw [rw2 4 (by decide) (by decide) (by decide) (by decide)]) (rw2 5 (by decide) (by decide) (by decide) (by decide)) (cl 3 (by decide) (by decide)) (fun i i0 i1 => r131 i (by omega))
            · rw [rw2 1 (by decide) (by decide) (by decide) (by decide), cl 25 (by decide) (by decide)]; exact fx
            · exact ox.of (by rw [rw2 6 (by decide) (by decide) (by decide) (by decide)]) (rw2 7 (by decide) (by decide) (by decide) (by decide)) (cl 45 (by decide) (by decide)) (rw2 155 (by decide) (by decide) (by decide) (by decide))
            · exact ct.of (by rw [rw2 12 (by decide) (by decide) (by decide) (by decide)]) (by rw [rw2 12 (by decide) (by decide) (by decide) (by decide)]) (by rw [rw2 13 (by decide) (by decide) (by decide) (by decide)]) (rw2 14 (by decide) (by decide) (by decide) (by decide)) (rw2 15 (by decide) (by decide) (by decide) (by decide)) (rw2 16 (by decide) (by decide) (by decide) (by decide)) (rw2 17 (by decide) (by decide) (by decide) (by decide)) (rw2 18 (by decide) (by decide) (by decide) (by decide)) (rw2 19 (by decide) (by decide) (by decide) (by decide)) (rw2 20 (by decide) (by decide) (by decide) (by decide))
            · exact mt.of (cl 4 (by decide) (by decide)) (cl 5 (by decide) (by decide)) (rw2 132 (by decide) (by decide) (by decide) (by decide)) (rw2 133 (by decide) (by decide) (by decide) (by decide)) (rw2 134 (by decide) (by decide) (by decide) (by decide)) (rw2 135 (by decide) (by decide) (by decide) (by decide)) (rw2 136 (by decide) (by decide) (by decide) (by decide)) (rw2 137 (by decide) (by decide) (by decide) (by decide)) (fun i i0 i1 => r131 i (by omega))
            · exact ax.of (rw2 123 (by decide) (by decide) (by decide) (by decide)) (rw2 124 (by decide) (by decide) (by decide) (by decide)) (rw2 125 (by decide) (by decide) (by decide) (by decide)) (rw2 126 (by decide) (by decide) (by decide) (by decide)) (rw2 127 (by decide) (by decide) (by decide) (by decide)) (rw2 128 (by decide) (by decide) (by decide) (by decide)) (rw2 129 (by decide) (by decide) (by decide) (by decide)) (cl 37 (by decide) (by decide)) (cl 38 (by decide) (by decide)) (cl 39 (by decide) (by decide)) (cl 40 (by decide) (by decide)) (rw2 151 (by decide) (by decide) (by decide) (by decide)) (rw2 152 (by decide) (by decide) (by decide) (by decide)) (rw2 153 (by decide) (by decide) (by decide) (by decide)) (rw2 154 (by decide) (by decide) (by decide) (by decide))
            · rw [rw2 (-1) (by decide) (by decide) (by decide) (by decide)]; exact sx
        · exact no (by rw [eX, if_neg hf]; exact c_put_no hr b0 b1 hb) (by rw [eM, if_neg hf]; exact r_put_not hw hr b0 b1 hb)
    · subst hc
      have hL : LEN ((4 : Int) + 1) = 96 := rfl
      have eM : fM_put m 1 w n = fM_put_59 (mup m 130 0 0) 1 w n (if 96 < m 4 1 + n then 0 else 1) 0 := by
        unfold fM_put
        rw [if_pos (by omega), if_pos (by omega), if_neg (by decide), q1, w32_id (by omega) (by omega)]
        by_cases h : 96 < m 4 1 + n
        · rw [if_pos h, if_pos h]
        · rw [if_neg h, if_neg h]
      have eX : fX_put m 1 w n = if 96 < m 4 1 + n then some (0, m) else fX_put_45 m 1 w n 4 0 := by
        unfold fX_put fX_put_15 fC_free
        rw [if_neg (by decide), if_neg (by omega), if_neg (by omega), hL, w32_id (by omega) (by omega)]
        by_cases h : 96 < m 4 1 + n
        · rw [if_pos (by omega), if_pos h]
        · rw [if_neg (by omega), if_neg h]
      by_cases hf : 96 < m 4 1 + n
      · exact no (by rw [eX, if_pos hf]) (by rw [eM, if_pos hf, r_put_bad])
      · rcases bytes_dec (q := 1) (w := w) hr with hb | ⟨t, b0, b1, hb⟩
        · obtain ⟨m1, c1, c2, c3, c4, c5, c6⟩ := c_put_add (m := m) (x := 4) (w := w) (n := n) q0 (by rw [hL]; omega) (by rw [hL]; decide) hr
          rw [show (4 : Int) + 1 = 5 from rfl] at c2 c5 c6
          have e1 := c_put_yes (m := m) (x := 4) (w := w) (q := 1) hr hb c1
          have z2 : m1 130 3 = m 4 1 := by rw [c2 130 (by decide) (by decide)]; exact q1
          have y2 : mup m1 130 0 0 130 3 = m1 130 3 := mup_idx (by decide)
          obtain ⟨m2, d1, d2, d3, d4, ⟨d5, d6⟩, d7⟩ := r_put_q (m := mup m1 130 0 0) (w := w) (n := n) hw (by rw [y2, z2]; exact q0) (by rw [y2, z2]; omega) hr
          rw [y2, z2] at d4 d5 d6 d7
          refine ⟨(1, m1), (1, m2), by rw [eX, if_neg hf]; exact e1, (by show m1 (-1) = m (-1); rw [c2 (-1) (by decide) (by decide)]), ?_, rfl, (?_ : RI S m2)⟩
          · show fM_put m1 1 w n = _
            have eM' : fM_put m1 1 w n = fM_put_59 (mup m1 130 0 0) 1 w n 1 0 := by
              unfold fM_put
              rw [if_pos (by omega), if_pos (by omega), if_neg (by decide), z2, w32_id (by omega) (by omega), if_neg hf]
            rw [eM']
            exact r_put_yes hw hr hb d1
          · have rw1 (y : Int) (y1 : y ≠ 130) (y2 : y ≠ 131) : m2 y = m1 y := by
              rw [d2 y y1 y2]
              funext j
              exact mup_ref y1
            have rw2 (y : Int) (y1 : y ≠ 130) (y2 : y ≠ 131) (y3 : y ≠ 4) (y4 : y ≠ 5) : m2 y = m y := by rw [rw1 y y1 y2, c2 y y3 y4]
            have cl (j : Int) (j1 : j ≠ 3) (j2 : j ≠ 0) : m2 130 j = m 130 j := by
              rw [d3 j j1, mup_idx j2, c2 130 (by decide) (by decide)]
            have r131 (j : Int) (hj : j < 240 + m 4 1 ∨ 240 + m 4 1 + n ≤ j) : m2 131 j = m 131 j := by
              rcases hj with hj | hj
              · rw [d5 j hj, mup_ref (by decide), c2 131 (by decide) (by decide)]
              · rw [d7 j hj, mup_ref (by decide), c2 131 (by decide) (by decide)]
            have n21 : m2 4 1 = m 4 1 + n := by rw [rw1 4 (by decide) (by decide), c4]
            refine ⟨T, wt, ?_, ⟨⟨by rw [n21]; omega, by rw [n21]; omega⟩, by rw [n21, d4], fun i i0 i1 => ?_⟩, ?_, ?_, ?_, ?_, ?_, ?_⟩
            · exact tx.of (by rw [rw2 2 (by decide) (by decide) (by decide) (by decide)]) (rw2 3 (by decide) (by decide) (by decide) (by decide)) (cl 2 (by decide) (by decide)) (fun i i0 i1 => r131 i (by omega))
            · rw [n21] at i1
              rw [rw1 5 (by decide) (by decide)]
              by_cases hi : i < m 4 1
              · rw [r131 (240 + i) (Or.inl (by omega)), c5 i hi]
                exact q2 i i0 hi
              · have e : 240 + i = 240 + m 4 1 + (i - m 4 1) := by omega
                rw [e, d6 _ (by omega) (by omega)]
                have e' : i = m 4 1 + (i - m 4 1) := by omega
                have e5 : m1 5 i = byt w (i - m 4 1) := by
                  have := c6 (i - m 4 1) (by omega) (by omega)
                  rw [← e'] at this
                  exact this
                rw [e5]
                refine ⟨rfl, ?_⟩
                rcases hb (i - m 4 1) (by omega) (by omega) with h | ⟨h, -⟩
                · exact h
                · exact absurd h (by decide)
            · rw [rw2 1 (by decide) (by decide) (by decide) (by decide), cl 25 (by decide) (by decide)]; exact fx
            · exact ox.of (by rw [rw2 6 (by decide) (by decide) (by decide) (by decide)]) (rw2 7 (by decide) (by decide) (by decide) (by decide)) (cl 45 (by decide) (by decide)) (rw2 155 (by decide) (by decide) (by decide) (by decide))
            · exact ct.of (by rw [rw2 12 (by decide) (by decide) (by decide) (by decide)]) (by rw [rw2 12 (by decide) (by decide) (by decide) (by decide)]) (by rw [rw2 13 (by decide) (by decide) (by decide) (by decide)]) (rw2 14 (by decide) (by decide) (by decide) (by decide)) (rw2 15 (by decide) (by decide) (by decide) (by decide)) (rw2 16 (by decide) (by decide) (by decide) (by decide)) (rw2 17 (by decide) (by decide) (by decide) (by decide)) (rw2 18 (by decide) (by decide) (by decide) (by decide)) (rw2 19 (by decide) (by decide) (by decide) (by decide)) (rw2 20 (by decide) (by decide) (by decide) (by decide))
            · exact mt.of (cl 4 (by decide) (by decide)) (cl 5 (by decide) (by decide)) (rw2 132 (by decide) (by decide) (by decide) (by decide)) (rw2 133 (by decide) (by decide) (by decide) (by decide)) (rw2 134 (by decide) (by decide) (by decide) (by decide)) (rw2 135 (by decide) (by decide) (by decide) (by decide)) (rw2 136 (by decide) (by decide) (by decide) (by decide)) (rw2 137 (by decide) (by decide) (by decide) (by decide)) (fun i i0 i1 => r131 i (by omega))
            · exact ax.of (rw2 123 (by decide) (by decide) (by decide) (by decide)) (rw2 124 (by decide) (by decide) (by decide) (by decide)) (rw2 125 (by decide) (by decide) (by decide) (by decide)) (rw2 126 (by decide) (by decide) (by decide) (by decide)) (rw2 127 (by decide) (by decide) (by decide) (by decide)) (rw2 128 (by decide) (by decide) (by decide) (by decide)) (rw2 129 (by decide) (by decide) (by decide) (by decide)) (cl 37 (by decide) (by decide)) (cl 38 (by decide) (by decide)) (cl 39 (by decide) (by decide)) (cl 40 (by decide) (by decide)) (rw2 151 (by decide) (by decide) (by decide) (by decide)) (rw2 152 (by decide) (by decide) (by decide) (by decide)) (rw2 153 (by decide) (by decide) (by decide) (by decide)) (rw2 154 (by decide) (by decide) (by decide) (by decide))
            · rw [rw2 (-1) (by decide) (by decide) (by decide) (by decide)]; exact sx
        · exact no (by rw [eX, if_neg hf]; exact c_put_no hr b0 b1 hb) (by rw [eM, if_neg hf]; exact r_put_not hw hr b0 b1 hb)
theorem ok_cut {c n : Int} (hc : c = 0 ∨ c = 1) (hn : i32 n) : OkV (RI S) (fun m => some (fX_cut m c n)) (fun m => some (fM_cut m c n)) := by
  intro m hm
  simp only
  have no (h1 : fX_cut m c n = (0, m)) (h2 : fM_cut m c n = (0, mup m 130 0 0)) : ∃ v v2, some (fX_cut m c n) = some v ∧ v.2 (-1) = m (-1) ∧ some (fM_cut v.2 c n) = some v2 ∧ v.1 = v2.1 ∧ RI S v2.2 := ⟨(0, m), (0, mup m 130 0 0), by rw [h1], rfl, by rw [h2], rfl, hm.thr Thr.mk1⟩
  obtain ⟨T, wt, tx, qx, fx, ox, ct, mt, ax, sx⟩ := id hm
  obtain ⟨⟨t0, t240⟩, t1, t2⟩ := id tx
  obtain ⟨⟨q0, q96⟩, q1, q2⟩ := id qx
  have y2 : mup m 130 0 0 130 2 = m 130 2 := mup_idx (by decide)
  have y3 : mup m 130 0 0 130 3 = m 130 3 := mup_idx (by decide)
  rcases hc with hc | hc
  · subst hc
    have eX : fX_cut m 0 n = if 0 ≤ n ∧ n ≤ m 2 1 then (1, mup m 2 1 n) else (0, m) := by
      unfold fX_cut fX_cut_15 fC_keepFirst
      rw [if_pos rfl]
      by_cases h1 : n < 0
      · rw [if_pos h1, if_neg (by omega)]
      · rw [if_neg h1]
        by_cases h2 : m 2 1 < n
        · rw [if_pos h2, if_neg (by omega)]
        · rw [if_neg h2, if_neg h1, if_neg h2, if_pos (by omega)]
    have eM (q : aM) (hq : q 130 2 = m 2 1) : fM_cut q 0 n = if 0 ≤ n ∧ n ≤ m 2 1 then (1, mup (mup q 130 0 0) 130 2 n) else (0, mup q 130 0 0) := by
      unfold fM_cut fM_cut_25 fM_cut_43
      by_cases h1 : n < 0
      · rw [if_pos h1, if_neg (by omega)]
      · rw [if_neg h1, if_pos rfl, hq, if_pos rfl, if_pos rfl]
        by_cases h2 : m 2 1 < n
        · rw [if_pos h2, if_neg (by omega)]
        · rw [if_neg h2, if_pos (by omega)]
          congr 2
          funext y j
          by_cases h : y = 130 ∧ j = 3
          · rw [h.1, h.2, mup_same]
          · exact if_neg h
    by_cases hr : 0 ≤ n ∧ n ≤ m 2 1
    · refine ⟨(1, mup m 2 1 n), (1, mup (mup (mup m 2 1 n) 130 0 0) 130 2 n), by rw [eX, if_pos hr], ?_, ?_, rfl, (?_ : RI S (mup (mup (mup m 2 1 n) 130 0 0) 130 2 n))⟩
      · funext j
        show mup m 2 1 n (-1) j = m (-1) j
        exact mup_ref (by decide)
      · show some (fM_cut (mup m 2 1 n) 0 n) = _
        rw [eM _ (by rw [mup_ref (by decide)]; exact t1), if_pos hr]
      · have rw2 (y : Int) (y1 : y ≠ 130) (y2 : y ≠ 2) : mup (mup (mup m 2 1 n) 130 0 0) 130 2 n y = m y := by
          funext j
          rw [mup_ref y1, mup_ref y1, mup_ref y2]
        have cl (j : Int) (j1 : j ≠ 2) (j2 : j ≠ 0) : mup (mup (mup m 2 1 n) 130 0 0) 130 2 n 130 j = m 130 j := by
          rw [mup_idx j1, mup_idx j2, mup_ref (by decide)]
        have n21 : mup (mup (mup m 2 1 n) 130 0 0) 130 2 n 2 1 = n := by
          rw [mup_ref (by decide), mup_ref (by decide), mup_same]
        refine ⟨T, wt, ⟨⟨by rw [n21]; omega, by rw [n21]; omega⟩, by rw [n21, mup_same], fun i i0 i1 => ?_⟩, ?_, ?_, ?_, ?_, ?_, ?_, ?_⟩
        · rw [n21] at i1
          rw [rw2 131 (by decide) (by decide), rw2 3 (by decide) (by decide)]
          exact t2 i i0 (by omega)
        · exact qx.of (by rw [rw2 4 (by decide) (by decide)]) (rw2 5 (by decide) (by decide)) (cl 3 (by decide) (by decide)) (fun i i0 i1 => by rw [rw2 131 (by decide) (by decide)])
        · rw [rw2 1 (by decide) (by decide), cl 25 (by decide) (by decide)]; exact fx
        · exact ox.of (by rw [rw2 6 (by decide) (by decide)]) (rw2 7 (by decide) (by decide)) (cl 45 (by decide) (by decide)) (rw2 155 (by decide) (by decide))
        · exact ct.of (by rw [rw2 12 (by decide) (by decide)]) (by rw [rw2 12 (by decide) (by decide)]) (by rw [rw2 13 (by decide) (by decide)]) (rw2 14 (by decide) (by decide)) (rw2 15 (by decide) (by decide)) (rw2 16 (by decide) (by decide)) (rw2 17 (by decide) (by decide)) (rw2 18 (by decide) (by decide)) (rw2 19 (by decide) (by decide)) (rw2 20 (by decide) (by decide))
        · exact mt.of (cl 4 (by decide) (by decide)) (cl 5 (by decide) (by decide)) (rw2 132 (by decide) (by decide)) (rw2 133 (by decide) (by decide)) (rw2 134 (by decide) (by decide)) (rw2 135 (by decide) (by decide)) (rw2 136 (by decide) (by decide)) (rw2 137 (by decide) (by decide)) (fun i i0 i1 => by rw [rw2 131 (by decide) (by decide)])
        · exact ax.of (rw2 123 (by decide) (by decide)) (rw2 124 (by decide) (by decide)) (rw2 125 (by decide) (by decide)) (rw2 126 (by decide) (by decide)) (rw2 127 (by decide) (by decide)) (rw2 128 (by decide) (by decide)) (rw2 129 (by decide) (by decide)) (cl 37 (by decide) (by decide)) (cl 38 (by decide) (by decide)) (cl 39 (by decide) (by decide)) (cl 40 (by decide) (by decide)) (rw2 151 (by decide) (by decide)) (rw2 152 (by decide) (by decide)) (rw2 153 (by decide) (by decide)) (rw2 154 (by decide) (by decide))
        · rw [rw2 (-1) (by decide) (by decide)]; exact sx
    · exact no (by rw [eX, if_neg hr]) (by rw [eM m t1, if_neg hr])
  · subst hc
    have eX : fX_cut m 1 n = if 0 ≤ n ∧ n ≤ m 4 1 then (1, mup m 4 1 n) else (0, m) := by
      unfold fX_cut fX_cut_15 fC_keepFirst
      rw [if_neg (by decide)]
      by_cases h1 : n < 0
      · rw [if_pos h1, if_neg (by omega)]
      · rw [if_neg h1]
        by_cases h2 : m 4 1 < n
        · rw [if_pos h2, if_neg (by omega)]
        · rw [if_neg h2, if_neg h1, if_neg h2, if_pos (by omega)]
    have eM (q : aM) (hq : q 130 3 = m 4 1) : fM_cut q 1 n = if 0 ≤ n ∧ n ≤ m 4 1 then (1, mup (mup q 130 0 0) 130 3 n) else (0, mup q 130 0 0) := by
      unfold fM_cut fM_cut_25 fM_cut_43
      by_cases h1 : n < 0
      · rw [if_pos h1, if_neg (by omega)]
      · rw [if_neg h1, if_neg (by decide), hq, if_neg (show ¬ (1 : Int) = 0 by decide), if_neg (show ¬ (1 : Int) = 0 by decide)]
        by_cases h2 : m 4 1 < n
        · rw [if_pos h2, if_neg (by omega)]
        · rw [if_neg h2, if_pos (by omega)]
          congr 1
          funext y j
          by_cases h : y = 130 ∧ j = 2
          · rw [h.1, h.2, mup_same]
            exact (mup_idx (show (2 : Int) ≠ 3 by decide)).symm
          · exact if_neg h
    by_cases hr : 0 ≤ n ∧ n ≤ m 4 1
    · refine ⟨(1, mup m 4 1 n), (1, mup (mup (mup m 4 1 n) 130 0 0) 130 3 n), by rw [eX, if_pos hr], ?_, ?_, rfl, (?_ : RI S (mup (mup (mup m 4 1 n) 130 0 0) 130 3 n))⟩
      · funext j
        show mup m 4 1 n (-1) j = m (-1) j
        exact mup_ref (by decide)
      · show some (fM_cut (mup m 4 1 n) 1 n) = _
        rw [eM _ (by rw [mup_ref (by decide)]; exact q1), if_pos hr]
      · have rw2 (y : Int) (y1 : y ≠ 130) (y2 : y ≠ 4) : mup (mup (mup m 4 1 n) 130 0 0) 130 3 n y = m y := by
          funext j
          rw [mup_ref y1, mup_ref y1, mup_ref y2]
        have cl (j : Int) (j1 : j ≠ 3) (j2 : j ≠ 0) : mup (mup (mup m 4 1 n) 130 0 0) 130 3 n 130 j = m 130 j := by
          rw [mup_idx j1, mup_idx j2, mup_ref (by decide)]
        have n21 : mup (mup (mup m 4 1 n) 130 0 0) 130 3 n 4 1 = n := by
          rw [mup_ref (by decide), mup_ref (by decide), mup_same]
        refine ⟨T, wt, ?_, ⟨⟨by rw [n21]; omega, by rw [n21]; omega⟩, by rw [n21, mup_same], fun i i0 i1 => ?_⟩, ?_, ?_, ?_, ?_, ?_, ?_⟩
        · exact tx.of (by rw [rw2 2 (by decide) (by decide)]) (rw2 3 (by decide) (by decide)) (cl 2 (by decide) (by decide)) (fun i i0 i1 => by rw [rw2 131 (by decide) (by decide)])
        · rw [n21] at i1
          rw [rw2 131 (by decide) (by decide), rw2 5 (by decide) (by decide)]
          exact q2 i i0 (by omega)
        · rw [rw2 1 (by decide) (by decide), cl 25 (by decide) (by decide)]; exact fx
        · exact ox.of (by rw [rw2 6 (by decide) (by decide)]) (rw2 7 (by decide) (by decide)) (cl 45 (by decide) (by decide)) (rw2 155 (by decide) (by decide))
        · exact ct.of (by rw [rw2 12 (by decide) (by decide)]) (by rw [rw2 12 (by decide) (by decide)]) (by rw [rw2 13 (by decide) (by decide)]) (rw2 14 (by decide) (by decide)) (rw2 15 (by decide) (by decide)) (rw2 16 (by decide) (by decide)) (rw2 17 (by decide) (by decide)) (rw2 18 (by decide) (by decide)) (rw2 19 (by decide) (by decide)) (rw2 20 (by decide) (by decide))
        · exact mt.of (cl 4 (by decide) (by decide)) (cl 5 (by decide) (by decide)) (rw2 132 (by decide) (by decide)) (rw2 133 (by decide) (by decide)) (rw2 134 (by decide) (by decide)) (rw2 135 (by decide) (by decide)) (rw2 136 (by decide) (by decide)) (rw2 137 (by decide) (by decide)) (fun i i0 i1 => by rw [rw2 131 (by decide) (by decide)])
        · exact ax.of (rw2 123 (by decide) (by decide)) (rw2 124 (by decide) (by decide)) (rw2 125 (by decide) (by decide)) (rw2 126 (by decide) (by decide)) (rw2 127 (by decide) (by decide)) (rw2 128 (by decide) (by decide)) (rw2 129 (by decide) (by decide)) (cl 37 (by decide) (by decide)) (cl 38 (by decide) (by decide)) (cl 39 (by decide) (by decide)) (cl 40 (by decide) (by decide)) (rw2 151 (by decide) (by decide)) (rw2 152 (by decide) (by decide)) (rw2 153 (by decide) (by decide)) (rw2 154 (by decide) (by decide))
        · rw [rw2 (-1) (by decide) (by decide)]; exact sx
    · exact no (by rw [eX, if_neg hr]) (by rw [eM m q1, if_neg hr])
end PutCut
