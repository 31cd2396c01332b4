/-! LOAD: the reference's names -/
theorem r_rawword {m : aM} {t : Int → Int} {n : Int} {x : tF} (h : MTx m t n) (h0 : 0 ≤ x.1) (h1 : x.1 ≤ x.2.1) (h2 : x.2.1 ≤ n) (hl : x.2.1 - x.1 ≤ 8) (hlo : ∀ c ∈ rawT t x, lo c = true) : fM_word m x.1 x.2.1 = some (pk8 (rawT t x)) := by
  have hn := h.2.2.2
  have hraw := rawM h h0 h2
  rw [r_word h0 h1 (by omega) (fun j j0 j1 => by
    have hm : m 131 j ∈ rawT t x := by
      rw [← hraw]
      have := sl_at (m := m) (x := 131) (a := x.1) (b := x.2.1) (k := (j - x.1).toNat) (by omega)
      rw [show x.1 + (((j - x.1).toNat : Nat) : Int) = j by omega] at this
      exact List.mem_of_getElem? this
    have := lo_iff.mp (hlo _ hm)
    omega), if_neg (by omega), hraw]
theorem pk_raw {s u : List Int} (hs : ∀ c ∈ s, lo c = true) (hu : ∀ c ∈ u, lo c = true) : cmp3 (pk8 s) (pk8 u) = 0 ↔ s = u := by
  rw [cmp3_eq0]
  exact ⟨fun h => pk8_inj (fun c hc => by have := lo_iff.mp (hs c hc); omega) (fun c hc => by have := lo_iff.mp (hu c hc); omega) h, fun h => by rw [h]⟩
theorem r_areNames {m : aM} {t : Int → Int} {n : Int} {L : List (List tF)} (h : MTx m t n) (hR : mR m L) (hok : fOk t n L.flatten) (hw : hdw L ≤ 6) : ∃ v, fM_areNames m = some v ∧ (v = 0 ∨ v = 1) ∧ (v = 1 ↔ L ≠ [] ∧ NM t L (hdw L)) := by
  obtain ⟨e1, e2, e3, e4⟩ := id h
  have hle := hdw_le (L := L)
  have e141 (hL : L ≠ []) : m 141 1 = hdw L := by
    have hpos : 0 < L.length := List.length_pos_iff.mpr hL
    have := hR.2.1 1 (by omega)
    rw [take1 hL] at this
    exact this
  -- the last loop: against the names before it
  have l130 (i x1 : Int) (hx : x1 = 0 ∨ x1 = 1) (i0 : 0 ≤ i) (i1 : i < hdw L) (hN : NM t L i) (hi : x1 = 1 → nameOK (rawT t (gF L i))) : ∃ v, fM_areNames_130 m x1 i (gF L i).1 (gF L i).2.1 0 = some (Sum.inl (v, i + 1)) ∧ (v = 0 ∨ v = 1) ∧ (v = 1 ↔ x1 = 1 ∧ ∀ j, 0 ≤ j → j < i → rawT t (gF L i) ≠ rawT t (gF L j)) := by
    have oi := gF_ok hok i0 (show i < (L.flatten.length : Int) by omega)
    unfold fM_areNames_130
    obtain ⟨w, hw1, hw2⟩ := aLoop_ok (f := fM_areNames_130_b m i (gF L i).1 (gF L i).2.1) (Inv := fun s : Int × Int => 0 ≤ s.2 ∧ s.2 ≤ i ∧ (s.1 = 0 ∨ s.1 = 1) ∧ (s.1 = 1 ↔ x1 = 1 ∧ ∀ j, 0 ≤ j → j < s.2 → rawT t (gF L i) ≠ rawT t (gF L j))) (μ := fun s => (i - s.2).toNat) (Post := fun w => ∃ v, w = Sum.inl (v, i + 1) ∧ (v = 0 ∨ v = 1) ∧ (v = 1 ↔ x1 = 1 ∧ ∀ j, 0 ≤ j → j < i → rawT t (gF L i) ≠ rawT t (gF L j))) (by
      rintro ⟨y, j⟩ ⟨g1, g2, g3, g4⟩
      simp only at g1 g2 g3 g4
      unfold fM_areNames_130_b
      simp only
      by_cases hj : j < i
      · left
        rw [if_pos hj, w32_id (by omega) (by omega)]
        rcases g3 with g3 | g3
        · rw [if_pos g3]
          refine ⟨_, rfl, ⟨by simp only; omega, by simp only; omega, Or.inl rfl, ?_⟩, by simp only; omega⟩
          simp only
          refine ⟨fun h => absurd h (by decide), fun h => ?_⟩
          have := g4.mpr ⟨h.1, fun k k0 k1 => h.2 k k0 (by omega)⟩
          omega
        · have hx1 := (g4.mp g3).1
          obtain ⟨n1, n2, n3, n4⟩ := hi hx1
          obtain ⟨p1, p2, p3, p4⟩ := (hN j g1 hj).1
          have oj := gF_ok hok g1 (show j < (L.flatten.length : Int) by omega)
          have ri := raw_len (t := t) oi.2.1
          have rj := raw_len (t := t) oj.2.1
          have fj := mF hR g1 (show j < (L.flatten.length : Int) by omega)
          rw [if_neg (by omega), r_rawword h oi.1 oi.2.1 oi.2.2.1 (by omega) n3]
          simp only [Option.bind_some]
          rw [gd_pos (by omega), fj.1, fj.2.1, r_rawword h oj.1 oj.2.1 oj.2.2.1 (by omega) p3]
          simp only [Option.bind_some]
          by_cases he : rawT t (gF L i) = rawT t (gF L j)
          · rw [if_pos ((pk_raw n3 p3).mpr he)]
            refine ⟨_, rfl, ⟨by simp only; omega, by simp only; omega, Or.inl rfl, ?_⟩, by simp only; omega⟩
            simp only
            exact ⟨fun h => absurd h (by decide), fun h => absurd he (h.2 j g1 (by omega))⟩
          · rw [if_neg (fun q => he ((pk_raw n3 p3).mp q))]
            refine ⟨_, rfl, ⟨by simp only; omega, by simp only; omega, Or.inr rfl, ?_⟩, by simp only; omega⟩
            simp only
            refine ⟨fun _ => ⟨hx1, fun k k0 k1 => ?_⟩, fun _ => trivial⟩
            by_cases e : k = j
            · rw [e]; exact he
            · exact (g4.mp g3).2 k k0 (by omega)
      · right
        rw [if_neg hj, w32_id (by omega) (by omega)]
        have : j = i := by omega
        subst this
        exact ⟨_, rfl, y, rfl, g3, g4⟩) FU (x1, 0) ⟨by simp only; omega, by simp only; omega, hx, ⟨fun h => ⟨h, fun j j0 j1 => by simp only at j1; omega⟩, fun h => h.1⟩⟩ (by show (i - 0).toNat < 1000000; omega)
    obtain ⟨v, rfl, v1, v2⟩ := hw2
    exact ⟨v, hw1, v1, v2⟩
  -- one name
  have l68 (i : Int) (i0 : 0 ≤ i) (i1 : i < hdw L) (hN : NM t L i) : ∃ v, fM_areNames_68 m (if (gF L i).1 < (gF L i).2.1 ∧ (gF L i).2.1 - (gF L i).1 < 7 then 1 else 0) i (gF L i).1 (gF L i).2.1 (gF L i).1 = some (Sum.inl (v, i + 1)) ∧ (v = 0 ∨ v = 1) ∧ (v = 1 ↔ nameOK (rawT t (gF L i)) ∧ ∀ j, 0 ≤ j → j < i → rawT t (gF L i) ≠ rawT t (gF L j)) := by
    have oi := gF_ok hok i0 (show i < (L.flatten.length : Int) by omega)
    have ri := raw_len (t := t) oi.2.1
    have hraw := rawM h oi.1 oi.2.2.1
    obtain ⟨a, ea⟩ : ∃ a, a = (gF L i).1 := ⟨_, rfl⟩
    obtain ⟨b, eb⟩ : ∃ b, b = (gF L i).2.1 := ⟨_, rfl⟩
    rw [← ea, ← eb] at oi ri hraw ⊢
    obtain ⟨x0, ex0⟩ : ∃ x : Int, x = if a < b ∧ b - a < 7 then 1 else 0 := ⟨_, rfl⟩
    have hx0 : x0 = 0 ∨ x0 = 1 := by rw [ex0]; split <;> simp
    have hx01 : x0 = 1 ↔ a < b ∧ b - a < 7 := by
      rw [ex0]
      by_cases q : a < b ∧ b - a < 7
      · rw [if_pos q]; exact ⟨fun _ => q, fun _ => rfl⟩
      · rw [if_neg q]; exact ⟨fun q2 => absurd q2 (by decide), fun q2 => absurd q2 q⟩
    rw [← ex0]
    unfold fM_areNames_68
    obtain ⟨w, hw1, hw2⟩ := aLoop_ok (f := fM_areNames_68_b m i a b) (Inv := fun s : Int × Int => a ≤ s.2 ∧ s.2 ≤ b ∧ (s.1 = 0 ∨ s.1 = 1) ∧ (s.1 = 1 ↔ x0 = 1 ∧ ∀ j, a ≤ j → j < s.2 → lo (m 131 j) = true)) (μ := fun s => (b - s.2).toNat) (Post := fun w => ∃ v, w = Sum.inl (v, i + 1) ∧ (v = 0 ∨ v = 1) ∧ (v = 1 ↔ nameOK (rawT t (gF L i)) ∧ ∀ j, 0 ≤ j → j < i → rawT t (gF L i) ≠ rawT t (gF L j))) (by
      rintro ⟨y, j⟩ ⟨g1, g2, g3, g4⟩
      simp only at g1 g2 g3 g4
      unfold fM_areNames_68_b
      simp only
      by_cases hj : j < b
      · left
        rw [if_pos hj, w32_id (by omega) (by omega)]
        rcases g3 with g3 | g3
        · rw [if_pos g3]
          refine ⟨_, rfl, ⟨by simp only; omega, by simp only; omega, Or.inl rfl, ?_⟩, by simp only; omega⟩
          simp only
          refine ⟨fun h => absurd h (by decide), fun h => ?_⟩
          have := g4.mpr ⟨h.1, fun k k0 k1 => h.2 k k0 (by omega)⟩
          omega
        · rw [if_neg (by omega), gd_pos (by omega), mLet]
          by_cases hl : lo (m 131 j) = true
          · rw [if_pos hl, if_neg (by decide)]
            refine ⟨_, rfl, ⟨by simp only; omega, by simp only; omega, Or.inr rfl, ?_⟩, by simp only; omega⟩
            simp only
            refine ⟨fun _ => ⟨(g4.mp g3).1, fun k k0 k1 => ?_⟩, fun _ => trivial⟩
            by_cases e : k = j
            · rw [e]; exact hl
            · exact (g4.mp g3).2 k k0 (by omega)
          · rw [if_neg hl, if_pos rfl]
            refine ⟨_, rfl, ⟨by simp only; omega, by simp only; omega, Or.inl rfl, ?_⟩, by simp only; omega⟩
            simp only
            exact ⟨fun h => absurd h (by decide), fun h => absurd (h.2 j g1 (by omega)) hl⟩
      · right
        have hjb : j = b := by omega
        subst hjb
        rw [if_neg hj]
        have lets : (∀ k, a ≤ k → k < j → lo (m 131 k) = true) ↔ ∀ c ∈ rawT t (gF L i), lo c = true := by
          rw [← hraw]
          constructor
          · intro hall
            exact sl_mem (P := fun c => lo c = true) hall
          · intro hall k k0 k1
            refine hall _ ?_
            have := sl_at (m := m) (x := 131) (a := a) (b := j) (k := (k - a).toNat) (by omega)
            rw [show a + (((k - a).toNat : Nat) : Int) = k by omega] at this
            exact List.mem_of_getElem? this
        rcases g3 with g3 | g3
        · rw [if_pos g3]
          obtain ⟨v, v1, v2, v3⟩ := l130 i 0 (Or.inl rfl) i0 i1 hN (fun q => absurd q (by decide))
          rw [← ea, ← eb] at v1
          rw [v1]
          refine ⟨_, rfl, v, rfl, v2, ⟨fun q => absurd (v3.mp q).1 (by decide), fun q => ?_⟩⟩
          have := g4.mpr ⟨hx01.mpr (by have := q.1.1; have := q.1.2.1; omega), lets.mpr q.1.2.2.1⟩
          omega
        · obtain ⟨z1, z2⟩ := g4.mp g3
          have zr := hx01.mp z1
          have hlo := lets.mp z2
          have hwd := r_rawword h (x := gF L i) (by omega) (by omega) (by omega) (by omega) hlo
          rw [← ea, ← eb] at hwd
          rw [if_neg (by omega), hwd]
          simp only [Option.bind_some]
          rw [r_taken hlo]
          by_cases hres : wRes (wordS (rawT t (gF L i))) = 0
          · rw [if_pos hres]
            have hnm : nameOK (rawT t (gF L i)) := ⟨by omega, by omega, hlo, hres⟩
            obtain ⟨v, v1, v2, v3⟩ := l130 i 1 (Or.inr rfl) i0 i1 hN (fun _ => hnm)
            rw [← ea, ← eb] at v1
            rw [v1]
            exact ⟨_, rfl, v, rfl, v2, v3.trans ⟨fun q => ⟨hnm, q.2⟩, fun q => ⟨rfl, q.2⟩⟩⟩
          · rw [if_neg hres]
            obtain ⟨v, v1, v2, v3⟩ := l130 i 0 (Or.inl rfl) i0 i1 hN (fun q => absurd q (by decide))
            rw [← ea, ← eb] at v1
            rw [v1]
            exact ⟨_, rfl, v, rfl, v2, ⟨fun q => absurd (v3.mp q).1 (by decide), fun q => absurd q.1.2.2.2 hres⟩⟩) FU (x0, a) ⟨by simp only; omega, by simp only; omega, hx0, ⟨fun h => ⟨h, fun j j0 j1 => by simp only at j1; omega⟩, fun h => h.1⟩⟩ (by show (b - a).toNat < 1000000; omega)
    obtain ⟨v, rfl, v1, v2⟩ := hw2
    exact ⟨v, hw1, v1, v2⟩
  have l15 (hL : L ≠ []) : ∃ v, fM_areNames_15 m 1 0 = some v ∧ (v = 0 ∨ v = 1) ∧ (v = 1 ↔ NM t L (hdw L)) := by
    have h0w : 0 ≤ hdw L := by cases L with | nil => exact absurd rfl hL | cons x r => exact Int.natCast_nonneg _
    unfold fM_areNames_15
    obtain ⟨v, hv, hP⟩ := aLoop_ok (f := fM_areNames_15_b m) (Inv := fun s : Int × Int => 0 ≤ s.2 ∧ s.2 ≤ hdw L ∧ (s.1 = 0 ∨ s.1 = 1) ∧ (s.1 = 1 → NM t L s.2) ∧ (s.1 = 0 → ¬ NM t L (hdw L))) (μ := fun s => (hdw L - s.2).toNat) (Post := fun v => (v = 0 ∨ v = 1) ∧ (v = 1 ↔ NM t L (hdw L))) (by
      rintro ⟨y, i⟩ ⟨g1, g2, g3, g4, g5⟩
      simp only at g1 g2 g3 g4 g5
      unfold fM_areNames_15_b
      simp only
      rcases g3 with g3 | g3
      · right
        rw [if_pos g3, gd_pos (Or.inl g3)]
        exact ⟨y, rfl, Or.inl g3, fun q => by omega, fun q => absurd q (g5 g3)⟩
      · rw [if_neg (by omega), e141 hL]
        by_cases hi : i < hdw L
        · left
          have fi := mF hR g1 (show i < (L.flatten.length : Int) by omega)
          have oi := gF_ok hok g1 (show i < (L.flatten.length : Int) by omega)
          obtain ⟨v, v1, v2, v3⟩ := l68 i g1 hi (g4 g3)
          have hlen : i < 242 := by omega
          have est : (if m 138 i < m 139 i then (if w32 (m 139 i - m 138 i) < 7 then fM_areNames_68 m 1 i (m 138 i) (m 139 i) (m 138 i) else fM_areNames_68 m 0 i (m 138 i) (m 139 i) (m 138 i)) else fM_areNames_68 m 0 i (m 138 i) (m 139 i) (m 138 i)) = some (Sum.inl (v, i + 1)) := by
            rw [fi.1, fi.2.1, w32_id (by omega) (by omega), ← v1]
            by_cases q1 : (gF L i).1 < (gF L i).2.1
            · rw [if_pos q1]
              by_cases q2 : (gF L i).2.1 - (gF L i).1 < 7
              · rw [if_pos q2, if_pos ⟨q1, q2⟩]
              · rw [if_neg q2, if_neg (fun q => q2 q.2)]
            · rw [if_neg q1, if_neg (fun q => q1 q.1)]
          rw [if_pos hi, gd_pos (by omega), est]
          refine ⟨_, rfl, ⟨by simp only; omega, by simp only; omega, v2, fun q => ?_, fun q => ?_⟩, by simp only; omega⟩
          · simp only at q
            intro k k0 k1
            simp only at k1
            by_cases e : k = i
            · rw [e]; exact v3.mp q
            · exact g4 g3 k k0 (by omega)
          · simp only at q
            intro hN
            have := v3.mpr (hN i g1 hi)
            omega
        · right
          rw [if_neg hi, gd_pos (Or.inr g3)]
          have : i = hdw L := by omega
          subst this
          exact ⟨y, rfl, Or.inr g3, fun _ => g4 g3, fun _ => g3⟩) FU (1, 0) ⟨by simp only; omega, by simp only; omega, Or.inr rfl, fun _ i i0 i1 => by simp only at i1; omega, fun q => absurd q (by decide)⟩ (by show (hdw L - 0).toNat < 1000000; omega)
    exact ⟨v, hv, hP⟩
  unfold fM_areNames
  by_cases hL : L = []
  · rw [if_neg (by rw [hR.1, hL]; decide)]
    refine ⟨0, ?_, Or.inl rfl, fun q => absurd q (by decide), fun q => absurd hL q.1⟩
    unfold fM_areNames_15
    exact aL_end (n := 999999) rfl
  · have hpos : 0 < L.length := List.length_pos_iff.mpr hL
    rw [if_pos (by rw [hR.1]; omega)]
    obtain ⟨v, v1, v2, v3⟩ := l15 hL
    exact ⟨v, v1, v2, v3.trans ⟨fun q => ⟨hL, q⟩, fun q => q.2⟩⟩
