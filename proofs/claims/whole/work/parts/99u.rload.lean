/-! LOAD: the reference, whole -/
def ldP (y j : Int) : Prop := (y = 130 ∧ (j = 0 ∨ j = 4 ∨ j = 5 ∨ j = 8 ∨ j = 13 ∨ j = 17 ∨ j = 19 ∨ j = 20 ∨ j = 37)) ∨ (y = 131 ∧ 336 ≤ j) ∨ (132 ≤ y ∧ y ≤ 141)
theorem mR.of {m m' : aM} {L : List (List tF)} (h : mR m L) (h17 : m' 130 17 = m 130 17) (h1 : m' 138 = m 138) (h2 : m' 139 = m 139) (h3 : m' 140 = m 140) (h4 : m' 141 = m 141) : mR m' L := by
  unfold mR
  rw [h17, h1, h2, h3, h4]
  exact h
theorem r_tail {t : Int → Int} {n : Int} {L : List (List tF)} {m : aM} (hg : goodL t n L) (hM : MTx m t n) (hR : mR m L) (e4 : m 130 4 = hdw L) (e5 : m 130 5 = (L.length : Int) - 1) (e8 : m 130 8 = 0) (hn : ∀ c, 0 ≤ c → c < hdw L → m 132 c = pk8 (un (rawT t (gF L c)))) : ∃ m', fM_load_130 m 0 = some ((L.length : Int) - 1, m') ∧ MT m' (TL t L) ∧ Fr ldP m m' ∧ ∀ j, j ≠ 8 → ¬ scr 130 j → m' 130 j = m 130 j := by
  have wt := WT_TL hg
  obtain ⟨m1, a1, a2, a3, a4, a5⟩ := r_cells hg hM hR e4 e5 e8
  have kc : KC m1 (TL t L) := by
    refine ⟨by rw [a3.2.1 5 (by decide)]; exact e5, fun r c r0 r1 c0 c1 => ?_⟩
    obtain ⟨b1, b2, b3, b4, b5⟩ := a2 r c r0 r1 c0 c1 (gidx hg r0 r1 c0 c1).2
    exact ⟨b1, b2, by omega, b4, b5⟩
  obtain ⟨m2, c1, c2, c3⟩ := r_types wt kc (by rw [a3.2.1 4 (by decide)]; exact e4) (fun c c0 c1 => by
    rw [a3.1 132 (by decide) (by decide) (by decide) (by decide) (by decide)]
    exact hn c c0 c1)
  refine ⟨m2, by rw [a1, c1]; rfl, c2, fun y j hy => ?_, fun j h8 hs => ?_⟩
  · have hny : ¬ tyP y j := fun e => hy (by
      rcases e with e | e | e
      · rcases e with ⟨e1, e2⟩
        left
        refine ⟨e1, ?_⟩
        omega
      · right; right; omega
      · right; right; omega)
    rw [c3 y j hny]
    by_cases y130 : y = 130
    · subst y130
      exact a3.2.1 j (fun e => hy (Or.inl ⟨rfl, by omega⟩))
    · by_cases y131 : y = 131
      · subst y131
        exact a3.2.2 j (by
          rcases Int.lt_or_le j 336 with h | h
          · exact h
          · exact absurd (Or.inr (Or.inl ⟨rfl, h⟩)) hy)
      · have hr : ¬ (132 ≤ y ∧ y ≤ 141) := fun e => hy (Or.inr (Or.inr e))
        rw [a3.1 y y130 y131 (by omega) (by omega) (by omega)]
  · rw [c3 130 j (fun e => by
      rcases e with e | e | e
      · exact hs e
      · exact absurd e (by decide)
      · exact absurd e (by decide))]
    exact a3.2.1 j h8
theorem r_names92 {t : Int → Int} {n : Int} {L : List (List tF)} {m : aM} (hg : goodL t n L) (hM : MTx m t n) (hR : mR m L) (e4 : m 130 4 = hdw L) (e5 : m 130 5 = (L.length : Int) - 1) (e8 : m 130 8 = 0) : ∃ m', fM_load_92 m 0 = some ((L.length : Int) - 1, m') ∧ MT m' (TL t L) ∧ Fr ldP m m' ∧ ∀ j, j ≠ 8 → ¬ scr 130 j → m' 130 j = m 130 j := by
  obtain ⟨w1, w2, w3, w4⟩ := hg.w
  obtain ⟨g1, g2, g3, g4, g5, g6, g7, g8, g9, g10⟩ := id hg
  have hle := hdw_le (L := L)
  unfold fM_load_92
  obtain ⟨v, hv, m', hP⟩ := aLoop_ok (f := fM_load_92_b) (Inv := fun x : aM × Int => (∀ y, y ≠ 132 → x.1 y = m y) ∧ 0 ≤ x.2 ∧ x.2 ≤ hdw L ∧ ∀ c, 0 ≤ c → c < x.2 → x.1 132 c = pk8 (un (rawT t (gF L c)))) (μ := fun x => (hdw L - x.2).toNat) (Post := fun v => ∃ m', v = ((L.length : Int) - 1, m') ∧ MT m' (TL t L) ∧ Fr ldP m m' ∧ ∀ j, j ≠ 8 → ¬ scr 130 j → m' 130 j = m 130 j) (by
    rintro ⟨m1, c⟩ ⟨fr, c0, c1, hn⟩
    simp only at fr c0 c1 hn
    have hM1 : MTx m1 t n := by
      unfold MTx
      rw [fr 130 (by decide), fr 131 (by decide)]
      exact hM
    have hR1 : mR m1 L := hR.of (by rw [fr 130 (by decide)]) (fr _ (by decide)) (fr _ (by decide)) (fr _ (by decide)) (fr _ (by decide))
    unfold fM_load_92_b
    simp only
    rw [fr 130 (by decide), e4]
    by_cases hc : c < hdw L
    · left
      have ok := gF_ok g6 c0 (show c < (L.flatten.length : Int) by omega)
      have mf := mF hR1 c0 (show c < (L.flatten.length : Int) by omega)
      have hnm := (g4 c c0 hc).1
      have hrl := raw_len (t := t) ok.2.1
      have h6 := hnm.2.1
      have ew := r_rawword hM1 ok.1 ok.2.1 ok.2.2.1 (by omega) hnm.2.2.1
      rw [if_pos hc, gd_pos (by omega), mf.1, mf.2.1, ew, w32_id (x := c + 1) (by omega) (by omega)]
      simp only [Option.bind_some]
      rw [gd_pos (by omega)]
      refine ⟨_, rfl, ⟨fun y hy => ?_, by simp only; omega, by simp only; omega, fun d d0 d1 => ?_⟩, by simp only; omega⟩
      · rw [← fr y hy]
        funext j
        exact mup_ref hy
      · simp only at d1 ⊢
        by_cases e : d = c
        · rw [e, mup_same, name_un hg c0 hc]
        · rw [mup_idx e]
          exact hn d d0 (by omega)
    · right
      have : c = hdw L := by omega
      subst this
      obtain ⟨m', a1, a2, a3, a4⟩ := r_tail hg hM1 hR1 (by rw [fr 130 (by decide)]; exact e4) (by rw [fr 130 (by decide)]; exact e5) (by rw [fr 130 (by decide)]; exact e8) hn
      rw [if_neg hc, a1]
      refine ⟨_, rfl, m', rfl, a2, fun y j hy => ?_, fun j h8 hs => ?_⟩
      · rw [a3 y j hy, fr y (fun e => hy (Or.inr (Or.inr (by omega))))]
      · rw [a4 j h8 hs, fr 130 (by decide)]) FU (m, 0) ⟨fun _ _ => rfl, by simp only; omega, by simp only; omega, fun c c0 c1 => by simp only at c1; omega⟩ (by show (hdw L - 0).toNat < 1000000; omega)
  exact ⟨m', by rw [hv, hP.1], hP.2⟩
/-- what follows the fields in the reference's load -/
def mRest (m : aM) : Option (Int × aM) := (fM_isEven m).bind fun v8 => if v8 = 0 then fM_load_48 m 2 else (fM_areNames m).bind fun v9 => if v9 = 0 then fM_load_48 m 3 else if 17 < m 130 17 then fM_load_48 m 4 else fM_load_48 m 0
theorem fM_load_eq {m : aM} : fM_load m = (fM_cutText m).bind fun v1 => if v1.1 = 0 then fM_load_48 v1.2 1 else mRest v1.2 := rfl
theorem m48 {m : aM} {k : Int} (h : 0 < k) : fM_load_48 m k = some (0, mup m 130 0 k) := by
  unfold fM_load_48
  rw [if_pos h]
theorem r_rest {m : aM} {t : Int → Int} {n : Int} {L : List (List tF)} (hM : MTx m t n) (hR : mR m L) (hok : fOk t n L.flatten) (hw : wsum L.flatten ≤ n + 1) (hne : ∀ x ∈ L, 1 ≤ x.length) (ht : ∀ i, 0 ≤ i → i < n → okT (t i)) :
    (¬ (same L = true ∧ hdw L ≤ 6) → mRest m = some (0, mup m 130 0 2)) ∧ ((same L = true ∧ hdw L ≤ 6) → ¬ (L ≠ [] ∧ NM t L (hdw L)) → mRest m = some (0, mup m 130 0 3)) ∧ ((same L = true ∧ hdw L ≤ 6) → (L ≠ [] ∧ NM t L (hdw L)) → 17 < (L.length : Int) → mRest m = some (0, mup m 130 0 4)) ∧ (goodL t n L → ∃ m', mRest m = some ((L.length : Int) - 1, m') ∧ MT m' (TL t L) ∧ Fr ldP m m' ∧ m' 130 0 = 0 ∧ m' 130 37 = -1) := by
  have hfl := fOk_w hok
  have hn := hM.2.2
  have hll : (L.length : Int) ≤ (L.flatten.length : Int) := by
    clear hR hok hw ht hfl
    induction L with
    | nil => simp
    | cons a r ih =>
      have h1 := hne a List.mem_cons_self
      have h2 := ih (fun x hx => hne x (List.mem_cons_of_mem _ hx))
      simp only [List.flatten_cons, List.length_append, List.length_cons]
      omega
  obtain ⟨v, v1, v2, v3⟩ := r_isEven hR (by omega) (by omega)
  have ev (h : same L = true ∧ hdw L ≤ 6) : mRest m = (fM_areNames m).bind fun v9 => if v9 = 0 then fM_load_48 m 3 else if 17 < m 130 17 then fM_load_48 m 4 else fM_load_48 m 0 := by
    unfold mRest
    rw [v1]
    simp only [Option.bind_some]
    rw [if_neg (by have := v3.mpr h; omega)]
  have nm (h : same L = true ∧ hdw L ≤ 6) (h2 : L ≠ [] ∧ NM t L (hdw L)) : mRest m = if 17 < m 130 17 then fM_load_48 m 4 else fM_load_48 m 0 := by
    rw [ev h]
    obtain ⟨u, u1, u2, u3⟩ := r_areNames hM hR hok h.2
    rw [u1]
    simp only [Option.bind_some]
    rw [if_neg (by have := u3.mpr h2; omega)]
  refine ⟨fun h => ?_, fun h h2 => ?_, fun h h2 h3 => ?_, fun hg => ?_⟩
  · unfold mRest
    rw [v1]
    simp only [Option.bind_some]
    rw [if_pos (by rcases v2 with v2 | v2; exact v2; exact absurd (v3.mp v2) h), m48 (by decide)]
  · rw [ev h]
    obtain ⟨u, u1, u2, u3⟩ := r_areNames hM hR hok h.2
    rw [u1]
    simp only [Option.bind_some]
    rw [if_pos (by rcases u2 with u2 | u2; exact u2; exact absurd (u3.mp u2) h2), m48 (by decide)]
  · rw [nm h h2, hR.1, if_pos h3, m48 (by decide)]
  · obtain ⟨w1, w2, w3, w4⟩ := hg.w
    obtain ⟨g1, g2, g3, g4, g5, g6, g7, g8, g9, g10⟩ := id hg
    rw [nm ⟨g1, g2⟩ ⟨g3, g4⟩, hR.1, if_neg (by omega)]
    unfold fM_load_48
    rw [if_neg (by decide), hR.1, w32_id (by omega) (by omega)]
    obtain ⟨q, hq⟩ : ∃ q, q = mup (mup (mup (mup (mup m 130 0 0) 130 4 (m 141 1)) 130 5 ((L.length : Int) - 1)) 130 8 0) 130 37 (-1) := ⟨_, rfl⟩
    rw [← hq]
    have row (y : Int) (hy : y ≠ 130) : q y = m y := by
      funext j
      rw [hq, mup_ref hy, mup_ref hy, mup_ref hy, mup_ref hy, mup_ref hy]
    have cel (j : Int) (h0 : j ≠ 0) (h4 : j ≠ 4) (h5 : j ≠ 5) (h8 : j ≠ 8) (h37 : j ≠ 37) : q 130 j = m 130 j := by
      rw [hq, mup_idx h37, mup_idx h8, mup_idx h5, mup_idx h4, mup_idx h0]
    have e141 : m 141 1 = hdw L := by
      have := hR.2.1 1 (by omega)
      rw [take1 g3] at this
      exact this
    obtain ⟨m', a1, a2, a3, a4⟩ := r_names92 (m := q) hg ⟨by rw [cel 2 (by decide) (by decide) (by decide) (by decide) (by decide)]; exact hM.1, by rw [row 131 (by decide)]; exact hM.2.1, hM.2.2⟩ (hR.of (cel 17 (by decide) (by decide) (by decide) (by decide) (by decide)) (row _ (by decide)) (row _ (by decide)) (row _ (by decide)) (row _ (by decide)))
      (by rw [hq, mup_idx (by decide), mup_idx (by decide), mup_idx (by decide), mup_same]; exact e141) (by rw [hq, mup_idx (by decide), mup_idx (by decide), mup_same]) (by rw [hq, mup_idx (by decide), mup_same])
    refine ⟨m', a1, a2, fun y j hy => ?_, ?_, ?_⟩
    · rw [a3 y j hy]
      by_cases y130 : y = 130
      · subst y130
        have hj : ¬ (j = 0 ∨ j = 4 ∨ j = 5 ∨ j = 8 ∨ j = 13 ∨ j = 17 ∨ j = 19 ∨ j = 20 ∨ j = 37) := fun e => hy (Or.inl ⟨rfl, e⟩)
        exact cel j (by omega) (by omega) (by omega) (by omega) (by omega)
      · rw [row y y130]
    · rw [a4 0 (by decide) (fun e => by rcases e.2 with e | e <;> exact absurd e (by decide)), hq, mup_idx (by decide), mup_idx (by decide), mup_idx (by decide), mup_idx (by decide), mup_same]
    · rw [a4 37 (by decide) (fun e => by rcases e.2 with e | e <;> exact absurd e (by decide)), hq, mup_same]
