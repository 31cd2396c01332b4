/-! ASK: the tokens, as the reference finds them -/
def QM (q : aM) (u : Int → Int) (n : Int) : Prop := q 130 3 = n ∧ (∀ i, 0 ≤ i → i < n → q 131 (240 + i) = u i) ∧ (0 ≤ n ∧ n ≤ 96) ∧ ∀ i, 0 ≤ i → i < n → 32 ≤ u i ∧ u i ≤ 126
theorem QM.of {q q' : aM} {u : Int → Int} {n : Int} (h : QM q u n) (h3 : q' 130 3 = q 130 3) (h1 : q' 131 = q 131) : QM q' u n := by
  unfold QM
  rw [h3, h1]
  exact h
theorem usM {q : aM} {u : Int → Int} {n a b : Int} (h : QM q u n) (h0 : 0 ≤ a) (h1 : b ≤ n) : sl q 131 (240 + a) (240 + b) = us u a b := by
  unfold us sl
  rw [show 240 + b - (240 + a) = b - a by omega]
  apply List.map_congr_left
  intro k hk
  rw [List.mem_range] at hk
  rw [show 240 + a + (k : Int) = 240 + (a + (k : Int)) by omega]
  exact h.2.1 _ (by omega) (by omega)
def kd22 (τ : Int → Int) : Int := if τ 0 = 6 then 0 else if τ 0 = 1 then 1 else if τ 0 = 2 then τ 5 + 1 else if τ 0 = 0 then 6 else 5
def RT (q : aM) (τ : Int → Int) : Prop := q 130 22 = kd22 τ ∧ q 130 23 = 240 + τ 1 ∧ (τ 0 ≠ 0 → q 130 24 = 240 + τ 2 ∧ q 130 21 = 240 + τ 2) ∧ (τ 0 = 2 → τ 5 ≤ 2 → q 130 20 = τ 6)
abbrev nxP (y j : Int) : Prop := y = 130 ∧ 19 ≤ j ∧ j ≤ 24
abbrev a21 (y j : Int) : Prop := y = 130 ∧ j = 21
theorem nx_row {q q' : aM} (h : Fr nxP q q') (y : Int) (hy : y ≠ 130) : q' y = q y := by
  funext j
  exact h y j (fun e => hy e.1)
theorem QM.nx {q q' : aM} {u : Int → Int} {n : Int} (h : QM q u n) (f : Fr nxP q q') : QM q' u n := h.of (f 130 3 (fun e => by omega)) (nx_row f 131 (by decide))
/-- going on behind characters of a kind -/
theorem go21 {u : Int → Int} {n a e : Int} {m : aM} {b : aM → Option (aM ⊕ aM)} {P : aM → Prop} (hM : QM m u n) (he : e ≤ n) (ha : m 130 21 = 240 + a) (a0 : 0 ≤ a) (ae : a ≤ e) (hs : ∀ (m' : aM) (i : Int), QM m' u n → m' 130 21 = 240 + i → a ≤ i → i < e → b m' = some (.inl (mup m' 130 21 (240 + (i + 1))))) (hend : ∀ m', QM m' u n → m' 130 21 = 240 + e → Fr a21 m m' → ∃ v, b m' = some (.inr v) ∧ P v) : ∃ v, aLoop b FU m = some v ∧ P v := by
  have hn := hM.2.2.1
  refine aLoop_ok (Inv := fun m' => QM m' u n ∧ Fr a21 m m' ∧ ∃ i, m' 130 21 = 240 + i ∧ a ≤ i ∧ i ≤ e) (μ := fun m' => (240 + e - m' 130 21).toNat) (Post := P) ?_ FU m ⟨hM, Fr.rf, a, ha, Int.le_refl _, ae⟩ (by show _ < 1000000; omega)
  rintro m' ⟨q1, f1, i, h1, h2, h3⟩
  by_cases hl : i < e
  · left
    refine ⟨_, hs m' i q1 h1 h2 hl, ⟨q1.of (mup_idx (by decide)) (row_up (by decide)), f1.up ⟨rfl, rfl⟩, i + 1, mup_same _ _ _ _, by omega, by omega⟩, ?_⟩
    rw [mup_same]
    omega
  · right
    have : i = e := by omega
    subst this
    exact hend m' q1 h1 f1
theorem letF {c : Int} (h : lo c = false) : fM_isLetter c = 0 := by
  rw [mLet, h]
  rfl
theorem digF {c : Int} (h : dg c = false) : fM_isDigit c = 0 := by
  rw [mDig, h]
  rfl
theorem a21nx {m m' : aM} (h : Fr a21 m m') : Fr nxP m m' := h.wk (fun y j e => ⟨e.1, by omega⟩)
theorem r_next73 {T : Tb} {u : Int → Int} {n : Int} {m : aM} {τ : Int → Int} (hM : QM m u n) (h21 : m 130 21 = 240 + τ 1) (h23 : m 130 23 = 240 + τ 1) (hT : Tk T u n τ) : ∃ q', fM_next_73 m (240 + n) (if τ 1 < n then u (τ 1) else 0) = some q' ∧ RT q' τ ∧ Fr nxP m q' := by
  have hn := hM.2.2.1
  have hch := hM.2.2.2
  obtain ⟨⟨t0, tn⟩, h⟩ := hT
  rcases h with ⟨hlt, h32, hW | hD | hQ | hS⟩ | hE
  · -- a word
    rw [if_pos hlt]
    obtain ⟨w1, w2, w3, w4, w5, w6, w7, w8, w9⟩ := hW
    unfold fM_next_73
    rw [mLet, if_pos w1, if_neg (by decide)]
    unfold fM_next_91
    obtain ⟨m1, e1⟩ : ∃ m1, m1 = mup (mup m 130 22 0) 130 22 1 := ⟨_, rfl⟩
    rw [← e1]
    have f1 : Fr nxP m m1 := by rw [e1]; exact (Fr.rf.up ⟨rfl, by omega⟩).up ⟨rfl, by omega⟩
    have z22 : m1 130 22 = 1 := by rw [e1, mup_same]
    have z23 : m1 130 23 = 240 + τ 1 := by rw [e1, mup_idx (by decide), mup_idx (by decide)]; exact h23
    refine go21 (hM.nx f1) w3 (by rw [e1, mup_idx (by decide), mup_idx (by decide)]; exact h21) t0 (by omega) (fun m' a q1 h1 a0 ae => ?_) (fun m' q1 h1 fr => ?_)
    · unfold fM_next_91_b
      rw [h1, if_pos (by omega), gd_pos (by omega), q1.2.1 a (by omega) (by omega), mLet, if_pos (w4 a a0 ae), if_neg (by decide), w32_id (by omega) (by omega), show 240 + a + 1 = 240 + (a + 1) by omega]
    · have fin : RT (mup m' 130 24 (240 + τ 2)) τ ∧ Fr nxP m (mup m' 130 24 (240 + τ 2)) := by
        refine ⟨⟨?_, ?_, fun _ => ⟨mup_same _ _ _ _, ?_⟩, fun h => by omega⟩, (f1.tr (a21nx fr)).up ⟨rfl, by omega⟩⟩
        · rw [mup_idx (by decide), fr 130 22 (fun e => by omega), z22]
          unfold kd22
          rw [if_neg (by omega), if_pos w6]
        · rw [mup_idx (by decide), fr 130 23 (fun e => by omega), z23]
        · rw [mup_idx (by decide), h1]
      unfold fM_next_91_b
      rw [h1]
      by_cases hlt2 : τ 2 < n
      · rw [if_pos (by omega), gd_pos (by omega), q1.2.1 _ (by omega) hlt2, letF (w5 hlt2), if_pos rfl]
        exact ⟨_, rfl, fin⟩
      · rw [if_neg (by omega)]
        exact ⟨_, rfl, fin⟩
  · -- digits
    rw [if_pos hlt]
    obtain ⟨w1, w2, w3, w4, w5, ⟨w6, w7⟩, w8⟩ := hD
    have hnl : lo (u (τ 1)) = false := by
      unfold dgm at w1
      unfold lo
      rw [decide_eq_false_iff_not]
      simp only [Bool.or_eq_true, decide_eq_true_eq, dg_iff] at w1
      omega
    have e140 : fM_next_73 m (240 + n) (u (τ 1)) = fM_next_140 (mup m 130 22 0) (240 + n) := by
      unfold fM_next_73
      rw [letF hnl, if_pos rfl, mDig]
      by_cases hd : dg (u (τ 1)) = true
      · rw [if_pos hd, if_neg (by decide)]
      · rw [if_neg hd, if_pos rfl, if_pos]
        unfold dgm at w1
        simp only [Bool.or_eq_true, decide_eq_true_eq] at w1
        exact w1.resolve_left hd
    rw [e140]
    unfold fM_next_140
    obtain ⟨m1, e1⟩ : ∃ m1, m1 = mup m 130 22 0 := ⟨_, rfl⟩
    rw [← e1]
    have f1 : Fr nxP m m1 := by rw [e1]; exact Fr.rf.up ⟨rfl, by omega⟩
    have z23 : m1 130 23 = 240 + τ 1 := by rw [e1, mup_idx (by decide)]; exact h23
    refine go21 (hM.nx f1) w3 (by rw [e1, mup_idx (by decide)]; exact h21) t0 (by omega) (fun m' a q1 h1 a0 ae => ?_) (fun m' q1 h1 fr => ?_)
    · unfold fM_next_140_b
      rw [h1, if_pos (by omega), gd_pos (by omega), q1.2.1 a (by omega) (by omega), mDig, w32_id (by omega) (by omega), show 240 + a + 1 = 240 + (a + 1) by omega]
      by_cases hd : dg (u a) = true
      · rw [if_pos hd, if_neg (by decide)]
      · rw [if_neg hd, if_pos rfl, if_pos]
        have w := w4 a a0 ae
        unfold dgm at w
        simp only [Bool.or_eq_true, decide_eq_true_eq] at w
        exact w.resolve_left hd
    · have y23 : m' 130 23 = 240 + τ 1 := by rw [fr 130 23 (fun e => by omega), z23]
      have frm : Fr nxP m m' := f1.tr (a21nx fr)
      have eu : sl m' 131 (240 + τ 1) (240 + τ 2) = us u (τ 1) (τ 2) := usM q1 t0 w3
      -- its kind
      have fin : ∃ v, fM_next_190 m' = some v ∧ RT v τ ∧ Fr nxP m v := by
        unfold fM_next_190
        rw [y23, h1, r_isWhole (by omega) (by omega) (by omega), eu]
        by_cases hw : wholeS (us u (τ 1) (τ 2)) = true
        · rw [if_pos hw]
          simp only [Option.bind_some]
          rw [if_neg (by decide)]
          have h01 := shape_whole.mpr hw
          rcases w8 with ⟨w8, -⟩ | ⟨-, v0, v5, v6⟩
          · omega
          have v51 : τ 5 = 1 := by
            rw [v5]
            unfold fK_sortOf
            rcases h01 with h | h
            · rw [h]; rfl
            · rw [h]; rfl
          refine ⟨_, rfl, ⟨?_, ?_, fun _ => ⟨?_, ?_⟩, fun _ _ => ?_⟩, ((frm.up ⟨rfl, by omega⟩).up ⟨rfl, by omega⟩).up ⟨rfl, by omega⟩⟩
          · rw [mup_idx (by decide), mup_same]
            unfold kd22
            rw [if_neg (by omega), if_neg (by omega), if_pos v0, v51]
            rfl
          · rw [mup_idx (by decide), mup_idx (by decide), mup_idx (by decide)]; exact y23
          · rw [mup_same, mup_idx (by decide)]; exact h1
          · rw [mup_idx (by decide), mup_idx (by decide), mup_idx (by decide)]; exact h1
          · rw [mup_idx (by decide), mup_idx (by decide), mup_same]; exact v6.symm
        · rw [if_neg hw]
          simp only [Option.bind_some]
          rw [if_pos trivial, y23, h1]
          obtain ⟨m2, d1, d2, d3⟩ := r_isDate (m := m') (a := 240 + τ 1) (b := 240 + τ 2) (by omega) (by omega) (by omega) (fun j j0 j1 => by
            have := q1.2.1 (j - 240) (by omega) (by omega)
            rw [show 240 + (j - 240) = j by omega] at this
            rw [this]
            have := hch (j - 240) (by omega) (by omega)
            exact ⟨by omega, by omega⟩)
          rw [eu] at d1 d3
          rw [d1]
          simp only [Option.bind_some]
          have x21 : m2 130 21 = 240 + τ 2 := by rw [d2 130 21 (fun e => by rcases e.2 with e | e <;> omega), h1]
          have x23 : m2 130 23 = 240 + τ 1 := by rw [d2 130 23 (fun e => by rcases e.2 with e | e <;> omega), y23]
          have fr2 : Fr nxP m m2 := frm.tr (d2.wk (fun y j e => ⟨e.1, by omega⟩))
          by_cases hd : dateS (us u (τ 1) (τ 2)) = true
          · rw [if_pos hd, if_neg (by decide)]
            have h2 := shape_date.mpr hd
            rcases w8 with ⟨w8, -⟩ | ⟨-, v0, v5, v6⟩
            · omega
            have v52 : τ 5 = 2 := by rw [v5, h2]; rfl
            refine ⟨_, rfl, ⟨?_, ?_, fun _ => ⟨?_, ?_⟩, fun _ _ => ?_⟩, (fr2.up ⟨rfl, by omega⟩).up ⟨rfl, by omega⟩⟩
            · rw [mup_idx (by decide), mup_same]
              unfold kd22
              rw [if_neg (by omega), if_neg (by omega), if_pos v0, v52]
              rfl
            · rw [mup_idx (by decide), mup_idx (by decide)]; exact x23
            · rw [mup_same]; exact x21
            · rw [mup_idx (by decide), mup_idx (by decide)]; exact x21
            · rw [mup_idx (by decide), mup_idx (by decide), d3 hd]; exact v6.symm
          · rw [if_neg hd, if_pos rfl]
            have h3 : shapeS (us u (τ 1) (τ 2)) = 3 := by
              unfold shapeS
              rw [if_neg hw, if_neg hd]
            rcases w8 with ⟨-, v0, v5⟩ | ⟨w8, -⟩
            · refine ⟨_, rfl, ⟨?_, ?_, fun h => absurd v0 h, fun h => by omega⟩, (fr2.up ⟨rfl, by omega⟩).up ⟨rfl, by omega⟩⟩
              · rw [mup_idx (by decide), mup_same]
                unfold kd22
                rw [if_neg (by omega), if_neg (by omega), if_neg (by omega), if_pos v0]
              · rw [mup_idx (by decide), mup_idx (by decide)]; exact x23
            · exact absurd h3 w8
      obtain ⟨v, v1, v2⟩ := fin
      unfold fM_next_140_b
      rw [h1, v1]
      by_cases hlt2 : τ 2 < n
      · have hd := w5 hlt2
        unfold dgm at hd
        simp only [Bool.or_eq_false_iff, decide_eq_false_iff_not] at hd
        rw [if_pos (by omega), gd_pos (by omega), q1.2.1 _ (by omega) hlt2, digF hd.1, if_pos rfl, if_neg hd.2]
        exact ⟨v, rfl, v2⟩
      · rw [if_neg (by omega)]
        exact ⟨v, rfl, v2⟩
  · -- a text
    rw [if_pos hlt]
    obtain ⟨w1, ⟨w2, w3⟩, e, w4, w5, w6, w7, w8⟩ := hQ
    have e253 : fM_next_73 m (240 + n) (u (τ 1)) = fM_next_253 (mup (mup m 130 22 0) 130 21 (240 + (τ 1 + 1))) (240 + n) := by
      unfold fM_next_73
      rw [w1, letF (show lo 39 = false from rfl), digF (show dg 39 = false from rfl), if_pos rfl, if_pos rfl, if_neg (by decide), if_pos rfl, h21, w32_id (by omega) (by omega), show 240 + τ 1 + 1 = 240 + (τ 1 + 1) by omega]
    rw [e253]
    unfold fM_next_253
    obtain ⟨m1, e1⟩ : ∃ m1, m1 = mup (mup m 130 22 0) 130 21 (240 + (τ 1 + 1)) := ⟨_, rfl⟩
    rw [← e1]
    have f1 : Fr nxP m m1 := by rw [e1]; exact (Fr.rf.up ⟨rfl, by omega⟩).up ⟨rfl, by omega⟩
    have z23 : m1 130 23 = 240 + τ 1 := by rw [e1, mup_idx (by decide), mup_idx (by decide)]; exact h23
    refine go21 (a := τ 1 + 1) (hM.nx f1) w5 (by rw [e1, mup_same]) (by omega) (by omega) (fun m' a q1 h1 a0 ae => ?_) (fun m' q1 h1 fr => ?_)
    · unfold fM_next_253_b
      rw [h1, if_pos (by omega), gd_pos (by omega), q1.2.1 a (by omega) (by omega), if_neg (w6 a (by omega) ae), w32_id (by omega) (by omega), show 240 + a + 1 = 240 + (a + 1) by omega]
    · have y23 : m' 130 23 = 240 + τ 1 := by rw [fr 130 23 (fun e => by omega), z23]
      have frm : Fr nxP m m' := f1.tr (a21nx fr)
      have fin : ∃ v, fM_next_288 m' (240 + n) = some v ∧ RT v τ ∧ Fr nxP m v := by
        unfold fM_next_288
        rw [h1, w32_id (by omega) (by omega)]
        rcases w8 with ⟨x1, x2, x3, x4⟩ | ⟨x1, x2, x3, x4⟩
        · rw [if_neg (by omega)]
          refine ⟨_, rfl, ⟨?_, ?_, fun h => absurd x2 h, fun h => by omega⟩, ((frm.up ⟨rfl, by omega⟩).up ⟨rfl, by omega⟩).up ⟨rfl, by omega⟩⟩
          · rw [mup_idx (by decide), mup_idx (by decide), mup_same]
            unfold kd22
            rw [if_neg (by omega), if_neg (by omega), if_neg (by omega), if_pos x2]
          · rw [mup_idx (by decide), mup_idx (by decide), mup_idx (by decide)]; exact y23
        · rw [if_pos (by omega)]
          refine ⟨_, rfl, ⟨?_, ?_, fun _ => ⟨?_, ?_⟩, fun _ h => by omega⟩, ((frm.up ⟨rfl, by omega⟩).up ⟨rfl, by omega⟩).up ⟨rfl, by omega⟩⟩
          · rw [mup_idx (by decide), mup_idx (by decide), mup_same]
            unfold kd22
            rw [if_neg (by omega), if_neg (by omega), if_pos x2, x3]
            rfl
          · rw [mup_idx (by decide), mup_idx (by decide), mup_idx (by decide)]; exact y23
          · rw [mup_same]; omega
          · rw [mup_idx (by decide), mup_same]; omega
      obtain ⟨v, v1, v2⟩ := fin
      unfold fM_next_253_b
      rw [h1, v1]
      by_cases hlt2 : e < n
      · rw [if_pos (by omega), gd_pos (by omega), q1.2.1 _ (by omega) hlt2, if_pos (w7 hlt2)]
        exact ⟨v, rfl, v2⟩
      · rw [if_neg (by omega)]
        exact ⟨v, rfl, v2⟩
  · -- a sign
    rw [if_pos hlt]
    obtain ⟨w1, w2, w3, ⟨w4, w5⟩, w6, w7⟩ := hS
    unfold dgm at w2
    simp only [Bool.or_eq_false_iff, decide_eq_false_iff_not] at w2
    have epm : fM_next_73 m (240 + n) (u (τ 1)) = (fM_passMark (mup m 130 22 0) (u (τ 1)) (240 + n)).bind fun v7 => some (mup v7 130 24 (v7 130 21)) := by
      unfold fM_next_73
      rw [letF w1, if_pos rfl, digF w2.1, if_pos rfl, if_neg w2.2, if_neg w3, h21, if_pos (by omega)]
    rw [epm]
    obtain ⟨m1, e1⟩ : ∃ m1, m1 = mup m 130 22 0 := ⟨_, rfl⟩
    rw [← e1]
    have f1 : Fr nxP m m1 := by rw [e1]; exact Fr.rf.up ⟨rfl, by omega⟩
    have q1 := hM.nx f1
    have z21 : m1 130 21 = 240 + τ 1 := by rw [e1, mup_idx (by decide)]; exact h21
    have z23 : m1 130 23 = 240 + τ 1 := by rw [e1, mup_idx (by decide)]; exact h23
    -- what comes behind
    obtain ⟨d, hd⟩ : ∃ d, d = nx u n (τ 1) := ⟨_, rfl⟩
    rw [← hd] at w7
    have e25 : ∃ d', fM_passMark m1 (u (τ 1)) (240 + n) = fM_passMark_25 m1 (u (τ 1)) d' ∧ (d' = 61 ↔ d = 61) ∧ (d' = 62 ↔ d = 62) := by
      unfold fM_passMark
      rw [z21, w32_id (by omega) (by omega)]
      by_cases hs : τ 1 + 1 < n
      · rw [if_pos (by omega), gd_pos (by omega), show 240 + τ 1 + 1 = 240 + (τ 1 + 1) by omega, q1.2.1 _ (by omega) hs]
        refine ⟨_, rfl, ?_⟩
        rw [hd]
        unfold nx
        rw [if_pos hs]
        exact ⟨Iff.rfl, Iff.rfl⟩
      · rw [if_neg (by omega)]
        refine ⟨_, rfl, ?_⟩
        rw [hd]
        unfold nx
        rw [if_neg hs]
        exact ⟨by omega, by omega⟩
    obtain ⟨d', e25, d61, d62⟩ := e25
    rw [e25]
    have fin (s l : Int) (hl : l = 1 ∨ l = 2) (hk : s = kd22 τ) (h2 : τ 0 ≠ 0 → τ 2 = τ 1 + l) (h02 : τ 0 ≠ 2) : ∃ q', (some (mup (mup m1 130 22 s) 130 21 (w32 (m1 130 21 + l))) : Option aM).bind (fun v7 => some (mup v7 130 24 (v7 130 21))) = some q' ∧ RT q' τ ∧ Fr nxP m q' := by
      rw [z21, w32_id (by omega) (by omega)]
      simp only [Option.bind_some]
      refine ⟨_, rfl, ⟨?_, ?_, fun h => ⟨?_, ?_⟩, fun h => absurd h h02⟩, ((f1.up ⟨rfl, by omega⟩).up ⟨rfl, by omega⟩).up ⟨rfl, by omega⟩⟩
      · rw [mup_idx (by decide), mup_idx (by decide), mup_same]; exact hk
      · rw [mup_idx (by decide), mup_idx (by decide), mup_idx (by decide)]; exact z23
      · have := h2 h
        rw [mup_same, mup_same]; omega
      · have := h2 h
        rw [mup_idx (by decide), mup_same]; omega
    have kd5 (h : τ 0 = 3 ∨ τ 0 = 4 ∨ τ 0 = 5) : 5 = kd22 τ := by
      unfold kd22
      rw [if_neg (by omega), if_neg (by omega), if_neg (by omega), if_neg (by omega)]
    have kd6 (h : τ 0 = 0) : 6 = kd22 τ := by
      unfold kd22
      rw [if_neg (by omega), if_neg (by omega), if_neg (by omega), if_pos h]
    obtain ⟨cc, hcc⟩ : ∃ cc, cc = u (τ 1) := ⟨_, rfl⟩
    rw [← hcc] at w7 ⊢
    unfold fM_passMark_25 fM_passMark_44 fM_passMark_61 fM_passMark_100
    rcases w7 with w7 | w7 | w7 | w7 | w7 | w7 | w7 | w7 | w7
    · obtain ⟨y1, y2, y3⟩ := w7
      subst y1
      rw [if_neg (by decide), if_neg (by decide), if_pos rfl, if_pos rfl]
      exact fin 5 1 (Or.inl rfl) (kd5 (by omega)) (fun _ => y3) (by omega)
    · obtain ⟨y1, y2, y3⟩ := w7
      subst y1
      rw [if_neg (by decide), if_neg (by decide), if_neg (by decide), if_pos rfl, if_pos rfl]
      exact fin 5 1 (Or.inl rfl) (kd5 (by omega)) (fun _ => y3) (by omega)
    · obtain ⟨y1, y2, y3, y4⟩ := w7
      subst y1
      rw [if_neg (by decide), if_neg (by decide), if_neg (by decide), if_neg (by decide), if_pos rfl, if_pos rfl]
      exact fin 5 1 (Or.inl rfl) (kd5 (by omega)) (fun _ => y3) (by omega)
    · obtain ⟨y1, y2, y3, y4, y5⟩ := w7
      subst y1
      rw [if_pos rfl, if_pos (d62.mpr y2), if_neg (by decide), if_neg (by decide), if_neg (by decide), if_pos rfl, if_neg (by decide)]
      exact fin 5 2 (Or.inr rfl) (kd5 (by omega)) (fun _ => y4) (by omega)
    · obtain ⟨y1, y2, y3, y4, y5⟩ := w7
      subst y1
      rw [if_pos rfl, if_neg (fun h => by have := d62.mp h; omega), if_pos (d61.mpr y2), if_neg (by decide), if_neg (by decide), if_neg (by decide), if_pos rfl, if_neg (by decide)]
      exact fin 5 2 (Or.inr rfl) (kd5 (by omega)) (fun _ => y4) (by omega)
    · obtain ⟨y1, y2, y3, y4, y5, y6⟩ := w7
      subst y1
      rw [if_pos rfl, if_neg (fun h => y2 (d62.mp h)), if_neg (fun h => y3 (d61.mp h)), if_neg (by decide), if_neg (by decide), if_neg (by decide), if_neg (by decide), if_pos rfl, if_pos rfl]
      exact fin 5 1 (Or.inl rfl) (kd5 (by omega)) (fun _ => y5) (by omega)
    · obtain ⟨y1, y2, y3, y4, y5⟩ := w7
      subst y1
      rw [if_neg (by decide), if_pos rfl, if_pos (d61.mpr y2), if_neg (by decide), if_neg (by decide), if_neg (by decide), if_neg (by decide), if_pos rfl, if_neg (by decide)]
      exact fin 5 2 (Or.inr rfl) (kd5 (by omega)) (fun _ => y4) (by omega)
    · obtain ⟨y1, y2, y3, y4, y5⟩ := w7
      subst y1
      rw [if_neg (by decide), if_pos rfl, if_neg (fun h => y2 (d61.mp h)), if_neg (by decide), if_neg (by decide), if_neg (by decide), if_neg (by decide), if_pos rfl, if_pos rfl]
      exact fin 5 1 (Or.inl rfl) (kd5 (by omega)) (fun _ => y4) (by omega)
    · obtain ⟨y1, y2, y3, y4, y5, y6, y7⟩ := w7
      rw [if_neg y4, if_neg y5, if_neg y1, if_neg y2, if_neg y3, if_neg y4, if_neg y5, if_pos rfl]
      exact fin 6 1 (Or.inl rfl) (kd6 y6) (fun h => absurd y6 h) (by omega)
  · -- the end
    obtain ⟨w1, w2, w3, w4, w5⟩ := hE
    rw [if_neg (by omega)]
    unfold fM_next_73
    rw [letF (show lo 0 = false from rfl), digF (show dg 0 = false from rfl), if_pos rfl, if_pos rfl, if_neg (by decide), if_neg (by decide), h21, if_neg (by omega)]
    refine ⟨_, rfl, ⟨?_, ?_, fun _ => ⟨?_, ?_⟩, fun h => by omega⟩, (Fr.rf.up ⟨rfl, by omega⟩).up ⟨rfl, by omega⟩⟩
    · rw [mup_idx (by decide), mup_same]
      unfold kd22
      rw [if_pos w1]
    · rw [mup_idx (by decide), mup_idx (by decide)]; exact h23
    · rw [mup_same]; omega
    · rw [mup_idx (by decide), mup_idx (by decide), h21]; omega
theorem r_next {T : Tb} {u : Int → Int} {n i : Int} {q : aM} {τ : Int → Int} (hM : QM q u n) (i0 : 0 ≤ i) (h21 : q 130 21 = 240 + i) (hL : Lx T u n i τ) : ∃ q', fM_next q = some q' ∧ RT q' τ ∧ Fr nxP q q' := by
  have hn := hM.2.2.1
  obtain ⟨l1, l2, l3⟩ := hL
  have tn := l3.1
  unfold fM_next
  rw [hM.1, w32_id (by omega) (by omega)]
  unfold fM_next_9
  refine go21 hM tn.2 h21 i0 l1 (fun m' a q1 h1 a0 ae => ?_) (fun m' q1 h1 fr => ?_)
  · unfold fM_next_9_b
    rw [h1, if_pos (by omega), gd_pos (by omega), q1.2.1 a (by omega) (by omega), if_pos (l2 a a0 ae), w32_id (by omega) (by omega), show 240 + a + 1 = 240 + (a + 1) by omega]
  · have frm : Fr nxP q m' := a21nx fr
    have f3 : Fr nxP q (mup m' 130 23 (240 + τ 1)) := frm.up ⟨rfl, by omega⟩
    obtain ⟨v, v1, v2, v3⟩ := r_next73 (T := T) (m := mup m' 130 23 (240 + τ 1)) (hM.nx f3) (by rw [mup_idx (by decide)]; exact h1) (mup_same _ _ _ _) l3
    have e44 : fM_next_44 m' (240 + n) = some v := by
      unfold fM_next_44
      rw [h1]
      by_cases hlt : τ 1 < n
      · rw [if_pos hlt] at v1
        rw [if_pos (by omega), gd_pos (by omega), q1.2.1 _ (by omega) hlt]
        exact v1
      · rw [if_neg hlt] at v1
        rw [if_neg (by omega)]
        exact v1
    unfold fM_next_9_b
    rw [h1, e44]
    by_cases hlt : τ 1 < n
    · rw [if_pos (by omega), gd_pos (by omega), q1.2.1 _ (by omega) hlt, if_neg]
      · exact ⟨v, rfl, v2, f3.tr v3⟩
      · rcases l3.2 with h | h
        · exact h.2.1
        · have := h.2.1; omega
    · rw [if_neg (by omega)]
      exact ⟨v, rfl, v2, f3.tr v3⟩
