/-! WRITING: the reference's cells and rows -/
section WM
variable {m0 : aM} {T : Tb}
theorem AgM.row {m : aM} (h : Ag oM m0 m) (y : Int) (h1 : y ≠ 130) (h2 : y ≠ 155) : m y = m0 y := by
  funext j
  exact h y j (fun e => h1 e.1) h2 (fun e => h1 e.1)
theorem AgM.cel {m : aM} (h : Ag oM m0 m) (j : Int) (h1 : j ≠ 45) (h2 : j ≠ 19) (h3 : j ≠ 20) : m 130 j = m0 130 j := h 130 j (fun e => h1 e.2) (by decide) (fun e => e.2.elim h2 h3)
theorem AgM.mt {m : aM} (h : Ag oM m0 m) (mt : MT m0 T) : MT m T :=
  mt.of (AgM.cel h 4 (by decide) (by decide) (by decide)) (AgM.cel h 5 (by decide) (by decide) (by decide)) (AgM.row h 132 (by decide) (by decide)) (AgM.row h 133 (by decide) (by decide)) (AgM.row h 134 (by decide) (by decide)) (AgM.row h 135 (by decide) (by decide)) (AgM.row h 136 (by decide) (by decide)) (AgM.row h 137 (by decide) (by decide)) (fun i _ _ => by rw [AgM.row h 131 (by decide) (by decide)])
theorem App.pre {o : wO} {m m1 m2 : aM} {l : List Int} (h1 : m1 o.1 o.2.1 = m o.1 o.2.1) (h2 : m1 o.2.2.1 = m o.2.2.1) (h3 : Ag o m m1) (h : App o m1 m2 l) : App o m m2 l := by
  obtain ⟨a, b, c, d⟩ := h
  rw [h1] at a b c
  rw [h2] at b
  exact ⟨a, b, c, h3.tr d⟩
theorem Fr.ag {m m1 : aM} (h : Fr scr m m1) : m1 130 45 = m 130 45 ∧ m1 155 = m 155 ∧ Ag oM m m1 := by
  refine ⟨h 130 45 (fun e => e.2.elim (by decide) (by decide)), ?_, fun y j _ _ hn => h y j hn⟩
  funext j
  exact h 155 j (fun e => absurd e.1 (by decide))
/-- a stretch of the row, marks doubled, between marks or not -/
theorem wM_169 {a b x6 : Int} (ha : 0 ≤ a) (hab : a ≤ b) (hb : b ≤ 600) : Wr oM m0 (fun m => fM_sayCell_169 m a b x6) (if x6 = 0 then dbl (sl m0 131 a b) else 34 :: (dbl (sl m0 131 a b) ++ [34])) := by
  have w184 : Wr oM m0 (fun m => fM_sayCell_184 m b x6 a) (dbl (sl m0 131 a b) ++ (if x6 = 0 then [] else [34])) := by
    have := Wr.loopF (o := oM) (m0 := m0) (b := fM_sayCell_184_b b x6) (l := fun i => dbl1 (m0 131 i)) (le := if x6 = 0 then [] else [34]) (a := a) (n := b) (by omega) (by
      intro i h0 h1 m hag hm hr
      have e131 : m 131 = m0 131 := AgM.row hag 131 (by decide) (by decide)
      have one (q : aM) (hq : Ag oM m0 q) (q0 : 0 ≤ q 130 45) (q1 : q 130 45 + 1 ≤ 2000) : ∃ q', fM_sayCell_209 q b x6 i = some (Sum.inl (q', i + 1)) ∧ App oM q q' [m0 131 i] := by
        have f131 : q 131 = m0 131 := AgM.row hq 131 (by decide) (by decide)
        obtain ⟨q', e, p⟩ := wM_say (m0 := m0) (c := m0 131 i) q hq q0 q1
        have e : fM_say q (m0 131 i) = some q' := e
        refine ⟨q', ?_, p⟩
        unfold fM_sayCell_209
        rw [gd_pos (by omega), f131, e, w32_id (by omega) (by omega)]
        rfl
      unfold fM_sayCell_184_b
      simp only
      rw [if_pos h1, gd_pos (by omega), e131]
      unfold dbl1 at hr ⊢
      by_cases h34 : m0 131 i = 34
      · rw [if_pos h34] at hr ⊢
        rw [if_pos h34]
        have hr : m 130 45 + 2 ≤ 2000 := hr
        have hm : 0 ≤ m 130 45 := hm
        obtain ⟨m1, e, p⟩ := wM_say (m0 := m0) (c := 34) m hag hm (show m 130 45 + 1 ≤ 2000 by omega)
        have e : fM_say m 34 = some m1 := e
        have p1 : m1 130 45 = m 130 45 + 1 := p.1
        obtain ⟨m2, e2, p2⟩ := one m1 (hag.tr p.2.2.2) (by omega) (by omega)
        rw [e]
        simp only [Option.bind_some]
        rw [h34] at p2
        exact ⟨m2, e2, p.app p2⟩
      · rw [if_neg h34] at hr ⊢
        rw [if_neg h34]
        exact one m hag hm hr) (by
      intro m hag hm hr
      unfold fM_sayCell_184_b
      simp only
      rw [if_neg (by omega)]
      by_cases h6 : x6 = 0
      · rw [if_pos h6] at hr ⊢
        rw [if_pos h6]
        exact ⟨m, rfl, App.nil⟩
      · rw [if_neg h6] at hr ⊢
        rw [if_neg h6]
        obtain ⟨m1, e, p⟩ := wM_say (m0 := m0) (c := 34) m hag hm hr
        have e : fM_say m 34 = some m1 := e
        rw [e]
        exact ⟨m1, rfl, p⟩)
    refine this.to ?_
    rw [cat_sl (g := dbl1) _ a b (by omega)]
    rfl
  by_cases h6 : x6 = 0
  · rw [if_pos h6] at w184 ⊢
    rw [List.append_nil] at w184
    exact w184.congr (fun m _ => by unfold fM_sayCell_169; rw [if_pos h6])
  · rw [if_neg h6] at w184 ⊢
    exact ((wM_say (m0 := m0) (c := 34)).seq w184).congr (fun m _ => by unfold fM_sayCell_169; rw [if_neg h6])
/-- the search for what wants marks -/
theorem r_86 {m : aM} {c a b x6 : Int} (hc : 0 ≤ c ∧ c < 6) (ha : 0 ≤ a) (hab : a ≤ b) (hb : b ≤ 600) (h6 : x6 = 0 ∨ x6 = 1) (ht : m 133 c = 3) : fM_sayCell_86 m c a b x6 a = fM_sayCell_169 m a b (if x6 = 1 ∨ (sl m 131 a b).any spc = true then 1 else 0) := by
  unfold fM_sayCell_86
  have key : ∀ (k : Nat) (x i : Int) (f : Nat), i + (k : Int) = b → a ≤ i → k < f → (x = 0 ∨ x = 1) → aLoop (fM_sayCell_86_b m c a b) f (x, i) = fM_sayCell_169 m a b (if x = 1 ∨ (sl m 131 i b).any spc = true then 1 else 0) := by
    intro k
    induction k with
    | zero =>
      intro x i f hi _ hf hx
      obtain ⟨f, rfl⟩ : ∃ g, f = g + 1 := ⟨f - 1, by omega⟩
      have eb : fM_sayCell_86_b m c a b (x, i) = (fM_sayCell_169 m a b x).map Sum.inr := by
        unfold fM_sayCell_86_b
        simp only
        rw [if_neg (by omega)]
      have e : (if x = 1 ∨ (sl m 131 i b).any spc = true then (1 : Int) else 0) = x := by
        rw [sl_nil (by omega)]
        rcases hx with hx | hx <;> subst hx <;> rfl
      rw [e]
      cases h : fM_sayCell_169 m a b x with
      | none =>
        rw [h] at eb
        unfold aLoop
        rw [eb]
        rfl
      | some v =>
        rw [h] at eb
        exact aL_end eb
    | succ k ih =>
      intro x i f hi h0 hf hx
      obtain ⟨f, rfl⟩ : ∃ g, f = g + 1 := ⟨f - 1, by omega⟩
      have eb : fM_sayCell_86_b m c a b (x, i) = some (Sum.inl (if x = 1 ∨ spc (m 131 i) = true then 1 else 0, i + 1)) := by
        unfold fM_sayCell_86_b
        simp only
        rw [if_pos (by omega), gd_pos hc, if_pos ht, w32_id (by omega) (by omega)]
        rcases hx with hx | hx
        · subst hx
          rw [if_pos rfl, gd_pos (by omega)]
          unfold spc
          by_cases q1 : m 131 i = 44
          · rw [if_pos q1, if_pos (Or.inr (decide_eq_true (Or.inl q1)))]
          rw [if_neg q1]
          by_cases q2 : m 131 i = 34
          · rw [if_pos q2, if_pos (Or.inr (decide_eq_true (Or.inr (Or.inl q2))))]
          rw [if_neg q2]
          by_cases q3 : m 131 i = 10
          · rw [if_pos q3, if_pos (Or.inr (decide_eq_true (Or.inr (Or.inr (Or.inl q3)))))]
          rw [if_neg q3]
          by_cases q4 : m 131 i = 13
          · rw [if_pos q4, if_pos (Or.inr (decide_eq_true (Or.inr (Or.inr (Or.inr q4)))))]
          rw [if_neg q4, if_neg]
          rintro (h | h)
          · exact absurd h (by decide)
          · rw [decide_eq_true_iff] at h
            omega
        · subst hx
          rw [if_neg (by decide), if_pos (Or.inl rfl)]
      rw [aL_go eb, ih _ (i + 1) f (by omega) (by omega) (by omega) (by split <;> simp), sl_cons (show i < b by omega), List.any_cons]
      congr 1
      by_cases h1 : x = 1
      · rw [if_pos (Or.inl h1), if_pos (Or.inl rfl), if_pos (Or.inl h1)]
      · by_cases h2 : spc (m 131 i) = true
        · rw [h2, Bool.true_or, if_pos (Or.inr rfl)]
          exact if_pos (Or.inl rfl)
        · rw [Bool.not_eq_true] at h2
          rw [h2, Bool.false_or]
          have e0 : (if x = 1 ∨ false = true then (1 : Int) else 0) = 0 := if_neg (by simp [h1])
          rw [e0]
          by_cases h3 : (sl m 131 (i + 1) b).any spc = true
          · rw [if_pos (Or.inr h3), if_pos (Or.inr h3)]
          · rw [if_neg (by simp [h3]), if_neg (by simp [h1, h3])]
  exact key (b - a).toNat x6 a FU (by omega) (by omega) (by show (b - a).toNat < 1000000; omega) h6
theorem r_86n {m : aM} {c a b : Int} (hc : 0 ≤ c ∧ c < 6) (ht : m 133 c ≠ 3) : fM_sayCell_86 m c a b 0 a = fM_sayCell_169 m a b 0 := by
  unfold fM_sayCell_86
  have eb : fM_sayCell_86_b m c a b (0, a) = (fM_sayCell_169 m a b 0).map Sum.inr := by
    unfold fM_sayCell_86_b
    simp only
    by_cases h : a < b
    · rw [if_pos h, gd_pos hc, if_neg ht]
    · rw [if_neg h]
  cases h : fM_sayCell_169 m a b 0 with
  | none =>
    rw [h] at eb
    show aLoop (fM_sayCell_86_b m c a b) (999999 + 1) (0, a) = none
    unfold aLoop
    rw [eb]
    rfl
  | some v =>
    rw [h] at eb
    exact aL_end (n := 999999) eb
theorem wM_cell (wt : WT T) (mt : MT m0 T) {r c : Int} (h1 : 0 ≤ r) (h2 : r < Tr T) (h3 : 0 ≤ c) (h4 : c < Tn T) : Wr oM m0 (fun m => fM_sayCell m r c) (cellS T r c) := by
  obtain ⟨⟨n0, n6⟩, ⟨r0, r16⟩, -⟩ := id wt
  obtain ⟨d1, d2, d3, d4, d5, d6⟩ := mt.2.2.2 r c h1 h2 h3 h4
  have hok := (wt.2.2.2.2.2.1 r c h1 h2 h3 h4).2
  obtain ⟨a, ea⟩ : ∃ a, a = m0 134 (6 * r + c) := ⟨_, rfl⟩
  rw [← ea] at d2 d3 d5
  obtain ⟨b, eb⟩ : ∃ b, b = a + ((Tt T r c).length : Int) := ⟨_, rfl⟩
  rw [← eb] at d3 d5
  have hchs : ∀ j, a ≤ j → j < b → chOK (m0 131 j) := by
    intro j q1 q2
    have := sl_at (m := m0) (x := 131) (a := a) (b := b) (k := (j - a).toNat) (by omega)
    rw [show a + (((j - a).toNat : Nat) : Int) = j by omega, d5] at this
    exact (hok _ (List.mem_of_getElem? this)).ch
  unfold cellS
  by_cases hm : missB T r c = true
  · rw [if_pos hm]
    refine Wr.nil.congr (fun m ha => ?_)
    unfold fM_sayCell
    rw [r_isNone wt (AgM.mt ha mt) h1 h2 h3 h4, if_pos hm]
    rfl
  · rw [if_neg hm]
    rw [if_neg hm] at d4
    have pre (m : aM) (ha : Ag oM m0 m) : fM_sayCell m r c = (if tyS T c = 3 then (if a = b then fM_sayCell_86 m c a b 1 a else (fM_isWhole m a b).bind fun v12 => if v12.1 = 0 then (fM_isDate v12.2 a b).bind fun v13 => (if v13.1 = 0 then fM_sayCell_86 v13.2 c a b 0 a else fM_sayCell_86 v13.2 c a b 1 a) else fM_sayCell_86 v12.2 c a b 1 a) else fM_sayCell_86 m c a b 0 a) := by
      have hmt := AgM.mt ha mt
      unfold fM_sayCell
      rw [r_isNone wt hmt h1 h2 h3 h4, if_neg hm]
      simp only [Option.bind_some, if_true]
      rw [w32_id (x := 6 * r) (by omega) (by omega), w32_id (x := 6 * r + c) (by omega) (by omega), gd_pos (by omega), gd_pos (by omega), (hmt.2.2.1 c h3 h4).2, AgM.row ha 134 (by decide) (by decide), AgM.row ha 135 (by decide) (by decide), ← ea, d4, ← eb, w32_id (x := b) (by omega) (by omega)]
    by_cases ht : tyS T c = 3
    · have use (q : aM) (hq : Fr scr q q) (x6 : Int) (hx : x6 = 0 ∨ x6 = 1) (hqa : Ag oM m0 q) : fM_sayCell_86 q c a b x6 a = fM_sayCell_169 q a b (if x6 = 1 ∨ (Tt T r c).any spc = true then 1 else 0) := by
        have hmt := AgM.mt hqa mt
        rw [r_86 (by omega) (by omega) (by omega) (by omega) hx (by rw [(hmt.2.2.1 c h3 h4).2, ht]), sl_row (AgM.row hqa 131 (by decide) (by decide)), d5]
      have w1 := wM_169 (m0 := m0) (a := a) (b := b) (x6 := 1) (by omega) (by omega) (by omega)
      rw [if_neg (show ¬ (1 : Int) = 0 by decide), d5] at w1
      have w0 := wM_169 (m0 := m0) (a := a) (b := b) (x6 := 0) (by omega) (by omega) (by omega)
      rw [if_pos (show (0 : Int) = 0 from rfl), d5] at w0
      by_cases hab : a = b
      · have hs : Tt T r c = [] := by rw [← d5]; exact sl_nil (by omega)
        rw [if_pos ⟨ht, by rw [hs]; rfl⟩]
        refine w1.congr (fun m ha => ?_)
        rw [pre m ha, if_pos ht, if_pos hab, use m Fr.rf 1 (Or.inr rfl) ha, if_pos (Or.inl rfl)]
      · have hemp : (Tt T r c).isEmpty = false := by rw [← d5, sl_empty]; exact decide_eq_false (by omega)
        intro m ha hm0 hr
        have hmS : sl m 131 a b = Tt T r c := by rw [sl_row (AgM.row ha 131 (by decide) (by decide)), d5]
        have hw := r_isWhole (m := m) (a := a) (b := b) (by omega) (by omega) (by omega)
        rw [hmS] at hw
        show ∃ m', fM_sayCell m r c = some m' ∧ _
        rw [pre m ha, if_pos ht, if_neg hab, hw]
        simp only [Option.bind_some]
        by_cases hwh : wholeS (Tt T r c) = true
        · have hnmk : nmk (Tt T r c) = true := by
            unfold nmk shapeS
            rw [if_pos hwh, hemp]
            simp
            left
            split <;> simp
          rw [if_pos hwh, if_neg (show ¬ (1 : Int) = 0 by decide)]
          rw [if_pos ⟨ht, hnmk⟩] at hr ⊢
          have hF : Fr scr m (mup m 130 20 (valS (Tt T r c))) := Fr.rf.up ⟨rfl, Or.inr rfl⟩
          obtain ⟨f1, f2, f3⟩ := hF.ag
          rw [use _ Fr.rf 1 (Or.inr rfl) (ha.tr f3), if_pos (Or.inl rfl)]
          obtain ⟨m', e, p⟩ := w1 (mup m 130 20 (valS (Tt T r c))) (ha.tr f3) (f1.symm ▸ hm0) (f1.symm ▸ hr)
          exact ⟨m', e, App.pre f1 f2 f3 p⟩
        · rw [if_neg hwh, if_pos rfl]
          have hchm : ∀ j, a ≤ j → j < b → chOK (m 131 j) := fun j q1 q2 => by rw [AgM.row ha 131 (by decide) (by decide)]; exact hchs j q1 q2
          obtain ⟨m1, e1, hF, -⟩ := r_isDate (m := m) (a := a) (b := b) (by omega) (by omega) (by omega) hchm
          rw [hmS] at e1
          rw [e1]
          simp only [Option.bind_some]
          obtain ⟨f1, f2, f3⟩ := hF.ag
          by_cases hd : dateS (Tt T r c) = true
          · have hnmk : nmk (Tt T r c) = true := by
              unfold nmk shapeS
              rw [if_neg hwh, if_pos hd, hemp]
              rfl
            rw [if_pos hd, if_neg (by decide)]
            rw [if_pos ⟨ht, hnmk⟩] at hr ⊢
            rw [use _ Fr.rf 1 (Or.inr rfl) (ha.tr f3), if_pos (Or.inl rfl)]
            obtain ⟨m', e, p⟩ := w1 m1 (ha.tr f3) (f1.symm ▸ hm0) (f1.symm ▸ hr)
            exact ⟨m', e, App.pre f1 f2 f3 p⟩
          · have hsh : shapeS (Tt T r c) = 3 := by unfold shapeS; rw [if_neg hwh, if_neg hd]
            have hnmk : nmk (Tt T r c) = (Tt T r c).any spc := by
              unfold nmk
              rw [hemp, hsh]
              rfl
            rw [if_neg hd, if_pos rfl, use _ Fr.rf 0 (Or.inl rfl) (ha.tr f3)]
            by_cases hany : (Tt T r c).any spc = true
            · have hc2 : tyS T c = 3 ∧ nmk (Tt T r c) = true := ⟨ht, by rw [hnmk]; exact hany⟩
              rw [if_pos hc2] at hr
              rw [if_pos (Or.inr hany), if_pos hc2]
              obtain ⟨m', e, p⟩ := w1 m1 (ha.tr f3) (f1.symm ▸ hm0) (f1.symm ▸ hr)
              exact ⟨m', e, App.pre f1 f2 f3 p⟩
            · have hpl : dbl (Tt T r c) = Tt T r c := dbl_plain (fun x hx e => hany (List.any_eq_true.mpr ⟨x, hx, decide_eq_true (Or.inr (Or.inl e))⟩))
              rw [hpl] at w0
              have hc2 : ¬ (tyS T c = 3 ∧ nmk (Tt T r c) = true) := fun h => hany (by rw [← hnmk]; exact h.2)
              rw [if_neg hc2] at hr
              rw [if_neg (show ¬ ((0 : Int) = 1 ∨ (Tt T r c).any spc = true) by simp [hany]), if_neg hc2]
              obtain ⟨m', e, p⟩ := w0 m1 (ha.tr f3) (f1.symm ▸ hm0) (f1.symm ▸ hr)
              exact ⟨m', e, App.pre f1 f2 f3 p⟩
    · have hty : tyS T c < 3 := by have := ty_rng (T := T) (c := c); omega
      have hsh := fit_shape (fit_ty wt h1 h2 (by simpa using hm) hty) hty
      have hpl : dbl (Tt T r c) = Tt T r c := dbl_plain (fun x hx e => by
        rcases shape_plain hsh x hx with h | h
        · have := dg_iff.mp h; omega
        · omega)
      rw [if_neg (fun h => ht h.1)]
      have w0 := wM_169 (m0 := m0) (a := a) (b := b) (x6 := 0) (by omega) (by omega) (by omega)
      rw [if_pos rfl, d5, hpl] at w0
      refine w0.congr (fun m ha => ?_)
      have hmt := AgM.mt ha mt
      rw [pre m ha, if_neg ht, r_86n (by omega) (by rw [(hmt.2.2.1 c h3 h4).2]; exact ht)]
/-- commas before all but the first -/
theorem rowL_eq {f : Int → List Int} {n : Int} (hn : 1 ≤ n) : cat (fun c => (if 0 < c then [44] else []) ++ f c) 0 n.toNat ++ [10] = rowL f n := by
  unfold rowL
  have key : ∀ (k : Nat) (i : Int), 0 ≤ i → i + (k : Int) = n → 1 ≤ k → cat (fun c => (if 0 < c then [44] else []) ++ f c) i k ++ [10] = (if 0 < i then [44] else []) ++ cat (fun c => f c ++ [if c + 1 < n then 44 else 10]) i k := by
    intro k
    induction k with
    | zero => intro i _ _ h; omega
    | succ k ih =>
      intro i h0 hi _
      show (((if 0 < i then [44] else []) ++ f i) ++ cat _ (i + 1) k) ++ [10] = (if 0 < i then [44] else []) ++ ((f i ++ [if i + 1 < n then 44 else 10]) ++ cat _ (i + 1) k)
      by_cases hk : k = 0
      · subst hk
        rw [if_neg (show ¬ i + 1 < n by omega)]
        show (((if 0 < i then [44] else []) ++ f i) ++ []) ++ [10] = (if 0 < i then [44] else []) ++ ((f i ++ [10]) ++ [])
        simp
      · rw [List.append_assoc, ih (i + 1) (by omega) (by omega) (by omega), if_pos (show 0 < i + 1 by omega), if_pos (show i + 1 < n by omega)]
        simp
  have := key n.toNat 0 (by omega) (by omega) (by omega)
  rw [if_neg (by decide), List.nil_append] at this
  exact this
theorem wM_names (wt : WT T) (mt : MT m0 T) (h1 : 1 ≤ Tn T) : Wr oM m0 (fun m => fM_sayNames m) (rowL (Tm T) (Tn T)) := by
  have w := wt.1
  have := Wr.loop (o := oM) (m0 := m0) (b := fM_sayNames_2_b) (l := fun c => (if 0 < c then [44] else []) ++ Tm T c) (le := [10]) (n := Tn T) (by omega) (by
    intro i h0 h1 m ha hm hr
    obtain ⟨n1, n2, n3, -⟩ := wt.2.2.2.1 i h0 h1
    have ww := wM_word (m0 := m0) (s := Tm T i) (fun c hc => by have := lo_iff.mp (n3 c hc); omega) (by omega)
    have w20 : ∀ q, Ag oM m0 q → 0 ≤ q 130 45 → q 130 45 + ((Tm T i).length : Int) ≤ 2000 → ∃ q', fM_sayNames_20 q i = some (Sum.inl (q', i + 1)) ∧ App oM q q' (Tm T i) := by
      intro q hq q0 q1
      obtain ⟨q', e, p⟩ := ww q hq q0 q1
      have e : fM_sayWord q (pk8 (Tm T i)) = some q' := e
      refine ⟨q', ?_, p⟩
      have hmt := AgM.mt hq mt
      unfold fM_sayNames_20
      rw [gd_pos (by omega), (hmt.2.2.1 i h0 h1).1, e, w32_id (by omega) (by omega)]
      rfl
    have hmt := AgM.mt ha mt
    unfold fM_sayNames_2_b
    simp only
    rw [hmt.1, if_pos h1]
    by_cases hi : 0 < i
    · simp only [if_pos hi] at hr ⊢
      rw [List.length_append] at hr
      have hr : m 130 45 + ((1 + (Tm T i).length : Nat) : Int) ≤ 2000 := hr
      have hm : 0 ≤ m 130 45 := hm
      obtain ⟨m1, e, p⟩ := wM_say (m0 := m0) (c := 44) m ha hm (show m 130 45 + 1 ≤ 2000 by omega)
      have e : fM_say m 44 = some m1 := e
      have p1 : m1 130 45 = m 130 45 + 1 := p.1
      obtain ⟨m2, e2, p2⟩ := w20 m1 (ha.tr p.2.2.2) (by omega) (by omega)
      rw [e]
      exact ⟨m2, e2, p.app p2⟩
    · simp only [if_neg hi] at hr ⊢
      exact w20 m ha hm hr) (by
    intro m ha hm hr
    have hmt := AgM.mt ha mt
    obtain ⟨m1, e, p⟩ := wM_say (m0 := m0) (c := 10) m ha hm hr
    have e : fM_say m 10 = some m1 := e
    refine ⟨m1, ?_, p⟩
    unfold fM_sayNames_2_b
    simp only
    rw [hmt.1, if_neg (by omega), e]
    rfl)
  exact this.to (rowL_eq h1)
theorem wM_row (wt : WT T) (mt : MT m0 T) (h1 : 1 ≤ Tn T) {r : Int} (r0 : 0 ≤ r) (r1 : r < Tr T) : Wr oM m0 (fun m => fM_sayRow m r) (rowL (cellS T r) (Tn T)) := by
  have w := wt.1
  have := Wr.loop (o := oM) (m0 := m0) (b := fM_sayRow_2_b r) (l := fun c => (if 0 < c then [44] else []) ++ cellS T r c) (le := [10]) (n := Tn T) (by omega) (by
    intro i h0 h1 m ha hm hr
    have ww := wM_cell wt mt r0 r1 h0 h1
    have w20 : ∀ q, Ag oM m0 q → 0 ≤ q 130 45 → q 130 45 + ((cellS T r i).length : Int) ≤ 2000 → ∃ q', fM_sayRow_20 q r i = some (Sum.inl (q', i + 1)) ∧ App oM q q' (cellS T r i) := by
      intro q hq q0 q1
      obtain ⟨q', e, p⟩ := ww q hq q0 q1
      have e : fM_sayCell q r i = some q' := e
      refine ⟨q', ?_, p⟩
      unfold fM_sayRow_20
      rw [e, w32_id (by omega) (by omega)]
      rfl
    have hmt := AgM.mt ha mt
    unfold fM_sayRow_2_b
    simp only
    rw [hmt.1, if_pos h1]
    by_cases hi : 0 < i
    · simp only [if_pos hi] at hr ⊢
      rw [List.length_append] at hr
      have hr : m 130 45 + ((1 + (cellS T r i).length : Nat) : Int) ≤ 2000 := hr
      have hm : 0 ≤ m 130 45 := hm
      obtain ⟨m1, e, p⟩ := wM_say (m0 := m0) (c := 44) m ha hm (show m 130 45 + 1 ≤ 2000 by omega)
      have e : fM_say m 44 = some m1 := e
      have p1 : m1 130 45 = m 130 45 + 1 := p.1
      obtain ⟨m2, e2, p2⟩ := w20 m1 (ha.tr p.2.2.2) (by omega) (by omega)
      rw [e]
      exact ⟨m2, e2, p.app p2⟩
    · simp only [if_neg hi] at hr ⊢
      exact w20 m ha hm hr) (by
    intro m ha hm hr
    have hmt := AgM.mt ha mt
    obtain ⟨m1, e, p⟩ := wM_say (m0 := m0) (c := 10) m ha hm hr
    have e : fM_say m 10 = some m1 := e
    refine ⟨m1, ?_, p⟩
    unfold fM_sayRow_2_b
    simp only
    rw [hmt.1, if_neg (by omega), e]
    rfl)
  exact this.to (rowL_eq h1)
end WM
