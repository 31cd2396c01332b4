/-! WRITING: cells and rows -/
theorem Wr.loopF {o : wO} {m0 : aM} {b : aM × Int → Option ((aM × Int) ⊕ aM)} {l : Int → List Int} {le : List Int} {a n : Int} (hn : a ≤ n ∧ n - a ≤ 1000)
    (hb : ∀ i, a ≤ i → i < n → ∀ m, Ag o m0 m → 0 ≤ m o.1 o.2.1 → m o.1 o.2.1 + ((l i).length : Int) ≤ o.2.2.2.1 → ∃ m', b (m, i) = some (Sum.inl (m', i + 1)) ∧ App o m m' (l i))
    (he : ∀ m, Ag o m0 m → 0 ≤ m o.1 o.2.1 → m o.1 o.2.1 + (le.length : Int) ≤ o.2.2.2.1 → ∃ m', b (m, n) = some (Sum.inr m') ∧ App o m m' le) : Wr o m0 (fun m => aLoop b FU (m, a)) (cat l a (n - a).toNat ++ le) := by
  have key : ∀ (k : Nat) (i : Int) (f : Nat), a ≤ i → i + (k : Int) = n → k < f → ∀ m, Ag o m0 m → 0 ≤ m o.1 o.2.1 → m o.1 o.2.1 + (((cat l i k) ++ le).length : Int) ≤ o.2.2.2.1 → ∃ m', aLoop b f (m, i) = some m' ∧ App o m m' (cat l i k ++ le) := by
    intro k
    induction k with
    | zero =>
      intro i f h0 hi hf m ha hm hr
      obtain ⟨f, rfl⟩ : ∃ g, f = g + 1 := ⟨f - 1, by omega⟩
      have hin : i = n := by omega
      subst hin
      obtain ⟨m', e, p⟩ := he m ha hm hr
      exact ⟨m', aL_end e, p⟩
    | succ k ih =>
      intro i f h0 hi hf m ha hm hr
      obtain ⟨f, rfl⟩ : ∃ g, f = g + 1 := ⟨f - 1, by omega⟩
      have hr' : m o.1 o.2.1 + (((l i ++ cat l (i + 1) k) ++ le).length : Int) ≤ o.2.2.2.1 := hr
      rw [List.append_assoc, List.length_append] at hr'
      obtain ⟨m1, e, p⟩ := hb i h0 (by omega) m ha hm (by omega)
      obtain ⟨m2, e2, p2⟩ := ih (i + 1) f (by omega) (by omega) (by omega) m1 (ha.tr p.2.2.2) (by rw [p.1]; omega) (by rw [p.1]; omega)
      refine ⟨m2, (aL_go e).trans e2, ?_⟩
      show App o m m2 ((l i ++ cat l (i + 1) k) ++ le)
      rw [List.append_assoc]
      exact p.app p2
  intro m ha hm hr
  exact key (n - a).toNat a FU (by omega) (by omega) (by show (n - a).toNat < 1000000; omega) m ha hm hr
theorem cat_sl {m : aM} {x : Int} {g : Int → List Int} : ∀ (k : Nat) (a b : Int), b - a = (k : Int) → cat (fun i => g (m x i)) a k = (sl m x a b).flatMap g := by
  intro k
  induction k with
  | zero => intro a b h; rw [sl_nil (by omega)]; rfl
  | succ k ih =>
    intro a b h
    rw [sl_cons (by omega)]
    show g (m x a) ++ cat _ (a + 1) k = g (m x a) ++ (sl m x (a + 1) b).flatMap g
    rw [ih (a + 1) b (by omega)]
def dbl1 (c : Int) : List Int := if c = 34 then [34, 34] else [c]
def dbl (s : List Int) : List Int := s.flatMap dbl1
def spc (c : Int) : Bool := decide (c = 44 ∨ c = 34 ∨ c = 10 ∨ c = 13)
/-- a text that wants marks -/
def nmk (s : List Int) : Bool := s.isEmpty || decide (shapeS s ≠ 3) || s.any spc
def cellS (T : Tb) (r c : Int) : List Int := if missB T r c then [] else if tyS T c = 3 ∧ nmk (Tt T r c) = true then 34 :: (dbl (Tt T r c) ++ [34]) else Tt T r c
theorem dbl_plain {s : List Int} (h : ∀ c ∈ s, c ≠ 34) : dbl s = s := by
  unfold dbl
  induction s with
  | nil => rfl
  | cons c r ih =>
    rw [List.flatMap_cons, ih (fun c hc => h c (List.mem_cons_of_mem _ hc))]
    unfold dbl1
    rw [if_neg (h c List.mem_cons_self)]
    rfl
theorem one_flat {s : List Int} : s.flatMap (fun c => [c]) = s := by
  induction s with
  | nil => rfl
  | cons c r ih => rw [List.flatMap_cons, ih]; rfl
/-- whole numbers and dates have no marks -/
theorem shape_plain {s : List Int} (h : shapeS s ≠ 3) : ∀ c ∈ s, dg c = true ∨ c = 45 := by
  unfold shapeS at h
  by_cases hw : wholeS s = true
  · unfold wholeS at hw
    by_cases h45 : s.head? = some 45
    · rw [if_pos h45] at hw
      have hd := (wbody_dg hw).1
      cases s with
      | nil => cases h45
      | cons c r =>
        cases h45
        intro x hx
        rcases List.mem_cons.mp hx with rfl | hx
        · exact Or.inr rfl
        · exact Or.inl (List.all_eq_true.mp hd x hx)
    · rw [if_neg h45] at hw
      exact fun x hx => Or.inl (List.all_eq_true.mp (wbody_dg hw).1 x hx)
  · rw [if_neg hw] at h
    by_cases hd : dateS s = true
    · unfold dateS at hd
      split at hd
      · rename_i a b c d h e f g i j
        simp only [Bool.and_eq_true, decide_eq_true_iff, List.all_cons, List.all_nil, Bool.and_true] at hd
        obtain ⟨⟨⟨h1, h2⟩, d1, d2, d3, d4, d5, d6, d7, d8⟩, -⟩ := hd
        intro x hx
        simp only [List.mem_cons, List.not_mem_nil, or_false] at hx
        rcases hx with rfl | rfl | rfl | rfl | rfl | rfl | rfl | rfl | rfl | rfl
        · exact Or.inl d1
        · exact Or.inl d2
        · exact Or.inl d3
        · exact Or.inl d4
        · exact Or.inr h1
        · exact Or.inl d5
        · exact Or.inl d6
        · exact Or.inr h2
        · exact Or.inl d7
        · exact Or.inl d8
      · cases hd
    · rw [if_neg hd] at h
      exact absurd rfl h
section WC
variable {m0 : aM} {T : Tb}
theorem AgC.row {m : aM} (h : Ag oC m0 m) (y : Int) (h1 : y ≠ 6) (h2 : y ≠ 7) : m y = m0 y := by
  funext j
  exact h y j (fun e => h1 e.1) h2 (fun e => e)
theorem AgC.ct {m : aM} (h : Ag oC m0 m) (ct : CT m0 T) : CT m T :=
  ct.of (by rw [AgC.row h 12 (by decide) (by decide)]) (by rw [AgC.row h 12 (by decide) (by decide)]) (by rw [AgC.row h 13 (by decide) (by decide)]) (AgC.row h 14 (by decide) (by decide)) (AgC.row h 15 (by decide) (by decide)) (AgC.row h 16 (by decide) (by decide)) (AgC.row h 17 (by decide) (by decide)) (AgC.row h 18 (by decide) (by decide)) (AgC.row h 19 (by decide) (by decide)) (AgC.row h 20 (by decide) (by decide))
/-- a stretch, its marks doubled or not -/
theorem wC_stretch (ct : CT m0 T) {a b d : Int} (ha : 0 ≤ a) (hab : a ≤ b) (hb : b ≤ m0 13 1) : Wr oC m0 (fun m => fT_addStretch m a b d 6) (if d = 0 then sl m0 14 a b else dbl (sl m0 14 a b)) := by
  have hK := ct.2.2.1
  have h7 := hK.1.2.2
  have h6 := hK.1.2.1
  obtain ⟨g, hg⟩ : ∃ g : Int → List Int, g = fun c => if d = 0 then [c] else dbl1 c := ⟨_, rfl⟩
  have := Wr.loopF (o := oC) (m0 := m0) (b := fT_addStretch_3_b b d 6) (l := fun i => g (m0 14 i)) (le := []) (a := a) (n := b) (by omega) (by
    intro i h0 h1 m hag hm hr
    have hct := AgC.ct hag ct
    have hKm := hct.2.2.1
    have e14 : m 14 = m0 14 := AgC.row hag 14 (by decide) (by decide)
    have e13 : m 13 1 = m0 13 1 := by rw [AgC.row hag 13 (by decide) (by decide)]
    have hat : fC_at m 13 i = some (m0 14 i) := by
      rw [at_eq hKm.1, ca_in (by omega) (by omega)]
      show some (m 14 i) = _
      rw [e14]
    have hch : 0 ≤ m0 14 i ∧ m0 14 i ≤ 255 := hK.2 i (by omega) (by omega)
    have one (q : aM) (hq : Ag oC m0 q) (q0 : 0 ≤ q 6 1) (q1 : q 6 1 + 1 ≤ 700) : ∃ q', fT_addStretch_34 q b d 6 i = some (Sum.inl (q', i + 1)) ∧ App oC q q' [m0 14 i] := by
      have hqK := (AgC.ct hq ct).2.2.1
      have f14 : q 14 = m0 14 := AgC.row hq 14 (by decide) (by decide)
      have f13 : q 13 1 = m0 13 1 := by rw [AgC.row hq 13 (by decide) (by decide)]
      obtain ⟨q', e, p⟩ := wC_add (m0 := m0) (c := m0 14 i) hch q hq q0 q1
      have e : fC_add q 6 (m0 14 i) = some q' := e
      refine ⟨q', ?_, p⟩
      unfold fT_addStretch_34
      rw [at_eq hqK.1, ca_in (by omega) (by omega)]
      show (fC_add q 6 (q 14 i)).bind _ = _
      rw [f14, e, w32_id (by omega) (by omega)]
      rfl
    unfold fT_addStretch_3_b
    simp only
    rw [if_pos h1]
    by_cases hd : d = 0
    · rw [if_pos hd]
      have eg : g (m0 14 i) = [m0 14 i] := by rw [hg]; exact if_pos hd
      rw [eg] at hr ⊢
      exact one m hag hm hr
    · rw [if_neg hd, hat]
      simp only [Option.bind_some]
      have eg : g (m0 14 i) = dbl1 (m0 14 i) := by rw [hg]; exact if_neg hd
      rw [eg] at hr ⊢
      unfold dbl1 at hr ⊢
      by_cases h34 : m0 14 i = 34
      · rw [if_pos h34] at hr ⊢
        rw [if_pos h34]
        obtain ⟨m1, e, p⟩ := wC_add (m0 := m0) (c := 34) (by decide) m hag hm (by have hr : m 6 1 + 2 ≤ 700 := hr; show m 6 1 + 1 ≤ 700; omega)
        have e : fC_add m 6 34 = some m1 := e
        have p1 : m1 6 1 = m 6 1 + 1 := p.1
        have hr : m 6 1 + 2 ≤ 700 := hr
        have hm : 0 ≤ m 6 1 := hm
        obtain ⟨m2, e2, p2⟩ := one m1 (hag.tr p.2.2.2) (by omega) (by omega)
        rw [e]
        simp only [Option.bind_some]
        rw [h34] at p2
        exact ⟨m2, e2, p.app p2⟩
      · rw [if_neg h34] at hr ⊢
        rw [if_neg h34]
        exact one m hag hm hr) (by
    intro m hag hm hr
    refine ⟨m, ?_, App.nil⟩
    unfold fT_addStretch_3_b
    simp only
    rw [if_neg (by omega)])
  refine this.to ?_
  rw [List.append_nil, cat_sl (g := g) _ a b (by omega), hg]
  by_cases hd : d = 0
  · simp only [if_pos hd]
    exact one_flat
  · simp only [if_neg hd]
    rfl
theorem c_needs (wt : WT T) {m : aM} (ct : CT m T) {r c : Int} (h1 : 0 ≤ r) (h2 : r < Tr T) (h3 : 0 ≤ c) (h4 : c < Tn T) : fT_needsMarks m ((r + 1) * Tn T + c) = some (if nmk (Tt T r c) then 1 else 0) := by
  have hk := cell_rng wt h1 h2 h3 h4
  have hK := ct.2.2.1
  have h7 := hK.1.2.2
  have h6 := hK.1.2.1
  obtain ⟨d1, d2, d3, d4, d5, d6, -⟩ := ct.2.2.2.2.1 r c h1 h2 h3 h4
  obtain ⟨k, ek⟩ : ∃ k, k = (r + 1) * Tn T + c := ⟨_, rfl⟩
  rw [← ek] at hk d1 d2 d3 d4 d5 d6 ⊢
  unfold fT_needsMarks nmk
  rw [gd_pos hk, d6]
  by_cases he : m 15 k = m 16 k
  · rw [if_pos he]
    have : Tt T r c = [] := by rw [← d4]; exact sl_nil (by omega)
    rw [this]
    rfl
  · rw [if_neg he]
    have hne : (Tt T r c).isEmpty = false := by
      rw [← d4, sl_empty]
      exact decide_eq_false (by omega)
    rw [hne, Bool.false_or]
    by_cases hs : shapeS (Tt T r c) = 3
    · rw [if_pos hs, show decide (shapeS (Tt T r c) ≠ 3) = false from decide_eq_false (fun h => h hs), Bool.false_or, ← d4]
      unfold fT_needsMarks_34
      refine (aLoop_eq (Inv := fun i : Int => m 15 k ≤ i ∧ i ≤ m 16 k ∧ (sl m 14 (m 15 k) (m 16 k)).any spc = (sl m 14 i (m 16 k)).any spc) (μ := fun i => (m 16 k - i).toNat) (F := fun i => if (sl m 14 (m 15 k) (m 16 k)).any spc = true then 1 else 0) ?_ FU (m 15 k) ⟨by omega, d2, rfl⟩ (by show (m 16 k - m 15 k).toNat < 1000000; omega)).trans rfl
      rintro i ⟨g1, g2, g3⟩
      unfold fT_needsMarks_34_b
      rw [gd_pos hk]
      by_cases hi : i < m 16 k
      · rw [if_pos hi, at_eq hK.1, ca_in (by omega) (by omega), show (13 : Int) + 1 = 14 from rfl]
        simp only [Option.bind_some]
        rw [sl_cons hi, List.any_cons] at g3
        have yes (h : spc (m 14 i) = true) : (sl m 14 (m 15 k) (m 16 k)).any spc = true := by rw [g3, h]; rfl
        by_cases q1 : m 14 i = 44
        · right; rw [if_pos q1, yes (decide_eq_true (Or.inl q1))]; rfl
        rw [if_neg q1]
        by_cases q2 : m 14 i = 34
        · right; rw [if_pos q2, yes (decide_eq_true (Or.inr (Or.inl q2)))]; rfl
        rw [if_neg q2]
        by_cases q3 : m 14 i = 10
        · right; rw [if_pos q3, yes (decide_eq_true (Or.inr (Or.inr (Or.inl q3))))]; rfl
        rw [if_neg q3]
        by_cases q4 : m 14 i = 13
        · right; rw [if_pos q4, yes (decide_eq_true (Or.inr (Or.inr (Or.inr q4))))]; rfl
        rw [if_neg q4]
        left
        have hno : spc (m 14 i) = false := decide_eq_false (by omega)
        rw [hno, Bool.false_or] at g3
        rw [w32_id (by omega) (by omega)]
        exact ⟨_, rfl, ⟨by omega, by omega, g3⟩, by omega, trivial⟩
      · right
        rw [if_neg hi]
        rw [sl_nil (by omega : m 16 k ≤ i)] at g3
        rw [g3]
        rfl
    · rw [if_neg hs, show decide (shapeS (Tt T r c) ≠ 3) = true from decide_eq_true hs]
      rfl
theorem wC_cell (wt : WT T) (ct : CT m0 T) {r c : Int} (h1 : 0 ≤ r) (h2 : r < Tr T) (h3 : 0 ≤ c) (h4 : c < Tn T) : Wr oC m0 (fun m => fT_writeCell m r c 6) (cellS T r c) := by
  have hk := cell_rng wt h1 h2 h3 h4
  obtain ⟨d1, d2, d3, d4, -⟩ := ct.2.2.2.2.1 r c h1 h2 h3 h4
  have w60 (d : Int) : Wr oC m0 (fun m => fT_writeCell_60 m 6 ((r + 1) * Tn T + c) d) (if d = 0 then Tt T r c else dbl (Tt T r c) ++ [34]) := by
    have ws := wC_stretch ct (d := d) d1 d2 d3
    rw [d4] at ws
    by_cases hd : d = 0
    · rw [if_pos hd] at ws ⊢
      refine ws.congr (fun m ha => ?_)
      unfold fT_writeCell_60
      rw [gd_pos hk, AgC.row ha 15 (by decide) (by decide), AgC.row ha 16 (by decide) (by decide)]
      cases fT_addStretch m (m0 15 ((r + 1) * Tn T + c)) (m0 16 ((r + 1) * Tn T + c)) d 6 with
      | none => rfl
      | some v =>
        show (if d = 0 then some v else (fC_add v 6 34).bind fun v6 => some v6) = some v
        rw [if_pos hd]
    · rw [if_neg hd] at ws ⊢
      refine (ws.seq (wC_add (m0 := m0) (c := 34) (by decide))).congr (fun m ha => ?_)
      unfold fT_writeCell_60
      rw [gd_pos hk, AgC.row ha 15 (by decide) (by decide), AgC.row ha 16 (by decide) (by decide)]
      cases fT_addStretch m (m0 15 ((r + 1) * Tn T + c)) (m0 16 ((r + 1) * Tn T + c)) d 6 with
      | none => rfl
      | some v => 
        show (if d = 0 then some v else (fC_add v 6 34).bind fun v6 => some v6) = fC_add v 6 34
        rw [if_neg hd]
        cases fC_add v 6 34 <;> rfl
  have w47n : Wr oC m0 (fun m => fT_writeCell_47 m 6 ((r + 1) * Tn T + c) 0) (Tt T r c) := by
    have := w60 0
    rw [if_pos rfl] at this
    exact this.congr (fun m _ => by unfold fT_writeCell_47; rw [if_pos rfl])
  have w47y : Wr oC m0 (fun m => fT_writeCell_47 m 6 ((r + 1) * Tn T + c) 1) (34 :: (dbl (Tt T r c) ++ [34])) := by
    have := w60 1
    rw [if_neg (by decide)] at this
    exact ((wC_add (m0 := m0) (c := 34) (by decide)).seq this).congr (fun m _ => by unfold fT_writeCell_47; rw [if_neg (by decide)])
  unfold cellS
  by_cases hm : missB T r c = true
  · rw [if_pos hm]
    refine Wr.nil.congr (fun m ha => ?_)
    have hct := AgC.ct ha ct
    unfold fT_writeCell
    rw [c_cellIn wt hct h1 h2 h3 h4, if_neg (by omega), c_gone wt hct h1 h2 h3 h4, if_pos hm]
    rfl
  · rw [if_neg hm]
    have pre (m : aM) (ha : Ag oC m0 m) : fT_writeCell m r c 6 = if tyS T c = 3 ∧ nmk (Tt T r c) = true then fT_writeCell_47 m 6 ((r + 1) * Tn T + c) 1 else fT_writeCell_47 m 6 ((r + 1) * Tn T + c) 0 := by
      have hct := AgC.ct ha ct
      unfold fT_writeCell
      rw [c_cellIn wt hct h1 h2 h3 h4, if_neg (by omega), c_gone wt hct h1 h2 h3 h4, if_neg hm, c_typeAt wt hct h3 h4, c_needs wt hct h1 h2 h3 h4]
      simp only [Option.bind_some, if_true]
      by_cases ht : tyS T c = 3
      · rw [if_pos ht]
        by_cases hn : nmk (Tt T r c) = true
        · rw [if_pos hn, if_neg (by decide), if_pos ⟨ht, hn⟩]
        · rw [if_neg hn, if_pos rfl, if_neg (fun h => hn h.2)]
      · rw [if_neg ht, if_neg (fun h => ht h.1)]
    by_cases hy : tyS T c = 3 ∧ nmk (Tt T r c) = true
    · rw [if_pos hy]
      exact w47y.congr (fun m ha => by rw [pre m ha, if_pos hy])
    · rw [if_neg hy]
      exact w47n.congr (fun m ha => by rw [pre m ha, if_neg hy])
theorem wC_name (wt : WT T) (ct : CT m0 T) {c : Int} (h3 : 0 ≤ c) (h4 : c < Tn T) : Wr oC m0 (fun m => fT_writeName m c 6) (Tm T c) := by
  obtain ⟨d1, d2, d3, d4⟩ := ct.2.2.2.1 c h3 h4
  have ws := wC_stretch ct (d := 0) d1 d2 d3
  rw [d4, if_pos rfl] at ws
  refine ws.congr (fun m ha => ?_)
  have hct := AgC.ct ha ct
  have := wt.1
  unfold fT_writeName fT_hasColumn
  rw [hct.1, if_neg (show ¬ c < 0 by omega), if_pos h4, if_neg (by decide), gd_pos (by omega), AgC.row ha 15 (by decide) (by decide), AgC.row ha 16 (by decide) (by decide)]
  cases fT_addStretch m (m0 15 c) (m0 16 c) 0 6 <;> rfl
/-- pieces with commas between, a line end behind -/
def rowL (f : Int → List Int) (n : Int) : List Int := cat (fun c => f c ++ [if c + 1 < n then 44 else 10]) 0 n.toNat
theorem wC_names (wt : WT T) (ct : CT m0 T) : Wr oC m0 (fun m => fT_writeNames m 6) (rowL (Tm T) (Tn T)) := by
  have w := wt.1
  have := Wr.loop (o := oC) (m0 := m0) (b := fT_writeNames_2_b 6) (l := fun c => Tm T c ++ [if c + 1 < Tn T then 44 else 10]) (le := []) (n := Tn T) (by omega) (by
    intro i h0 h1 m ha hm hr
    have hs := (wC_name wt ct h0 h1).seq (wC_add (m0 := m0) (c := if i + 1 < Tn T then 44 else 10) (by split <;> decide))
    obtain ⟨m', e, p⟩ := hs m ha hm hr
    refine ⟨m', ?_, p⟩
    have hct := AgC.ct ha ct
    unfold fT_writeNames_2_b
    simp only
    rw [hct.1, if_pos h1]
    simp only at e
    cases h : fT_writeName m i 6 with
    | none => rw [h] at e; cases e
    | some v =>
      rw [h] at e
      have e : fC_add v 6 (if i + 1 < Tn T then 44 else 10) = some m' := e
      have hv : Ag oC m0 v := by
        obtain ⟨v', e', p'⟩ := wC_name wt ct h0 h1 m ha hm (by rw [List.length_append] at hr; simp at hr ⊢; omega)
        have e' : fT_writeName m i 6 = some v' := e'
        rw [h] at e'
        cases e'
        exact ha.tr p'.2.2.2
      simp only [Option.bind_some]
      rw [(AgC.ct hv ct).1, w32_id (by omega) (by omega)]
      unfold fT_writeNames_34
      by_cases hl : i + 1 < Tn T
      · rw [if_pos hl] at e ⊢
        rw [e, w32_id (by omega) (by omega)]
        rfl
      · rw [if_neg hl] at e ⊢
        rw [e, w32_id (by omega) (by omega)]
        rfl) (by
    intro m ha hm hr
    refine ⟨m, ?_, App.nil⟩
    have hct := AgC.ct ha ct
    unfold fT_writeNames_2_b
    simp only
    rw [hct.1, if_neg (by omega)])
  exact this.to (List.append_nil _)
theorem wC_row (wt : WT T) (ct : CT m0 T) {r : Int} (r0 : 0 ≤ r) (r1 : r < Tr T) : Wr oC m0 (fun m => fT_writeRow m r 6) (rowL (cellS T r) (Tn T)) := by
  have w := wt.1
  have := Wr.loop (o := oC) (m0 := m0) (b := fT_writeRow_2_b r 6) (l := fun c => cellS T r c ++ [if c + 1 < Tn T then 44 else 10]) (le := []) (n := Tn T) (by omega) (by
    intro i h0 h1 m ha hm hr
    have hs := (wC_cell wt ct r0 r1 h0 h1).seq (wC_add (m0 := m0) (c := if i + 1 < Tn T then 44 else 10) (by split <;> decide))
    obtain ⟨m', e, p⟩ := hs m ha hm hr
    refine ⟨m', ?_, p⟩
    have hct := AgC.ct ha ct
    unfold fT_writeRow_2_b
    simp only
    rw [hct.1, if_pos h1]
    simp only at e
    cases h : fT_writeCell m r i 6 with
    | none => rw [h] at e; cases e
    | some v =>
      rw [h] at e
      have e : fC_add v 6 (if i + 1 < Tn T then 44 else 10) = some m' := e
      have hv : Ag oC m0 v := by
        obtain ⟨v', e', p'⟩ := wC_cell wt ct r0 r1 h0 h1 m ha hm (by rw [List.length_append] at hr; simp at hr ⊢; omega)
        have e' : fT_writeCell m r i 6 = some v' := e'
        rw [h] at e'
        cases e'
        exact ha.tr p'.2.2.2
      simp only [Option.bind_some]
      rw [(AgC.ct hv ct).1, w32_id (by omega) (by omega)]
      unfold fT_writeRow_35
      by_cases hl : i + 1 < Tn T
      · rw [if_pos hl] at e ⊢
        rw [e, w32_id (by omega) (by omega)]
        rfl
      · rw [if_neg hl] at e ⊢
        rw [e, w32_id (by omega) (by omega)]
        rfl) (by
    intro m ha hm hr
    refine ⟨m, ?_, App.nil⟩
    have hct := AgC.ct ha ct
    unfold fT_writeRow_2_b
    simp only
    rw [hct.1, if_neg (by omega)])
  exact this.to (List.append_nil _)
end WC
