/-! ASK: comparing -/
section
variable {T : Tb} {m q : aM}
def zc (T : Tb) (r c r' c' : Int) : Int := if tyS T c = 3 then tc (Tt T r c) (Tt T r' c') else cmp3 (valS (Tt T r c)) (valS (Tt T r' c'))
theorem jg_eq {a b : Int} : fJG_compare a b = cmp3 a b := by
  unfold fJG_compare cmp3
  by_cases h : a < b
  · rw [if_pos h, if_pos (by decide)]
  · rw [if_neg h]
    by_cases e : a = b
    · rw [if_pos e, if_neg (by decide), if_pos rfl]
    · rw [if_neg e, if_neg (by decide), if_neg (by decide)]
theorem cv_eq {a b : Int} : fM_compareValues a b = sgn (cmp3 a b) := by
  unfold fM_compareValues sgn
  rfl
theorem val_ok (wt : WT T) (ct : CT m T) {r c : Int} (h1 : 0 ≤ r) (h2 : r < Tr T) (h3 : 0 ≤ c) (h4 : c < Tn T) (hm : missB T r c = false) (ht : tyS T c ≠ 3) : m 19 ((r + 1) * Tn T + c) = valS (Tt T r c) := by
  obtain ⟨-, -, -, -, d, -⟩ := ct
  obtain ⟨d1, d2, d3, d4, d5, d6, d7⟩ := d r c h1 h2 h3 h4
  have tr := ty_rng (T := T) (c := c)
  rw [d7, if_neg (fit_shape (fit_ty wt h1 h2 hm (by omega)) (by omega))]
theorem c_compareCells (wt : WT T) (ct : CT m T) {r c r' c' : Int} (h1 : 0 ≤ r) (h2 : r < Tr T) (h3 : 0 ≤ c) (h4 : c < Tn T) (h1' : 0 ≤ r') (h2' : r' < Tr T) (h3' : 0 ≤ c') (h4' : c' < Tn T) (hm : missB T r c = false) (hm' : missB T r' c' = false) (hs : tyS T c = 3 ↔ tyS T c' = 3) : fT_compareCells m r c r' c' = some (zc T r c r' c') := by
  have k1 := cell_rng wt h1 h2 h3 h4
  have k2 := cell_rng wt h1' h2' h3' h4'
  unfold fT_compareCells
  rw [c_cellIn wt ct h1 h2 h3 h4, c_cellIn wt ct h1' h2' h3' h4', if_neg (by omega), if_neg (by omega), c_typeAt wt ct h3 h4]
  simp only [Option.bind_some]
  unfold zc
  by_cases ht : tyS T c = 3
  · rw [if_pos ht, if_pos ht, gd_pos k1, gd_pos k2]
    obtain ⟨-, -, ck, -, d, -⟩ := ct
    obtain ⟨d1, d2, d3, d4, -⟩ := d r c h1 h2 h3 h4
    obtain ⟨e1, e2, e3, e4, -⟩ := d r' c' h1' h2' h3' h4'
    rw [c_compareWith ck ck d1 d2 d3 e1 e2 e3]
    simp only [Option.bind_some]
    rw [show (13 : Int) + 1 = 14 by decide, d4, e4]
  · rw [if_neg ht, if_neg ht, gd_pos k1, gd_pos k2, val_ok wt ct h1 h2 h3 h4 hm ht, val_ok wt ct h1' h2' h3' h4' hm' (fun e => ht (hs.mpr e)), jg_eq]
theorem r_chars (wt : WT T) (mt : MT q T) {r c : Int} (h1 : 0 ≤ r) (h2 : r < Tr T) (h3 : 0 ≤ c) (h4 : c < Tn T) : ∀ j, q 134 (6 * r + c) ≤ j → j < q 134 (6 * r + c) + ((Tt T r c).length : Int) → chOK (q 131 j) := by
  intro j j0 j1
  obtain ⟨-, -, -, d⟩ := mt
  obtain ⟨d1, d2, d3, d4, d5, d6⟩ := d r c h1 h2 h3 h4
  have := sl_has (m := q) (x := 131) j0 j1
  rw [d5] at this
  exact ((wt.2.2.2.2.2.1 r c h1 h2 h3 h4).2 _ this).ch
theorem r_compareCells (wt : WT T) (mt : MT q T) {r c r' c' : Int} (h1 : 0 ≤ r) (h2 : r < Tr T) (h3 : 0 ≤ c) (h4 : c < Tn T) (h1' : 0 ≤ r') (h2' : r' < Tr T) (h3' : 0 ≤ c') (h4' : c' < Tn T) (hm : missB T r c = false) (hm' : missB T r' c' = false) (hs : tyS T c = 3 ↔ tyS T c' = 3) : fM_compareCells q c r c' r' = some (sgn (zc T r c r' c')) := by
  have w1 := wt.1
  have w2 := wt.2.1
  have mt' := mt
  obtain ⟨-, -, nm, d⟩ := mt
  obtain ⟨d1, d2, d3, d4, d5, d6⟩ := d r c h1 h2 h3 h4
  obtain ⟨e1, e2, e3, e4, e5, e6⟩ := d r' c' h1' h2' h3' h4'
  have tr := ty_rng (T := T) (c := c)
  have tr' := ty_rng (T := T) (c := c')
  rw [hm] at d4 d6
  rw [hm'] at e4 e6
  unfold fM_compareCells
  rw [gd_pos (by omega), (nm c h3 h4).2, w32_id (x := 6 * r) (by omega) (by omega), w32_id (x := 6 * r + c) (by omega) (by omega), w32_id (x := 6 * r') (by omega) (by omega), w32_id (x := 6 * r' + c') (by omega) (by omega), gd_pos (by omega), gd_pos (by omega), gd_pos (by omega), gd_pos (by omega)]
  unfold zc
  by_cases ht : tyS T c = 3
  · rw [if_neg (by omega), if_pos ht, d4, e4, if_neg (by decide), if_neg (by decide), w32_id (by omega) (by omega), w32_id (by omega) (by omega), r_compareTexts (by omega) (by omega) (by omega) (by omega) (by omega) (by omega) (r_chars wt mt' h1 h2 h3 h4) (r_chars wt mt' h1' h2' h3' h4'), d5, e5]
    rfl
  · rw [if_pos (by omega), if_neg ht, d6 (by omega), e6 (by omega), if_neg (by decide), if_neg (by decide), cv_eq]
/-- rows by a column: what lacks a value comes first -/
def zr (T : Tb) (r r' k : Int) : Int := if missB T r k then (if missB T r' k then 0 else -1) else if missB T r' k then 1 else zc T r k r' k
theorem c_compareRows (wt : WT T) (ct : CT m T) {r r' k : Int} (h1 : 0 ≤ r) (h2 : r < Tr T) (h1' : 0 ≤ r') (h2' : r' < Tr T) (h3 : 0 ≤ k) (h4 : k < Tn T) : fT_compareRows m r r' k = some (zr T r r' k) := by
  unfold fT_compareRows fT_compareRows_26 zr
  rw [c_lacks wt ct h1 h2 h3 h4, c_lacks wt ct h1' h2' h3 h4]
  simp only [Option.bind_some]
  cases hm : missB T r k <;> cases hm' : missB T r' k
  · rw [c_compareCells wt ct h1 h2 h3 h4 h1' h2' h3 h4 hm hm' Iff.rfl]
    rfl
  · rfl
  · rfl
  · rfl
theorem tc_bd : ∀ {s t : List Int}, (∀ c ∈ s, chOK c) → (∀ c ∈ t, chOK c) → -(255 + (t.length : Int)) ≤ tc s t ∧ tc s t ≤ 255 + (s.length : Int)
  | [], t, _, _ => by rw [tc_nil_l]; simp only [List.length_nil]; omega
  | a :: s, [], _, _ => by rw [tc_nil_r]; simp only [List.length_nil]; omega
  | a :: s, b :: t, hs, ht => by
    have ih := tc_bd (s := s) (t := t) (fun c hc => hs c (List.mem_cons_of_mem _ hc)) (fun c hc => ht c (List.mem_cons_of_mem _ hc))
    have ha := hs a (List.mem_cons_self ..)
    have hb := ht b (List.mem_cons_self ..)
    unfold chOK at ha hb
    show _ ≤ (if a - b = 0 then tc s t else a - b) ∧ (if a - b = 0 then tc s t else a - b) ≤ _
    simp only [List.length_cons]
    split <;> omega
theorem sm_le {f : Nat → Int} (h : ∀ k, 0 ≤ f k) : ∀ (n k : Nat), k < n → f k ≤ sm f n
  | 0, k, hk => absurd hk (Nat.not_lt_zero _)
  | n + 1, k, hk => by
    have nn : ∀ j, 0 ≤ sm f j := fun j => by
      induction j with
      | zero => exact Int.le_refl 0
      | succ j ih => show 0 ≤ sm f j + f j; have := h j; omega
    show f k ≤ sm f n + f n
    by_cases e : k = n
    · rw [e]; have := nn n; omega
    · have := sm_le h n k (by omega)
      have := h n
      omega
theorem len_bd (wt : WT T) (mt : MT q T) {r c : Int} (h1 : 0 ≤ r) (h2 : r < Tr T) (h3 : 0 ≤ c) (h4 : c < Tn T) : ((Tt T r c).length : Int) ≤ 240 := by
  obtain ⟨-, -, -, d⟩ := mt
  obtain ⟨d1, d2, d3, -⟩ := d r c h1 h2 h3 h4
  omega
theorem zc_bd (wt : WT T) (mt : MT q T) {r r' k : Int} (h1 : 0 ≤ r) (h2 : r < Tr T) (h1' : 0 ≤ r') (h2' : r' < Tr T) (h3 : 0 ≤ k) (h4 : k < Tn T) : -1000 ≤ zc T r k r' k ∧ zc T r k r' k ≤ 1000 := by
  unfold zc
  have l1 := len_bd wt mt h1 h2 h3 h4
  have l2 := len_bd wt mt h1' h2' h3 h4
  split
  · have := tc_bd (s := Tt T r k) (t := Tt T r' k) (fun c hc => ((wt.2.2.2.2.2.1 r k h1 h2 h3 h4).2 c hc).ch) (fun c hc => ((wt.2.2.2.2.2.1 r' k h1' h2' h3 h4).2 c hc).ch)
    omega
  · unfold cmp3
    split
    · omega
    · split <;> omega
theorem zr_bd (wt : WT T) (mt : MT q T) {r r' k : Int} (h1 : 0 ≤ r) (h2 : r < Tr T) (h1' : 0 ≤ r') (h2' : r' < Tr T) (h3 : 0 ≤ k) (h4 : k < Tn T) : -1000 ≤ zr T r r' k ∧ zr T r r' k ≤ 1000 := by
  have := zc_bd wt mt h1 h2 h1' h2' h3 h4
  unfold zr
  split
  · split <;> omega
  · split <;> omega
theorem sgn_lt {z : Int} : sgn z < 0 ↔ z < 0 := by
  unfold sgn
  by_cases h : z < 0
  · rw [if_pos h]; omega
  · rw [if_neg h]
    split <;> omega
theorem sgn_gt {z : Int} : 0 < sgn z ↔ 0 < z := by
  unfold sgn
  by_cases h : z < 0
  · rw [if_pos h]; omega
  · rw [if_neg h]
    split <;> omega
theorem sgn_eq {z : Int} : sgn z = 0 ↔ z = 0 := by
  have h1 := sgn_lt (z := z)
  have h2 := sgn_gt (z := z)
  omega
theorem r_before (wt : WT T) (mt : MT q T) {r r' k f : Int} (h1 : 0 ≤ r) (h2 : r < Tr T) (h1' : 0 ≤ r') (h2' : r' < Tr T) (hk : q 130 47 = k) (hf : q 130 48 = f) (hr : k = -1 ∨ (0 ≤ k ∧ k < Tn T)) (h01 : f = 0 ∨ f = 1) : fM_isBefore q r r' = some (if k ≠ -1 ∧ (if f = 0 then 1 else -1) * zr T r r' k < 0 then 1 else 0) := by
  unfold fM_isBefore fM_isBefore_39 fM_isBefore_55
  rw [hk, hf]
  rcases hr with e | ⟨k0, k1⟩
  · rw [if_pos (by omega), if_neg (fun g => g.1 e)]
  rw [if_neg (by omega), r_isNone wt mt h1 h2 k0 k1, r_isNone wt mt h1' h2' k0 k1]
  simp only [Option.bind_some]
  have e0 : (k ≠ -1 ∧ (if f = 0 then 1 else -1) * zr T r r' k < 0) ↔ (if f = 0 then zr T r r' k < 0 else 0 < zr T r r' k) := by
    rcases h01 with e | e
    · rw [if_pos e, if_pos e]; omega
    · rw [if_neg (by omega), if_neg (by omega)]; omega
  have e1 : (if k ≠ -1 ∧ (if f = 0 then 1 else -1) * zr T r r' k < 0 then (1 : Int) else 0) = if (if f = 0 then zr T r r' k < 0 else 0 < zr T r r' k) then 1 else 0 := by
    by_cases g : k ≠ -1 ∧ (if f = 0 then 1 else -1) * zr T r r' k < 0
    · rw [if_pos g, if_pos (e0.mp g)]
    · rw [if_neg g, if_neg (fun x => g (e0.mpr x))]
  rw [e1]
  unfold zr
  cases hm : missB T r k <;> cases hm' : missB T r' k
  · rw [r_compareCells wt mt h1 h2 k0 k1 h1' h2' k0 k1 hm hm' Iff.rfl]
    simp only [Option.bind_some]
    rcases h01 with e | e
    · subst e
      rw [if_pos rfl]
      simp only [Bool.false_eq_true, if_false, if_true]
      by_cases z : zc T r k r' k < 0
      · rw [if_pos (sgn_lt.mpr z), if_pos z]
      · rw [if_neg (fun g => z (sgn_lt.mp g)), if_neg z]
    · subst e
      simp only [Bool.false_eq_true, if_false]
      by_cases z : 0 < zc T r k r' k
      · rw [if_pos (sgn_gt.mpr z)]
        simp [z]
      · rw [if_neg (fun g => z (sgn_gt.mp g))]
        simp [z]
  · rcases h01 with e | e <;> subst e <;> rfl
  · rcases h01 with e | e <;> subst e <;> rfl
  · rcases h01 with e | e <;> subst e <;> rfl
theorem r_line (wt : WT T) (mt : MT q T) {r x k : Int} (h1 : 0 ≤ r) (h2 : r < Tr T) (x0 : 0 ≤ x) (x1 : x < 16) (h1' : 0 ≤ q 151 x) (h2' : q 151 x < Tr T) (hk : q 130 39 = k) (k0 : 0 ≤ k) (k1 : k < Tn T) : fM_compareLine q r x = some (sgn (zr T r (q 151 x) k)) := by
  unfold fM_compareLine fM_compareLine_44 fM_compareLine_57
  rw [hk, if_neg (by omega), r_isNone wt mt h1 h2 k0 k1, r_isNone wt mt h1' h2' k0 k1]
  simp only [Option.bind_some]
  rw [gd_pos ⟨x0, x1⟩]
  unfold zr
  cases hm : missB T r k <;> cases hm' : missB T (q 151 x) k
  · rw [r_compareCells wt mt h1 h2 k0 k1 h1' h2' k0 k1 hm hm' Iff.rfl]
    rfl
  · rfl
  · rfl
  · rfl
/-! the outcomes of a sign -/
def hold (o z : Int) : Bool := if z < 0 then decide (o = 1 ∨ o = 3 ∨ o = 5) else if 0 < z then decide (o = 4 ∨ o = 5 ∨ o = 6) else decide (o = 2 ∨ o = 3 ∨ o = 6)
theorem bA_tab : ∀ o : Fin 7, (bAnd (o.val : Int) 1 = 0 ↔ ¬ (o.val = 1 ∨ o.val = 3 ∨ o.val = 5)) ∧ (bAnd (o.val : Int) 2 = 0 ↔ ¬ (o.val = 2 ∨ o.val = 3 ∨ o.val = 6)) ∧ (bAnd (o.val : Int) 4 = 0 ↔ ¬ (o.val = 4 ∨ o.val = 5 ∨ o.val = 6)) := by decide +kernel
theorem c_holds {x o z : Int} (h7 : m x 7 = o) (o1 : 1 ≤ o) (o6 : o ≤ 6) : fS_holds m x z = if hold o z then 1 else 0 := by
  have tb := bA_tab ⟨o.toNat, by omega⟩
  have eo : ((o.toNat : Nat) : Int) = o := by omega
  simp only [eo] at tb
  unfold fS_holds fS_holds_17 hold
  rw [h7]
  by_cases h : z < 0
  · rw [if_pos h, if_pos h]
    by_cases g : o = 1 ∨ o = 3 ∨ o = 5
    · rw [if_neg (fun e => tb.1.mp e (by omega)), decide_eq_true g, if_pos rfl]
    · rw [if_pos (tb.1.mpr (by omega)), decide_eq_false g]; rfl
  · rw [if_neg h, if_neg h]
    by_cases h' : 0 < z
    · rw [if_pos h', if_pos h']
      by_cases g : o = 4 ∨ o = 5 ∨ o = 6
      · rw [if_neg (fun e => tb.2.2.mp e (by omega)), decide_eq_true g, if_pos rfl]
      · rw [if_pos (tb.2.2.mpr (by omega)), decide_eq_false g]; rfl
    · rw [if_neg h', if_neg h']
      by_cases g : o = 2 ∨ o = 3 ∨ o = 6
      · rw [if_neg (fun e => tb.2.1.mp e (by omega)), decide_eq_true g, if_pos rfl]
      · rw [if_pos (tb.2.1.mpr (by omega)), decide_eq_false g]; rfl
theorem hold_tab : ∀ o : Fin 7, 1 ≤ o.val → (fM_holds (opN (o.val : Int)) (-1) = if hold (o.val : Int) (-1) then 1 else 0) ∧ (fM_holds (opN (o.val : Int)) 0 = if hold (o.val : Int) 0 then 1 else 0) ∧ (fM_holds (opN (o.val : Int)) 1 = if hold (o.val : Int) 1 then 1 else 0) := by decide +kernel
theorem r_holds {o z : Int} (o1 : 1 ≤ o) (o6 : o ≤ 6) : fM_holds (opN o) (sgn z) = if hold o z then 1 else 0 := by
  have tb := hold_tab ⟨o.toNat, by omega⟩ (by simp only; omega)
  have eo : ((o.toNat : Nat) : Int) = o := by omega
  simp only [eo] at tb
  have hs : hold o (sgn z) = hold o z := by
    unfold hold
    by_cases h : z < 0
    · rw [if_pos h, if_pos (sgn_lt.mpr h)]
    · rw [if_neg h, if_neg (fun e => h (sgn_lt.mp e))]
      by_cases h' : 0 < z
      · rw [if_pos h', if_pos (sgn_gt.mpr h')]
      · rw [if_neg h', if_neg (fun e => h' (sgn_gt.mp e))]
  rw [← hs]
  have : sgn z = -1 ∨ sgn z = 0 ∨ sgn z = 1 := by
    unfold sgn
    split
    · exact Or.inl rfl
    · split
      · exact Or.inr (Or.inr rfl)
      · exact Or.inr (Or.inl rfl)
  rcases this with e | e | e <;> rw [e]
  · exact tb.1
  · exact tb.2.1
  · exact tb.2.2
end
