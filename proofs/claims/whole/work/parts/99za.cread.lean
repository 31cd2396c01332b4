/-! ASK: reading: the class's steps -/
abbrev cqP (y j : Int) : Prop := (y = 21 ∧ 3 ≤ j ∧ j ≤ 5) ∨ y = 121
/-- tokens that the class has found -/
def Cx (c0 : aM) (T : Tb) (u : Int → Int) (n N : Int) : Prop := WT T ∧ SP c0 T u n N ∧ n ≤ 96
theorem cq_row {c0 c : aM} (f : Fr cqP c0 c) {y : Int} (h1 : y ≠ 21) (h2 : y ≠ 121) : c y = c0 y := by
  funext j
  refine f y j (fun e => ?_)
  rcases e with e | e
  · exact h1 e.1
  · exact h2 e
section
variable {c0 c : aM} {T : Tb} {u : Int → Int} {n N p : Int}
theorem Cx.tk (hx : Cx c0 T u n N) (p0 : 0 ≤ p) (pN : p ≤ N) : Tk T u n (c0 (24 + p)) := (hx.2.1.2.2.1 p p0 pN).2.2
theorem Cx.last (hx : Cx c0 T u n N) (pN : p ≤ N) (h6 : c0 (24 + p) 0 ≠ 6) : p < N := by
  rcases Int.lt_or_le p N with h | h
  · exact h
  · have : p = N := by omega
    rw [this] at h6
    exact absurd hx.2.1.2.2.2.2 h6
theorem Cx.N96 (hx : Cx c0 T u n N) : 0 ≤ N ∧ N ≤ 96 := by
  have := hx.2.1.2.1
  have := hx.2.2
  omega
theorem g_get (hx : Cx c0 T u n N) (f : Fr cqP c0 c) (p0 : 0 ≤ p) (pN : p ≤ N) : fS_get c p = some (24 + p) := by
  have h96 := hx.N96
  have e : c 22 1 = N := by rw [cq_row f (by decide) (by decide)]; exact hx.2.1.1
  unfold fS_get
  rw [if_neg (by omega), e]
  by_cases h : p < N
  · rw [if_pos h, gd_pos (by omega)]
  · rw [if_neg h, gd_pos (by omega), show p = N by omega]
theorem g_row (hx : Cx c0 T u n N) (f : Fr cqP c0 c) (p0 : 0 ≤ p) (pN : p ≤ N) : c (24 + p) = c0 (24 + p) := by
  have h96 := hx.N96
  exact cq_row f (by omega) (by omega)
/-- the class reads, at a place, and nothing was wrong -/
def CS (c0 c : aM) (N p : Int) : Prop := Fr cqP c0 c ∧ c 21 4 = p ∧ c 21 5 = -1 ∧ (0 ≤ p ∧ p ≤ N) ∧ 0 ≤ c 21 3
/-- something was wrong -/
def CW (c0 c : aM) (N w : Int) : Prop := Fr cqP c0 c ∧ (0 ≤ c 21 4 ∧ c 21 4 ≤ N) ∧ c 21 5 = w ∧ 0 ≤ c 21 3
theorem CS.go (h : CS c0 c N p) (hp : p < N) : CS c0 (mup c 21 4 (p + 1)) N (p + 1) := by
  obtain ⟨h1, h2, h3, h4, h5⟩ := h
  exact ⟨h1.up (Or.inl ⟨rfl, by omega⟩), mup_same _ _ _ _, by rw [mup_idx (by decide)]; exact h3, by omega, by rw [mup_idx (by decide)]; exact h5⟩
theorem CS.no (h : CS c0 c N p) (w : Int) : CW c0 (mup c 21 5 w) N w := by
  obtain ⟨h1, h2, h3, h4, h5⟩ := h
  exact ⟨h1.up (Or.inl ⟨rfl, by omega⟩), by rw [mup_idx (by decide)]; omega, mup_same _ _ _ _, by rw [mup_idx (by decide)]; exact h5⟩
theorem k_ok (hx : Cx c0 T u n N) (h : CS c0 c N p) {x : Int} : fQ_pass c x 1 = mup c 21 4 (p + 1) := by
  have h96 := hx.N96
  obtain ⟨h1, h2, h3, h4, h5⟩ := h
  unfold fQ_pass
  rw [if_pos h3, if_neg (by decide), h2, w32_id (by omega) (by omega)]
theorem k_no (hx : Cx c0 T u n N) (h : CS c0 c N p) : fQ_pass c (24 + p) 0 = mup c 21 5 (c0 (24 + p) 1) := by
  obtain ⟨h1, h2, h3, h4, h5⟩ := h
  unfold fQ_pass fQ_pass_25
  rw [if_pos h3, if_pos rfl, if_pos h3, g_row hx h1 h4.1 h4.2]
theorem k_take (hx : Cx c0 T u n N) (h : CS c0 c N p) {k : Int} : fQ_takeWord c k = some (if c0 (24 + p) 3 = k then (1, mup c 21 4 (p + 1)) else (0, c)) := by
  have ok := k_ok hx h (x := 24 + p)
  obtain ⟨h1, h2, h3, h4, h5⟩ := h
  unfold fQ_takeWord fQ_takeWord_33
  rw [h2, g_get hx h1 h4.1 h4.2]
  simp only [Option.bind_some]
  rw [if_pos h3, g_row hx h1 h4.1 h4.2]
  by_cases e : c0 (24 + p) 3 = k
  · rw [if_pos e, if_pos e, if_neg (by decide), gd_pos (by decide), ok]
  · rw [if_neg e, if_neg e, if_pos trivial, gd_pos (Or.inl trivial)]
theorem k_kind (hx : Cx c0 T u n N) (h : CS c0 c N p) {k : Int} : fQ_readKind c k = some (if c0 (24 + p) 0 = k then mup c 21 4 (p + 1) else mup c 21 5 (c0 (24 + p) 1)) := by
  have ok := k_ok hx h (x := 24 + p)
  have no := k_no hx h
  obtain ⟨h1, h2, h3, h4, h5⟩ := h
  unfold fQ_readKind fQ_readKind_27
  rw [h2, g_get hx h1 h4.1 h4.2]
  simp only [Option.bind_some]
  rw [g_row hx h1 h4.1 h4.2]
  by_cases e : c0 (24 + p) 0 = k
  · rw [if_pos e, if_pos e, ok]
  · rw [if_neg e, if_neg e, no]
theorem k_word (hx : Cx c0 T u n N) (h : CS c0 c N p) {k : Int} : fQ_readWord c k = some (if c0 (24 + p) 3 = k then mup c 21 4 (p + 1) else mup c 21 5 (c0 (24 + p) 1)) := by
  have ok := k_ok hx h (x := 24 + p)
  have no := k_no hx h
  obtain ⟨h1, h2, h3, h4, h5⟩ := h
  unfold fQ_readWord fQ_readWord_27
  rw [h2, g_get hx h1 h4.1 h4.2]
  simp only [Option.bind_some]
  rw [g_row hx h1 h4.1 h4.2]
  by_cases e : c0 (24 + p) 3 = k
  · rw [if_pos e, if_pos e, ok]
  · rw [if_neg e, if_neg e, no]
theorem k_sort (hx : Cx c0 T u n N) (h : CS c0 c N p) {k : Int} : fQ_readSort c k = some (if c0 (24 + p) 5 = k then mup c 21 4 (p + 1) else mup c 21 5 (c0 (24 + p) 1)) := by
  have ok := k_ok hx h (x := 24 + p)
  have no := k_no hx h
  obtain ⟨h1, h2, h3, h4, h5⟩ := h
  unfold fQ_readSort fQ_readSort_27
  rw [h2, g_get hx h1 h4.1 h4.2]
  simp only [Option.bind_some]
  rw [g_row hx h1 h4.1 h4.2]
  by_cases e : c0 (24 + p) 5 = k
  · rw [if_pos e, if_pos e, ok]
  · rw [if_neg e, if_neg e, no]
theorem k_name (hx : Cx c0 T u n N) (h : CS c0 c N p) {a : Int} : fQ_readName c a = some (c0 (24 + p) 4, if c0 (24 + p) 4 ≠ -1 ∧ (a = 0 ∨ c0 (24 + p) 5 = 1) then mup c 21 4 (p + 1) else mup c 21 5 (c0 (24 + p) 1)) := by
  have h96 := hx.N96
  have ok := k_ok hx h (x := 24 + p)
  have no := k_no hx h
  obtain ⟨h1, h2, h3, h4, h5⟩ := h
  have f1 : (mup c 21 4 (p + 1)) (24 + p) 4 = c0 (24 + p) 4 := by rw [mup_ref (by omega), g_row hx h1 h4.1 h4.2]
  have f2 : (mup c 21 5 (c0 (24 + p) 1)) (24 + p) 4 = c0 (24 + p) 4 := by rw [mup_ref (by omega), g_row hx h1 h4.1 h4.2]
  unfold fQ_readName fQ_readName_42
  rw [h2, g_get hx h1 h4.1 h4.2]
  simp only [Option.bind_some]
  rw [g_row hx h1 h4.1 h4.2, ok, no, f1, f2, show fK_sortOf 1 = 1 from rfl]
  by_cases e : c0 (24 + p) 4 = -1
  · rw [if_pos e, if_neg (fun g => g.1 e)]
  · rw [if_neg e]
    by_cases ea : a = 0
    · rw [if_pos ea, if_pos ⟨e, Or.inl ea⟩]
    · rw [if_neg ea]
      by_cases e5 : c0 (24 + p) 5 = 1
      · rw [if_pos e5, if_pos ⟨e, Or.inr e5⟩]
      · rw [if_neg e5, if_neg (fun g => by rcases g.2 with g | g; exact ea g; exact e5 g)]
theorem k_add {x : Int} (h0 : 0 ≤ c 21 3) (h1 : c 21 3 < 96) : fQ_addStep c x = some (mup (mup c 121 (c 21 3) x) 21 3 (c 21 3 + 1)) := by
  unfold fQ_addStep
  rw [if_pos h1, gd_pos ⟨h0, h1⟩, w32_id (by omega) (by omega)]
/-! once something was wrong, nothing changes that matters -/
variable {w : Int}
theorem w_pass (h : CW c0 c N w) (hw : 0 ≤ w) {x s : Int} : fQ_pass c x s = c := by
  obtain ⟨h1, h2, h3, h4⟩ := h
  unfold fQ_pass fQ_pass_25
  rw [if_neg (by omega), if_neg (by omega)]
theorem w_take (hx : Cx c0 T u n N) (h : CW c0 c N w) (hw : 0 ≤ w) {k : Int} : fQ_takeWord c k = some (0, c) := by
  obtain ⟨h1, h2, h3, h4⟩ := h
  unfold fQ_takeWord fQ_takeWord_33
  rw [g_get hx h1 h2.1 h2.2]
  simp only [Option.bind_some]
  rw [if_neg (by omega), if_pos trivial, gd_pos (Or.inl trivial)]
theorem w_kind (hx : Cx c0 T u n N) (h : CW c0 c N w) (hw : 0 ≤ w) {k : Int} : fQ_readKind c k = some c := by
  have ps {x s : Int} := w_pass h hw (x := x) (s := s)
  obtain ⟨h1, h2, h3, h4⟩ := h
  unfold fQ_readKind fQ_readKind_27
  rw [g_get hx h1 h2.1 h2.2]
  simp only [Option.bind_some, ps]
  split <;> rfl
theorem w_word (hx : Cx c0 T u n N) (h : CW c0 c N w) (hw : 0 ≤ w) {k : Int} : fQ_readWord c k = some c := by
  have ps {x s : Int} := w_pass h hw (x := x) (s := s)
  obtain ⟨h1, h2, h3, h4⟩ := h
  unfold fQ_readWord fQ_readWord_27
  rw [g_get hx h1 h2.1 h2.2]
  simp only [Option.bind_some, ps]
  split <;> rfl
theorem w_sort (hx : Cx c0 T u n N) (h : CW c0 c N w) (hw : 0 ≤ w) {k : Int} : fQ_readSort c k = some c := by
  have ps {x s : Int} := w_pass h hw (x := x) (s := s)
  obtain ⟨h1, h2, h3, h4⟩ := h
  unfold fQ_readSort fQ_readSort_27
  rw [g_get hx h1 h2.1 h2.2]
  simp only [Option.bind_some, ps]
  split <;> rfl
theorem w_name (hx : Cx c0 T u n N) (h : CW c0 c N w) (hw : 0 ≤ w) {a : Int} : ∃ d, fQ_readName c a = some (d, c) := by
  have ps {x s : Int} := w_pass h hw (x := x) (s := s)
  obtain ⟨h1, h2, h3, h4⟩ := h
  unfold fQ_readName fQ_readName_42
  rw [g_get hx h1 h2.1 h2.2]
  simp only [Option.bind_some, ps]
  split
  · exact ⟨_, rfl⟩
  · split
    · exact ⟨_, rfl⟩
    · split
      · exact ⟨_, rfl⟩
      · exact ⟨_, rfl⟩
theorem w_add (h : CW c0 c N w) {x : Int} : ∃ c', fQ_addStep c x = some c' ∧ CW c0 c' N w := by
  by_cases h96 : c 21 3 < 96
  · rw [k_add h.2.2.2 h96]
    obtain ⟨h1, h2, h3, h4⟩ := h
    refine ⟨_, rfl, (h1.up (Or.inr rfl)).up (Or.inl ⟨rfl, by omega⟩), ?_, ?_, ?_⟩
    · rw [mup_idx (by decide), mup_ref (by decide)]; exact h2
    · rw [mup_idx (by decide), mup_ref (by decide)]; exact h3
    · rw [mup_same]; omega
  · unfold fQ_addStep
    rw [if_neg h96]
    exact ⟨_, rfl, h⟩
theorem w_comp (hx : Cx c0 T u n N) (h : CW c0 c N w) (hw : 0 ≤ w) : ∃ c', fQ_readComparison c = some c' ∧ CW c0 c' N w := by
  obtain ⟨d, hd⟩ := w_name hx h hw (a := 0)
  unfold fQ_readComparison fQ_readComparison_51
  rw [hd]
  simp only [Option.bind_some]
  rw [w_take hx h hw]
  simp only [Option.bind_some]
  rw [if_pos trivial, w_kind hx h hw]
  simp only [Option.bind_some]
  rw [g_get hx h.1 h.2.1.1 h.2.1.2]
  simp only [Option.bind_some]
  rw [w_sort hx h hw]
  simp only [Option.bind_some]
  obtain ⟨c', e, g⟩ := w_add h (x := c 21 4)
  rw [e]
  exact ⟨c', rfl, g⟩
theorem w_all (hx : Cx c0 T u n N) (hw : 0 ≤ w) {g : aM → Int → Option aM} {d : Int} (hg : ∀ c, CW c0 c N w → ∃ c', g c d = some c' ∧ CW c0 c' N w) (h : CW c0 c N w) : ∃ c', fQ_readAll g c d = some c' ∧ CW c0 c' N w := by
  obtain ⟨c1, e1, h1⟩ := hg c h
  unfold fQ_readAll fQ_readAll_7
  rw [e1]
  refine ⟨c1, aL_end (n := 999999) ?_, h1⟩
  unfold fQ_readAll_7_b
  simp only
  rw [if_pos (by decide), w_take hx h1 hw]
  rfl
theorem w_cond (hx : Cx c0 T u n N) (hw : 0 ≤ w) {g : aM → Int → Option aM} {d : Int} (hg : ∀ c, CW c0 c N w → ∃ c', g c d = some c' ∧ CW c0 c' N w) (h : CW c0 c N w) : ∃ c', fQ_readCondition g c d = some c' ∧ CW c0 c' N w := by
  obtain ⟨c1, e1, h1⟩ := hg c h
  unfold fQ_readCondition fQ_readCondition_7
  rw [e1]
  refine ⟨c1, aL_end (n := 999999) ?_, h1⟩
  unfold fQ_readCondition_7_b
  simp only
  rw [if_pos (by decide), w_take hx h1 hw]
  rfl
end
theorem w_part {c0 : aM} {T : Tb} {u : Int → Int} {n N w : Int} (hx : Cx c0 T u n N) (hw : 0 ≤ w) : ∀ (f : Nat) (d : Int) (c : aM), CW c0 c N w → 0 ≤ d → d ≤ 8 → 9 ≤ (f : Int) + d → ∃ c', fRP f c d = some c' ∧ CW c0 c' N w
  | 0, d, c, h, d0, d8, hf => by omega
  | f + 1, d, c, h, d0, d8, hf => by
    show ∃ c', fQ_readPart (fRP f) (fQ_readCondition (fQ_readAll (fRP f))) c d = some c' ∧ CW c0 c' N w
    have cmp : ∃ c', fQ_readPart_76 (fRP f) (fQ_readCondition (fQ_readAll (fRP f))) c = some c' ∧ CW c0 c' N w := by
      obtain ⟨c1, e1, h1⟩ := w_comp hx h hw
      unfold fQ_readPart_76
      rw [e1]
      exact ⟨c1, rfl, h1⟩
    have c32 : ∃ c', fQ_readPart_32 (fRP f) (fQ_readCondition (fQ_readAll (fRP f))) c d = some c' ∧ CW c0 c' N w := by
      unfold fQ_readPart_32
      by_cases hd : d < 8
      · rw [if_pos hd, g_get hx h.1 h.2.1.1 h.2.1.2]
        simp only [Option.bind_some]
        by_cases h4 : c (24 + c 21 4) 0 = 4
        · rw [if_pos h4, w_kind hx h hw]
          simp only [Option.bind_some]
          rw [w32_id (by omega) (by omega)]
          obtain ⟨c1, e1, h1⟩ := w_cond hx hw (g := fQ_readAll (fRP f)) (d := d + 1) (fun c hc => w_all hx hw (fun c hc => w_part hx hw f (d + 1) c hc (by omega) (by omega) (by omega)) hc) h
          rw [e1]
          simp only [Option.bind_some]
          rw [w_kind hx h1 hw]
          exact ⟨c1, rfl, h1⟩
        · rw [if_neg h4]
          exact cmp
      · rw [if_neg hd]
        exact cmp
    unfold fQ_readPart
    by_cases hd : d < 8
    · rw [if_pos hd, w_take hx h hw]
      simp only [Option.bind_some]
      rw [if_pos trivial]
      exact c32
    · rw [if_neg hd]
      exact c32
