/-! ASK: a comparison -/
abbrev srP (y j : Int) : Prop := (y = 130 ∧ (j = 26 ∨ j = 34)) ∨ (142 ≤ y ∧ y ≤ 149)
theorem st_cn {q q' : aM} (h : Fr srP q q') : Fr cnP q q' := h.wk (fun y j e => by
  rcases e with e | e
  · exact Or.inl ⟨e.1, by omega⟩
  · exact Or.inr e)
theorem rl_st {q q' : aM} (h : Fr rlP q q') : Fr srP q q' := h.wk (fun y j e => by
  rcases e with e | e
  · exact Or.inl e
  · exact Or.inr ⟨by omega, by omega⟩)
theorem RS.st {c0 q q' : aM} {T : Tb} {u : Int → Int} {n N p : Int} (h : RS c0 q T u n N p) (f : Fr srP q q') : RS c0 q' T u n N p :=
  ⟨h.1.fr (cn_aq (st_cn f)), h.2.1.of (fun j a b => f 130 j (fun e => by omega)), (f 130 25 (fun e => by omega)).trans h.2.2.1, h.2.2.2⟩
theorem ow {c0 q : aM} {T : Tb} {u : Int → Int} {n N p : Int} (hx : Cx c0 T u n N) (h : RS c0 q T u n N p) {k v : Int} (hv : pk8 (kS k) = v) (k0 : 1 ≤ k) (k1 : k ≤ 14) : fM_isWord q v = some (if c0 (24 + p) 3 = k then 1 else 0) := by
  rw [← hv]
  exact o_word h.1 h.2.1 (hx.tk h.2.2.2.1 h.2.2.2.2) k k0 k1
theorem owr {c0 q : aM} {T : Tb} {u : Int → Int} {n N p : Int} (hx : Cx c0 T u n N) (h : RS c0 q T u n N p) : fM_wrong q = (0, mup q 130 25 (c0 (24 + p) 1)) := o_wrong h.1 h.2.1 (hx.tk h.2.2.2.1 h.2.2.2.2) h.2.2.1
theorem onm {c0 q : aM} {T : Tb} {u : Int → Int} {n N p : Int} (hx : Cx c0 T u n N) (h : RS c0 q T u n N p) : fM_named q = some (c0 (24 + p) 4) := o_named hx.1 h.1 h.2.1 (hx.tk h.2.2.2.1 h.2.2.2.2)
/-- both found something wrong, at one place -/
def BAD (c0 q c' : aM) (N : Int) (r : Option (Int × aM)) : Prop := ∃ w q', 0 ≤ w ∧ CW c0 c' N w ∧ r = some (0, q') ∧ q' 130 25 = w ∧ Fr cnP q q'
theorem cmp_pair {c0 c q : aM} {T : Tb} {u : Int → Int} {n N p : Int} {L R : List Int} (hx : Cx c0 T u n N) (hc : CS c0 c N p) (hl : CL c L) (hr : RS c0 q T u n N p) (hq : RQ c0 N q R) (l1 : (L.length : Int) < 96) (l2 : (R.length : Int) < 100) :
    ∃ c', fQ_readComparison c = some c' ∧ ((∃ q', CS c0 c' N (p + 3) ∧ CL c' (p :: L) ∧ fM_comparison q = some (1, q') ∧ RS c0 q' T u n N (p + 3) ∧ RQ c0 N q' (p :: R) ∧ Fr cnP q q' ∧ q' 130 34 = q 130 34 ∧ q' 149 = q 149) ∨ BAD c0 q c' N (fM_comparison q)) := by
  have h96 := hx.N96
  have p0 := hc.2.2.2.1.1
  have pN := hc.2.2.2.1.2
  have hT := hx.tk p0 pN
  have so := o_sort hT
  have cp := hc.2.1
  unfold fQ_readComparison fQ_readComparison_51
  rw [k_name hx hc, cp]
  simp only [Option.bind_some]
  by_cases h4 : c0 (24 + p) 4 = -1
  · -- no column
    rw [if_neg (fun g => g.1 h4)]
    have hw := hc.no (c0 (24 + p) 1)
    have w0 := hT.1.1
    rw [w_take hx hw w0]
    simp only [Option.bind_some]
    rw [if_pos trivial, w_kind hx hw w0]
    simp only [Option.bind_some]
    rw [g_get hx hw.1 p0 pN]
    simp only [Option.bind_some]
    rw [w_sort hx hw w0]
    simp only [Option.bind_some]
    obtain ⟨c', e, g⟩ := w_add hw (x := p)
    rw [e]
    refine ⟨c', rfl, Or.inr ⟨_, _, w0, g, ?_, mup_same _ _ _ _, Fr.rf.up (Or.inl ⟨rfl, by omega⟩)⟩⟩
    unfold fM_comparison
    rw [onm hx hr, h4]
    simp only [Option.bind_some]
    rw [if_pos (by decide), owr hx hr, gd_pos (Or.inl rfl)]
  -- a column
  have s4 := so.1.resolve_left h4
  rw [if_pos ⟨h4, Or.inl trivial⟩]
  obtain ⟨q1, e1, hr1, f1, hp⟩ := s_next hx hr (by omega) (by omega)
  have hc1 := hc.go hp
  have hl1 : CL (mup c 21 4 (p + 1)) L := hl.of (mup_idx (by decide)) (row_up (by decide))
  have k26 : q1 130 26 = (R.length : Int) := by rw [f1 130 26 (fun e => by omega)]; exact hq.1
  obtain ⟨q2, eq2⟩ : ∃ q2, q2 = mup q1 143 (q1 130 26) (c0 (24 + p) 4) := ⟨_, rfl⟩
  have fs2 : Fr srP q1 q2 := by rw [eq2]; exact Fr.rf.up (Or.inr ⟨by decide, by decide⟩)
  have hr2 := hr1.st fs2
  have fq2 : Fr cnP q q2 := (nx_cn f1).tr (st_cn fs2)
  have hq2 : RQ c0 N q2 R := by
    refine ⟨by rw [eq2, mup_ref (by decide)]; exact k26, rst_of (fun y j a b d e => ?_) hq.2⟩
    rw [eq2, k26]
    by_cases hy : y = 143
    · subst hy
      rw [mup_idx (by omega), f1 143 j (fun e => by omega)]
    · rw [mup_ref hy, f1 y j (fun e => by omega)]
  have e143 : q2 143 (R.length : Int) = c0 (24 + p) 4 := by rw [eq2, k26, mup_same]
  have wt2 : q2 130 34 = q 130 34 ∧ q2 149 = q 149 := ⟨by rw [eq2, mup_ref (by decide), f1 130 34 (fun e => by omega)], by rw [eq2, row_up (by decide), nx_row f1 149 (by decide)]⟩
  have eM : fM_comparison q = (fM_isWord q2 29545).bind fun v4 => if v4 = 0 then (fM_operator q2).bind fun v5 => if v5 < 0 then gd ((fM_wrong q2).1 = 0 ∨ (fM_wrong q2).1 = 1) (some (((fM_wrong q2).1, (fM_wrong q2).2))) else (fM_next q2).bind fun v6 => (fM_named v6).bind fun v7 => if v7 < 0 then if v6 130 22 = 2 then fM_comparison_138 v6 (c0 (24 + p) 4) v5 v7 0 else if v6 130 22 = 3 then fM_comparison_138 v6 (c0 (24 + p) 4) v5 v7 1 else if v6 130 22 = 4 then fM_comparison_138 v6 (c0 (24 + p) 4) v5 v7 2 else fM_comparison_138 v6 (c0 (24 + p) 4) v5 v7 9 else gd (0 ≤ v7 ∧ v7 < 6) (fM_comparison_138 v6 (c0 (24 + p) 4) v5 v7 (fM_sortOf (v6 133 v7))) else (fM_next q2).bind fun v13 => (fM_passWord v13 1819047278).bind fun v14 => if v14.1 = 0 then some ((0, v14.2)) else (fM_addStep v14.2 1).bind fun v15 => some ((1, v15)) := by
    unfold fM_comparison
    rw [onm hx hr]
    simp only [Option.bind_some]
    rw [if_neg (by omega), e1]
    simp only [Option.bind_some]
    rw [gd_pos (by omega), ← eq2]
  have hp1 : p + 1 ≤ N := hr1.2.2.2.2
  have hT1 := hx.tk (p := p + 1) (by omega) hp1
  rw [eM, ow hx hr2 (k := 11) kS_pk.2.2.2.2.2.1 (by decide) (by decide), k_take hx hc1]
  simp only [Option.bind_some]
  by_cases h11 : c0 (24 + (p + 1)) 3 = 11
  · rw [if_pos h11, if_pos h11]
    simp only [Option.bind_some]
    rw [if_neg (by decide), if_neg (by decide)]
    have k1 := (o_res hx.1 hT1 (by omega)).2
    obtain ⟨q3, e3, hr3, f3, hp3⟩ := s_next hx hr2 (by omega) (by omega)
    have hc2 := hc1.go hp3
    rw [e3]
    simp only [Option.bind_some]
    rw [k_word hx hc2]
    simp only [Option.bind_some]
    have hp2 : p + 1 + 1 ≤ N := hr3.2.2.2.2
    have hT2 := hx.tk (p := p + 1 + 1) (by omega) hp2
    have fq3 : Fr cnP q q3 := fq2.tr (nx_cn f3)
    unfold fM_passWord
    rw [ow hx hr3 (k := 12) kS_pk.2.2.2.2.2.2.1 (by decide) (by decide)]
    simp only [Option.bind_some]
    by_cases h12 : c0 (24 + (p + 1 + 1)) 3 = 12
    · rw [if_pos h12, if_pos h12, if_neg (by decide)]
      have k2 := (o_res hx.1 hT2 (by omega)).2
      obtain ⟨q4, e4, hr4, f4, hp4⟩ := s_next hx hr3 (by omega) (by omega)
      have hc3 := hc2.go hp4
      rw [e4]
      simp only [Option.bind_some]
      rw [if_neg (by decide)]
      have hl3 : CL (mup (mup (mup c 21 4 (p + 1)) 21 4 (p + 1 + 1)) 21 4 (p + 1 + 1 + 1)) L := (hl1.of (mup_idx (by decide)) (row_up (by decide))).of (mup_idx (by decide)) (row_up (by decide))
      obtain ⟨c', ec, hc', hl'⟩ := k_push (x := p) hc3 hl3 l1
      rw [ec]
      refine ⟨c', rfl, Or.inl ?_⟩
      have k4 : q4 130 26 = (R.length : Int) := by rw [f4 130 26 (fun e => by omega), f3 130 26 (fun e => by omega)]; exact hq2.1
      rw [r_add (by omega) (by omega)]
      have fs5 : Fr srP q4 (mup (mup q4 142 (q4 130 26) 1) 130 26 (q4 130 26 + 1)) := (Fr.rf.up (Or.inr ⟨by decide, by decide⟩)).up (Or.inl ⟨rfl, Or.inl rfl⟩)
      have row4 (y : Int) (hy : y ≠ 130) : q4 y = q2 y := by rw [nx_row f4 y hy, nx_row f3 y hy]
      refine ⟨_, by rw [show p + 3 = p + 1 + 1 + 1 by omega]; exact hc', hl', rfl, by rw [show p + 3 = p + 1 + 1 + 1 by omega]; exact hr4.st fs5, ⟨?_, ?_, ?_⟩, (fq3.tr (nx_cn f4)).tr (st_cn fs5), ?_, ?_⟩
      · rw [mup_same, k4]; simp only [List.length_cons]; omega
      · right; right; right
        refine ⟨p0, by omega, s4.1, ?_, Or.inl ⟨h11, ?_⟩⟩
        · rw [mup_ref (by decide), mup_ref (by decide), row4 143 (by decide)]; exact e143
        · rw [mup_ref (by decide), k4, mup_same]
      · refine rst_of (fun y j a b d e => ?_) hq2.2
        rw [mup_ref (by omega), k4]
        by_cases hy : y = 142
        · subst hy
          rw [mup_idx (by omega), row4 142 (by decide)]
        · rw [mup_ref hy, row4 y (by omega)]
      · rw [mup_idx (by decide), mup_ref (by decide), f4 130 34 (fun e => by omega), f3 130 34 (fun e => by omega)]; exact wt2.1
      · rw [row_up (by decide), row_up (by decide), row4 149 (by decide)]; exact wt2.2
    · rw [if_neg h12, if_neg h12, if_pos rfl, owr hx hr3, gd_pos (Or.inl rfl)]
      have hw := hc2.no (c0 (24 + (p + 1 + 1)) 1)
      obtain ⟨c', e, g⟩ := w_add hw (x := p)
      rw [e]
      refine ⟨c', rfl, Or.inr ⟨_, _, hT2.1.1, g, ?_, mup_same _ _ _ _, fq3.up (Or.inl ⟨rfl, by omega⟩)⟩⟩
      simp only [Option.bind_some]
      rw [if_pos trivial]
  · rw [if_neg h11, if_neg h11]
    simp only [Option.bind_some]
    rw [if_pos trivial, if_pos trivial, k_kind hx hc1]
    simp only [Option.bind_some]
    have op := o_op hr2.1 hr2.2.1 hT1
    rw [op.1]
    simp only [Option.bind_some]
    by_cases h3 : c0 (24 + (p + 1)) 0 = 3
    · rw [if_pos h3, if_pos h3, if_neg (by unfold opN; split <;> first | decide | (split <;> first | decide | (split <;> first | decide | (split <;> first | decide | (split <;> decide)))))]
      obtain ⟨q3, e3, hr3, f3, hp3⟩ := s_next hx hr2 (by omega) (by omega)
      have hc2 := hc1.go hp3
      rw [e3]
      simp only [Option.bind_some]
      have hp2 : p + 1 + 1 ≤ N := hr3.2.2.2.2
      have hT2 := hx.tk (p := p + 1 + 1) (by omega) hp2
      have so2 := o_sort hT2
      have fq3 : Fr cnP q q3 := fq2.tr (nx_cn f3)
      rw [g_get hx hc2.1 p0 pN]
      simp only [Option.bind_some]
      rw [g_row hx hc2.1 p0 pN, k_sort hx hc2, onm hx hr3]
      simp only [Option.bind_some]
      -- the sort that the reference finds
      have e138 : (if c0 (24 + (p + 1 + 1)) 4 < 0 then if q3 130 22 = 2 then fM_comparison_138 q3 (c0 (24 + p) 4) (opN (c0 (24 + (p + 1)) 7)) (c0 (24 + (p + 1 + 1)) 4) 0 else if q3 130 22 = 3 then fM_comparison_138 q3 (c0 (24 + p) 4) (opN (c0 (24 + (p + 1)) 7)) (c0 (24 + (p + 1 + 1)) 4) 1 else if q3 130 22 = 4 then fM_comparison_138 q3 (c0 (24 + p) 4) (opN (c0 (24 + (p + 1)) 7)) (c0 (24 + (p + 1 + 1)) 4) 2 else fM_comparison_138 q3 (c0 (24 + p) 4) (opN (c0 (24 + (p + 1)) 7)) (c0 (24 + (p + 1 + 1)) 4) 9 else gd (0 ≤ c0 (24 + (p + 1 + 1)) 4 ∧ c0 (24 + (p + 1 + 1)) 4 < 6) (fM_comparison_138 q3 (c0 (24 + p) 4) (opN (c0 (24 + (p + 1)) 7)) (c0 (24 + (p + 1 + 1)) 4) (fM_sortOf (q3 133 (c0 (24 + (p + 1 + 1)) 4))))) = fM_comparison_138 q3 (c0 (24 + p) 4) (opN (c0 (24 + (p + 1)) 7)) (c0 (24 + (p + 1 + 1)) 4) (srM (c0 (24 + (p + 1 + 1)))) := by
        have wn := hx.1.1
        rcases so2.1 with g | g
        · rw [if_pos (by omega), ← (so2.2 g).2, hr3.2.1.1]
          by_cases a2 : kd22 (c0 (24 + (p + 1 + 1))) = 2
          · rw [if_pos a2, if_pos a2]
          rw [if_neg a2, if_neg a2]
          by_cases a3 : kd22 (c0 (24 + (p + 1 + 1))) = 3
          · rw [if_pos a3, if_pos a3]
          rw [if_neg a3, if_neg a3]
          by_cases a4 : kd22 (c0 (24 + (p + 1 + 1))) = 4
          · rw [if_pos a4, if_pos a4]
          rw [if_neg a4, if_neg a4]
        · rw [if_neg (by omega), gd_pos (by omega), (hr3.1.2.2.2.1 _ g.1 g.2.1).2, g.2.2.2.2.2]
      rw [e138]
      unfold fM_comparison_138
      have wn := hx.1.1
      rw [gd_pos (by omega), (hr3.1.2.2.2.1 _ s4.1 s4.2.1).2, s4.2.2.2.2.2]
      have key : srM (c0 (24 + (p + 1 + 1))) = srM (c0 (24 + p)) ↔ c0 (24 + (p + 1 + 1)) 5 = c0 (24 + p) 5 := by
        unfold srM
        rw [if_neg (show ¬ c0 (24 + p) 5 = -1 by omega)]
        by_cases g : c0 (24 + (p + 1 + 1)) 5 = -1
        · rw [if_pos g]; omega
        · rw [if_neg g]; omega
      by_cases h5 : c0 (24 + (p + 1 + 1)) 5 = c0 (24 + p) 5
      · rw [if_pos h5, if_pos (key.mpr h5)]
        have kk : c0 (24 + (p + 1 + 1)) 0 = 1 ∨ c0 (24 + (p + 1 + 1)) 0 = 2 := by
          rcases hT2.sum with ⟨a, -⟩ | ⟨a, b, d, e, f, -⟩
          · exact Or.inl a
          · right
            rcases Decidable.em (c0 (24 + (p + 1 + 1)) 0 = 2) with g | g
            · exact g
            · have := f g; omega
        have k3 : q3 130 26 = (R.length : Int) := by rw [f3 130 26 (fun e => by omega)]; exact hq2.1
        have to2 := hT2.to (by omega)
        have t2 := hT2.1
        have hn := hr3.1.1.2.2.1
        have rt := hr3.2.1
        rw [gd_pos (by omega), rt.2.1, (rt.2.2.1 (by omega)).1, w32_id (by omega) (by omega), w32_id (by omega) (by omega)]
        obtain ⟨q4, eq4⟩ : ∃ q4, q4 = mup (mup (mup (mup (mup q3 144 (q3 130 26) (opN (c0 (24 + (p + 1)) 7))) 145 (q3 130 26) (c0 (24 + (p + 1 + 1)) 4)) 146 (q3 130 26) (240 + c0 (24 + (p + 1 + 1)) 1 + 1)) 147 (q3 130 26) (240 + c0 (24 + (p + 1 + 1)) 2 - 1)) 148 (q3 130 26) (q3 130 20) := ⟨_, rfl⟩
        rw [← eq4]
        have f4 : Fr srP q3 q4 := by
          rw [eq4]
          exact ((((Fr.rf.up (Or.inr ⟨by decide, by decide⟩)).up (Or.inr ⟨by decide, by decide⟩)).up (Or.inr ⟨by decide, by decide⟩)).up (Or.inr ⟨by decide, by decide⟩)).up (Or.inr ⟨by decide, by decide⟩)
        have c130 (j : Int) : q4 130 j = q3 130 j := by
          rw [eq4, mup_ref (by decide), mup_ref (by decide), mup_ref (by decide), mup_ref (by decide), mup_ref (by decide)]
        have low (y j : Int) (hj : j ≠ (R.length : Int)) : q4 y j = q3 y j := by
          rw [eq4, k3, mup_idx hj, mup_idx hj, mup_idx hj, mup_idx hj, mup_idx hj]
        have k4 : q4 130 26 = (R.length : Int) := by rw [c130]; exact k3
        rw [r_add (by omega) (by omega)]
        simp only [Option.bind_some]
        obtain ⟨q5, eq5⟩ : ∃ q5, q5 = mup (mup q4 142 (q4 130 26) 0) 130 26 (q4 130 26 + 1) := ⟨_, rfl⟩
        rw [← eq5]
        have f5 : Fr srP q4 q5 := by
          rw [eq5]
          exact (Fr.rf.up (Or.inr ⟨by decide, by decide⟩)).up (Or.inl ⟨rfl, Or.inl rfl⟩)
        obtain ⟨q6, e6, hr6, f6, hp6⟩ := s_next hx ((hr3.st f4).st f5) (by omega) (by omega)
        rw [e6]
        have hc3 := hc2.go hp6
        have hl3 : CL (mup (mup (mup c 21 4 (p + 1)) 21 4 (p + 1 + 1)) 21 4 (p + 1 + 1 + 1)) L := (hl1.of (mup_idx (by decide)) (row_up (by decide))).of (mup_idx (by decide)) (row_up (by decide))
        obtain ⟨c', ec, hc', hl'⟩ := k_push (x := p) hc3 hl3 l1
        rw [ec]
        have row6 (y : Int) (hy : y ≠ 130) (hy2 : y ≠ 142) : q6 y = q4 y := by rw [nx_row f6 y hy, eq5, row_up hy, row_up hy2]
        have row3 (y : Int) (hy : y ≠ 130) : q3 y = q2 y := nx_row f3 y hy
        refine ⟨c', rfl, Or.inl ⟨q6, by rw [show p + 3 = p + 1 + 1 + 1 by omega]; exact hc', hl', rfl, by rw [show p + 3 = p + 1 + 1 + 1 by omega]; exact hr6, ⟨?_, ?_, ?_⟩, ((fq3.tr (st_cn f4)).tr (st_cn f5)).tr (nx_cn f6), ?_, ?_⟩⟩
        · rw [f6 130 26 (fun e => by omega), eq5, mup_same, k4]; simp only [List.length_cons]; omega
        · right; right; right
          refine ⟨p0, by omega, s4.1, ?_, Or.inr ⟨h11, ?_, h3, ?_, ?_, ?_, fun g4 => ⟨?_, ?_, fun g5 => ?_⟩⟩⟩
          · rw [row6 143 (by decide) (by decide), eq4, mup_ref (by decide), mup_ref (by decide), mup_ref (by decide), mup_ref (by decide), mup_ref (by decide), row3 143 (by decide)]; exact e143
          · rw [nx_row f6 142 (by decide), eq5, mup_ref (by decide), k4, mup_same]
          · rw [row6 144 (by decide) (by decide), eq4, mup_ref (by decide), mup_ref (by decide), mup_ref (by decide), mup_ref (by decide), k3, mup_same]
          · rw [show p + 2 = p + 1 + 1 by omega]; exact h5
          · rw [row6 145 (by decide) (by decide), eq4, mup_ref (by decide), mup_ref (by decide), mup_ref (by decide), k3, mup_same, show p + 2 = p + 1 + 1 by omega]
          · rw [row6 146 (by decide) (by decide), eq4, mup_ref (by decide), mup_ref (by decide), k3, mup_same, show p + 2 = p + 1 + 1 by omega]
          · rw [row6 147 (by decide) (by decide), eq4, mup_ref (by decide), k3, mup_same, show p + 2 = p + 1 + 1 by omega]
          · rw [show p + 2 = p + 1 + 1 by omega] at g4 g5 ⊢
            rw [row6 148 (by decide) (by decide), eq4, k3, mup_same]
            refine rt.2.2.2 ?_ g5
            rcases kk with k | k
            · rcases hT2.sum with ⟨a, a2, hW⟩ | ⟨a, -⟩
              · have := hW.2.2.2.2.2.2.2.2
                rw [if_pos g4] at this
                omega
              · exact absurd k a
            · exact k
        · refine rst_of (fun y j a b d e => ?_) hq2.2
          rw [nx_row f6 y (by omega), eq5, mup_ref (by omega), k4, mup_idx (by omega), low y j (by omega), row3 y (by omega)]
        · rw [f6 130 34 (fun e => by omega), eq5, mup_idx (by decide), mup_ref (by decide), c130, f3 130 34 (fun e => by omega)]; exact wt2.1
        · rw [row6 149 (by decide) (by decide), eq4, row_up (by decide), row_up (by decide), row_up (by decide), row_up (by decide), row_up (by decide), row3 149 (by decide)]; exact wt2.2
      · rw [if_neg h5, if_neg (fun g => h5 (key.mp g)), owr hx hr3, gd_pos (Or.inl rfl)]
        have hw := hc2.no (c0 (24 + (p + 1 + 1)) 1)
        obtain ⟨c', e, g⟩ := w_add hw (x := p)
        rw [e]
        exact ⟨c', rfl, Or.inr ⟨_, mup q3 130 25 (c0 (24 + (p + 1 + 1)) 1), hT2.1.1, g, rfl, mup_same _ _ _ _, fq3.up (Or.inl ⟨rfl, by omega⟩)⟩⟩
    · rw [if_neg h3, if_neg h3, if_pos (by decide), owr hx hr2, gd_pos (Or.inl rfl)]
      have hw := hc1.no (c0 (24 + (p + 1)) 1)
      have w0 := hT1.1.1
      rw [g_get hx hw.1 p0 pN]
      simp only [Option.bind_some]
      rw [w_sort hx hw w0]
      simp only [Option.bind_some]
      obtain ⟨c', e, g⟩ := w_add hw (x := p)
      rw [e]
      exact ⟨c', rfl, Or.inr ⟨_, mup q2 130 25 (c0 (24 + (p + 1)) 1), w0, g, rfl, mup_same _ _ _ _, fq2.up (Or.inl ⟨rfl, by omega⟩)⟩⟩
