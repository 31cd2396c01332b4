/-! ASK: the whole of it -/
abbrev xaP (y j : Int) : Prop := (y = 1 ∧ j = 7) ∨ (21 ≤ y ∧ y ≤ 129)
theorem xa_row {c c' : aM} (f : Fr xaP c c') {y : Int} (h1 : y ≠ 1) (h : ¬ (21 ≤ y ∧ y ≤ 129)) : c' y = c y := by
  funext j
  exact f y j (fun e => by omega)
theorem RR_nd {c0 : aM} {T : Tb} {u : Int → Int} {L : List Int} : (RR c0 T u L).Nodup := by
  unfold RR
  exact crow_nd
set_option linter.constructorNameAsVariable false in
theorem ask_pair {c q : aM} {T : Tb} {u : Int → Int} {n : Int} (wt : WT T) (ct : CT c T) (hq : QC c u n) (hE : EM q T u n) (t1 : 1 ≤ Tn T) :
    ∃ (kx : Nat) (x : Int) (c' : aM) (y : Int) (q' : aM), fX_ask c = some (kx, x, c') ∧ fM_ask q = some (y, q') ∧ (kx = 1 ∨ kx = 2 ∨ kx = 5) ∧ Fr xaP c c' ∧ Fr aqP q q' ∧ q' 130 0 = kd_ask kx ∧ c' 1 7 = q' 130 25 ∧ (kx = 1 → x = y) ∧ AX (mrg c' q') T := by
  have hn := hE.1.2.2.1
  -- tokens
  have f0 : Fr xaP c (mup c 123 0 0) := Fr.rf.up (Or.inr ⟨by decide, by decide⟩)
  obtain ⟨c1, N, e1, fs1, hS⟩ := c_split (c0 := mup c 123 0 0) wt (ct.row (fun y a b => row_up (by omega))) (hq.of (row_up (by decide)) (row_up (by decide)))
  have f1 : Fr xaP c c1 := f0.tr (fun y j h => by rw [fs1 y (fun e => h (Or.inr ⟨by omega, by omega⟩))])
  have hx : Cx c1 T u n N := ⟨wt, hS, hn.2⟩
  have z1 : c1 123 0 = 0 := by rw [fs1 123 (by decide), mup_same]
  obtain ⟨q1, eq1⟩ : ∃ q1, q1 = mup (mup (mup (mup q 130 0 0) 130 37 (-1)) 130 25 (-1)) 130 21 240 := ⟨_, rfl⟩
  have fq1 : Fr aqP q q1 := by
    rw [eq1]
    exact (((Fr.rf.up (Or.inl ⟨rfl, by omega⟩)).up (Or.inl ⟨rfl, by omega⟩)).up (Or.inl ⟨rfl, by omega⟩)).up (Or.inl ⟨rfl, by omega⟩)
  have hE1 := hE.fr fq1
  have hL0 := hS.2.2.1 0 (by omega) hS.2.1.1
  obtain ⟨q2, e2, rt2, fn2⟩ := r_next (q := q1) (i := 0) hE1.1 (by omega) (by rw [eq1, mup_same]; rfl) (by
    have e : st c1 0 = 0 := if_pos rfl
    rwa [e] at hL0)
  have fq2 : Fr aqP q q2 := fq1.tr (nx_aq fn2)
  have a0 : q2 130 0 = 0 := by rw [fn2 130 0 (fun e => by omega), eq1, mup_idx (by decide), mup_idx (by decide), mup_idx (by decide), mup_same]
  have a37 : q2 130 37 = -1 := by rw [fn2 130 37 (fun e => by omega), eq1, mup_idx (by decide), mup_idx (by decide), mup_same]
  have a25 : q2 130 25 = -1 := by rw [fn2 130 25 (fun e => by omega), eq1, mup_idx (by decide), mup_same]
  have hr : RS c1 q2 T u n N 0 := ⟨hE.fr fq2, rt2, a25, by omega, hS.2.1.1⟩
  -- reading
  obtain ⟨v, c2, r1, r2, hcase⟩ := p_read hx hr
  have f2 : Fr xaP c c2 := f1.tr (r2.wk (fun y j e => Or.inr (by omega)))
  have z2 : c2 123 0 = 0 := by rw [r2 123 0 (by decide)]; exact z1
  unfold fX_ask fM_ask
  rw [ct.1, if_neg (by omega), e1, hE.2.1, if_neg (by omega), ← eq1, e2]
  simp only [Option.bind_some]
  rw [r1]
  simp only [Option.bind_some]
  rcases hcase.symm with ⟨v0, q3, g1, g2, g3⟩ | ⟨v1, q3, g1, g2, g3, ⟨L, hl, hQ, hw, l96⟩, g5⟩
  · -- something is wrong
    rw [g1, if_neg (by omega)]
    simp only [Option.bind_some]
    rw [if_pos trivial]
    refine ⟨2, 0, _, 0, mup q3 130 0 2, rfl, rfl, Or.inr (Or.inl rfl), f2.up (Or.inl ⟨rfl, rfl⟩), (fq2.tr (qu_aq g3)).up (Or.inl ⟨rfl, Or.inl rfl⟩), mup_same _ _ _ _, ?_, fun h => absurd h (by decide), Or.inl ⟨?_, ?_⟩⟩
    · rw [mup_same, mup_idx (by decide)]; exact g2.symm
    · rw [mrg_c (by decide), mup_ref (by decide)]; exact z2
    · rw [mrg_q (by decide), mup_idx (by decide), g3 130 37 (fun e => by omega)]; exact a37
  rw [g1, v1]
  simp only [Option.bind_some]
  rw [if_pos trivial, if_neg (by decide)]
  have fq3 : Fr aqP q q3 := fq2.tr (qu_aq g2)
  have b0 : q3 130 0 = 0 := by rw [g2 130 0 (fun e => by omega)]; exact a0
  obtain ⟨m, em⟩ : ∃ m, m = mup c2 1 7 (-1) := ⟨_, rfl⟩
  rw [← em]
  have fm : Fr xaP c m := by rw [em]; exact f2.up (Or.inl ⟨rfl, rfl⟩)
  have m17 : m 1 7 = -1 := by rw [em, mup_same]
  have mr (y : Int) (h : y ≠ 1) : m y = c2 y := by rw [em, row_up h]
  have rwe : rwE c1 m := fun y a b => by
    rw [mr y (by omega)]
    funext j
    exact r2 y j (fun e => by omega)
  have hk : Ck m T u n N := ⟨hx.base rwe, ct.row (fun y a b => xa_row fm (by omega) (by omega)), hq.of (xa_row fm (by decide) (by decide)) (xa_row fm (by decide) (by decide))⟩
  have rwe2 : rwE c2 m := fun y a b => mr y (by omega)
  have h96 := hx.N96
  have hQm : RQ m N q3 L := hQ.base h96.2 rwe2
  have hlm : CL m L := hl.of (by rw [mr 21 (by decide)]) (mr 121 (by decide))
  obtain ⟨d1, d2, d3, d4, d5, d6, d7, d8⟩ := g3
  have m21 (j : Int) : m 21 j = c2 21 j := by rw [mr 21 (by decide)]
  -- choosing and sorting
  obtain ⟨B, c3, e3, f3, hB⟩ := c_choose hk (fun y _ => rfl) hlm hQm hw l96
  obtain ⟨c4, e4, f4, t41, t42, t43, t45, t4l⟩ := k_takeRows (m := c3) hB
  have Rl := RR_len (c0 := m) (T := T) (u := u) (L := L)
  have Rm : ∀ r ∈ RR m T u L, 0 ≤ r ∧ r < Tr T := fun r h => RR_mem h
  have Rn : (RR m T u L).Nodup := RR_nd
  obtain ⟨R, hR⟩ : ∃ R, RR m T u L = R := ⟨_, rfl⟩
  rw [hR] at t45 t4l Rl Rm Rn
  rw [e3]
  simp only [Option.bind_some]
  rw [e4]
  simp only [Option.bind_some]
  have c321 (j : Int) : c3 21 j = c2 21 j := by rw [f3 21 (by decide)]; exact m21 j
  have c421 (j : Int) : c4 21 j = c2 21 j := by rw [f4 21 j (fun e => by omega)]; exact c321 j
  rw [c321] at t41 t42 t43
  have fc4 : Fr xaP c c4 := (fm.tr (fun y j h => by rw [f3 y (fun e => h (Or.inr (by omega)))])).tr (f4.wk (fun y j e => Or.inr (by omega)))
  have ct4 : CT c4 T := ct.row (fun y a b => xa_row fc4 (by omega) (by omega))
  have hE3 : EM q3 T u n := hE.fr fq3
  have z4 : c4 123 0 = 0 := by rw [f4 123 0 (fun e => by omega), f3 123 (by decide), mr 123 (by decide)]; exact z2
  have s4 : c4 1 7 = -1 := by rw [f4 1 7 (fun e => by omega), f3 1 (by decide)]; exact m17
  obtain ⟨c5, e5, f5, l5⟩ := c_sort (f := c2 21 9) wt ct4 hE3.2 t43 d5 d6 t45 Rl Rm t4l
  rw [c421, e5]
  simp only [Option.bind_some]
  have fc5 : Fr xaP c c5 := fc4.tr (f5.wk (fun y j e => Or.inr (by omega)))
  have c5r (y j : Int) (h : y ≠ 124) : c5 y j = c4 y j := f5 y j h
  have ct5 : CT c5 T := ct.row (fun y a b => xa_row fc5 (by omega) (by omega))
  have slen : ((srt (lt0 T (c2 21 8) (c2 21 9)) (R)).length : Int) = ((R).length : Int) := by rw [(srt_perm _).length_eq]
  by_cases k1 : c2 21 6 = 1
  · -- rows
    obtain ⟨x1, x2⟩ := d3 k1
    rw [if_pos (show q3 130 38 = 0 by omega)]
    obtain ⟨q4, e6, f6, h37, l6⟩ := r_rows hk.1 hE3 hQm hw l96 x1 x2 d5 d6
    rw [hR] at h37 l6
    rw [e6]
    have e7 : fA_putTogether c5 = some (1, mup c5 123 4 (c5 123 5)) := by
      unfold fA_putTogether
      rw [c5r 123 1 (by decide), t41, if_pos k1]
    rw [e7]
    simp only [Option.bind_some]
    rw [if_neg (by decide)]
    refine ⟨1, _, _, _, q4, rfl, rfl, Or.inl rfl, (fc5.up (Or.inr ⟨by decide, by decide⟩)).up (Or.inr ⟨by decide, by decide⟩), fq3.tr (cr_aq f6), ?_, ?_, fun _ => ?_, ?_⟩
    · rw [f6 130 0 (fun e => by omega)]; exact b0
    · rw [mup_ref (by decide), mup_ref (by decide), c5r 1 7 (by decide), s4, f6 130 25 (fun e => by omega)]; exact g5.symm
    · rw [mup_same, c5r 123 5 (by decide), t45]; exact h37.symm
    · refine ax_rows t1 (mup_same _ _ _ _) ?_ ?_ ?_ ?_ ?_ ((srt_perm (lt := lt0 T (c2 21 8) (c2 21 9)) R).nodup_iff.mpr Rn) (fun r h => Rm r ((srt_perm _).mem_iff.mp h)) (lst_of (fun j _ _ => by rw [mup_ref (by decide), mup_ref (by decide)]) l5) l6
      · rw [mup_idx (by decide), mup_idx (by decide), c5r 123 1 (by decide), t41]; exact k1
      · rw [mup_idx (by decide), mup_same, c5r 123 5 (by decide), t45, slen]
      · rw [h37, slen]
      · rw [f6 130 38 (fun e => by omega)]; omega
      · rw [slen]; exact Rl
  · -- groups
    have kd2 : 2 ≤ c2 21 6 ∧ c2 21 6 ≤ 5 := by omega
    obtain ⟨x1, x2⟩ := d4 kd2.1
    rw [x2] at l5
    rw [if_neg (show ¬ q3 130 38 = 0 by omega)]
    obtain ⟨o, q4, e6, f6, h6⟩ := r_agg (kd := c2 21 6) (c := c2 21 7) (k := c2 21 8) hk.1 hE3 hQm hw l96 kd2 d2 x1 d5 d7 d8
    rw [hR] at h6
    obtain ⟨o', c6, e7, f7, h7⟩ := c_put (kd := c2 21 6) (c := c2 21 7) (k := c2 21 8) (R := R) wt ct5 (by rw [c5r 123 1 (by decide)]; exact t41) (by rw [c5r 123 2 (by decide)]; exact t42) (by rw [c5r 123 3 (by decide)]; exact t43) d5 kd2 (fun h => (d7 h).2) d8 (by rw [c5r 123 5 (by decide)]; exact t45) Rl l5 Rm
    rw [e6, e7]
    simp only [Option.bind_some]
    have fc6 : Fr xaP c c6 := fc5.tr (f7.wk (fun y j e => Or.inr (by omega)))
    have fq4 : Fr aqP q q4 := fq3.tr (ag_aq f6)
    have z6 : c6 123 0 = 0 := by rw [f7 123 0 (fun e => by omega), c5r 123 0 (by decide)]; exact z4
    have s6 : c6 1 7 = -1 := by rw [f7 1 7 (fun e => by omega), c5r 1 7 (by decide)]; exact s4
    have b25 : q4 130 25 = -1 := by rw [f6 130 25 (fun e => by omega)]; exact g5
    have b00 : q4 130 0 = 0 := by rw [f6 130 0 (fun e => by omega)]; exact b0
    have gl : ((gpp T (c2 21 8) (R)).length : Int) ≤ 16 ∧ (gpp T (c2 21 8) (R)).flatten.Nodup ∧ ∀ g ∈ gpp T (c2 21 8) (R), (g.length : Int) ≤ 16 ∧ ∀ r ∈ g, 0 ≤ r ∧ r < Tr T := by
      have rl := Rl
      unfold gpp
      by_cases kk : c2 21 8 = -1
      · rw [if_pos kk]
        refine ⟨by simp, ?_, fun g hg => ?_⟩
        · rw [List.flatten_cons, List.flatten_nil, List.append_nil]; exact Rn
        · rw [List.mem_singleton.mp hg]
          exact ⟨rl, Rm⟩
      · rw [if_neg kk]
        have pm := grp_perm (T := T) (k := c2 21 8) kk (R)
        have := GW_len (grp_ok (T := T) (k := c2 21 8) (R))
        have pl := pm.length_eq
        refine ⟨by omega, pm.nodup_iff.mpr Rn, fun g hg => ⟨?_, fun r h => Rm r (pm.mem_iff.mp (List.mem_flatten.mpr ⟨g, hg, h⟩))⟩⟩
        have := len_mem hg
        omega
    -- what class and reference say is one
    have no3 (h : c2 21 6 = 3) (g : List Int) (hg : g ∈ gpp T (c2 21 8) (R)) (hs : sumG T (c2 21 7) g = none) (hl : clns T (c2 21 6) (c2 21 7) c6 0 (gpp T (c2 21 8) (R))) : False := by
      have key : ∀ (gs : List (List Int)) (x : Int), clns T (c2 21 6) (c2 21 7) c6 x gs → g ∈ gs → False := by
        intro gs
        induction gs with
        | nil => exact fun _ _ h => nomatch h
        | cons g0 gs ih =>
          intro x hc hm
          rcases List.mem_cons.mp hm with e | e
          · obtain ⟨s, b, s1, -⟩ := hc.1.2.2.2.1 h
            rw [← e, hs] at s1
            exact nomatch s1
          · exact ih (x + 1) hc.2 e
      exact key _ 0 hl hg
    have no3' (h : c2 21 6 = 3) (g : List Int) (hg : g ∈ gpp T (c2 21 8) (R)) (hs : sumG T (c2 21 7) g = none) (hl : LNS T (c2 21 6) (c2 21 7) (c2 21 8) q4 (R)) : False := by
      unfold gpp at hg
      by_cases kk : c2 21 8 = -1
      · rw [if_pos kk] at hg
        obtain ⟨s, b, s1, -⟩ := (hl.1 kk).2.2.1 h
        rw [← List.mem_singleton.mp hg, hs] at s1
        exact nomatch s1
      · rw [if_neg kk] at hg
        have key : ∀ (gs : List (List Int)) (x : Int), lns T (c2 21 6) (c2 21 7) q4 x gs → g ∈ gs → False := by
          intro gs
          induction gs with
          | nil => exact fun _ _ h => nomatch h
          | cons g0 gs ih =>
            intro x hc hm
            rcases List.mem_cons.mp hm with e | e
            · obtain ⟨s, b, s1, -⟩ := hc.1.2.1 h
              rw [← e, hs] at s1
              exact nomatch s1
            · exact ih (x + 1) hc.2.2 e
        exact key _ 0 (hl.2 kk).2 hg
    rcases h7 with ⟨o0, k3, g, hg, hs⟩ | ⟨o1, n4, hcl⟩
    · rcases h6 with ⟨p0, -⟩ | ⟨p1, hln⟩
      · rw [o0, p0, if_pos rfl, if_pos rfl]
        refine ⟨5, 0, c6, 0, mup (mup q4 130 37 (-1)) 130 0 3, rfl, rfl, Or.inr (Or.inr rfl), fc6, (fq4.up (Or.inl ⟨rfl, by omega⟩)).up (Or.inl ⟨rfl, Or.inl rfl⟩), mup_same _ _ _ _, ?_, fun h => absurd h (by decide), Or.inl ⟨?_, ?_⟩⟩
        · rw [s6, mup_idx (by decide), mup_idx (by decide), b25]
        · rw [mrg_c (by decide)]; exact z6
        · rw [mrg_q (by decide), mup_idx (by decide), mup_same]
      · exact (no3' k3 g hg hs hln).elim
    · rcases h6 with ⟨p0, k3, g, hg, hs⟩ | ⟨p1, hln⟩
      · exact (no3 k3 g hg hs hcl).elim
      · rw [o1, p1, if_neg (by decide), if_neg (by decide)]
        have nq : q4 130 37 = ((gpp T (c2 21 8) (R)).length : Int) := by
          unfold gpp
          by_cases kk : c2 21 8 = -1
          · rw [if_pos kk, (hln.1 kk).1]; rfl
          · rw [if_neg kk, (hln.2 kk).1]
        refine ⟨1, _, mup c6 123 0 1, _, q4, rfl, rfl, Or.inl rfl, fc6.up (Or.inr ⟨by decide, by decide⟩), fq4, b00, ?_, fun _ => ?_, ?_⟩
        · rw [mup_ref (by decide), s6, b25]
        · rw [n4, nq]
        · have hbl : bl T (c2 21 6) (c2 21 7) (c2 21 8) (mup c6 123 0 1) q4 0 (gpp T (c2 21 8) (R)) := by
            have hcl' : clns T (c2 21 6) (c2 21 7) (mup c6 123 0 1) 0 (gpp T (c2 21 8) (R)) := clns_of (fun y j a b _ _ => by rw [mup_ref (by omega)]) hcl
            unfold gpp at hcl' ⊢
            by_cases kk : c2 21 8 = -1
            · rw [if_pos kk] at hcl' ⊢
              exact ⟨⟨hcl'.1, (hln.1 kk).2, fun h => absurd kk h⟩, trivial⟩
            · rw [if_neg kk] at hcl' ⊢
              exact bl_mk (grp_ok _) hcl' (hln.2 kk).2
          refine ax_groups t1 kd2 (mup_same _ _ _ _) ?_ ?_ ?_ ?_ nq ?_ ?_ (fun h => ?_) d5 gl.1 gl.2.1 gl.2.2 hbl
          · rw [mup_idx (by decide), f7 123 1 (fun e => by omega), c5r 123 1 (by decide)]; exact t41
          · rw [mup_idx (by decide), f7 123 2 (fun e => by omega), c5r 123 2 (by decide)]; exact t42
          · rw [mup_idx (by decide), f7 123 3 (fun e => by omega), c5r 123 3 (by decide)]; exact t43
          · rw [mup_idx (by decide)]; exact n4
          · rw [f6 130 38 (fun e => by omega)]; exact d2
          · rw [f6 130 39 (fun e => by omega)]; exact x1
          · rw [f6 130 40 (fun e => by omega)]; exact d7 h
