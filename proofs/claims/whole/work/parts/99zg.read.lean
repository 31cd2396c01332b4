/-! ASK: a whole question: its beginning -/
section
variable {T : Tb} {u : Int → Int} {n N : Int}
theorem osg {c0 q : aM} {p : Int} (hx : Cx c0 T u n N) (h : RS c0 q T u n N p) : fM_isSign q 40 = some (if c0 (24 + p) 0 = 4 then 1 else 0) ∧ fM_isSign q 41 = some (if c0 (24 + p) 0 = 5 then 1 else 0) := o_sign h.1 h.2.1 (hx.tk h.2.2.2.1 h.2.2.2.2)
/-- an aggregate's column -/
theorem p_agg {c q : aM} {p : Int} (h : Z c q T u n N p) (k0 : c (24 + p) 0 = 1) (h6 : 3 ≤ c 21 6 ∧ c 21 6 ≤ 5) (h3 : c 21 3 = 0) (h8 : c 21 8 = -1) (h9 : c 21 9 = 0) (h26 : q 130 26 = 0) (h38 : q 130 38 = c 21 6 - 1) (h39 : q 130 39 = -1) :
    OUT T N c q ((fQ_readAggregate_77 c 1 (24 + p) 1).bind fun v2 => fQ_read_53 v2 0) ((fM_next q).bind fun v6 => if 1 < v6 130 38 then (fM_passSign v6 40).bind fun v7 => if v7.1 = 0 then some ((0, v7.2)) else (fM_named v7.2).bind fun v8 => if v7.2 130 38 = 2 then if v8 < 0 then fM_question_176 (mup v7.2 130 40 v8) else gd (0 ≤ v8 ∧ v8 < 6) (if 1 < v7.2 133 v8 then gd ((fM_wrong (mup v7.2 130 40 v8)).1 = 0 ∨ (fM_wrong (mup v7.2 130 40 v8)).1 = 1) (some (((fM_wrong (mup v7.2 130 40 v8)).1, (fM_wrong (mup v7.2 130 40 v8)).2))) else fM_question_176 (mup v7.2 130 40 v8)) else fM_question_176 (mup v7.2 130 40 v8) else fM_question_194 v6) := by
  have h96 := h.1.N96
  have wn := h.1.1.1
  unfold fQ_readAggregate_77 fQ_readAggregate_106
  rw [if_neg (by decide), k_ok h.1 h.2.1]
  obtain ⟨q1, e1, h1, f1⟩ := h.nx (by omega) (by omega)
  rw [e1]
  simp only [Option.bind_some]
  obtain ⟨c1, ec1⟩ : ∃ c1, c1 = mup c 21 4 (p + 1) := ⟨_, rfl⟩
  rw [← ec1] at h1 ⊢
  have fc1 : Fr qrP c c1 := by rw [ec1]; exact q21
  have cj1 (j : Int) (a : j ≠ 4) : c1 21 j = c 21 j := by rw [ec1, mup_idx a]
  have qj1 (j : Int) (a : j = 26 ∨ (38 ≤ j ∧ j ≤ 40) ∨ j = 47 ∨ j = 48) : q1 130 j = q 130 j := f1 130 j (fun e => by omega)
  unfold fM_passSign
  rw [if_pos (by rw [qj1 38 (by omega)]; omega), k_kind h1.1 h1.2.1, (osg h1.1 h1.2.2).1]
  simp only [Option.bind_some]
  by_cases k4 : c1 (24 + (p + 1)) 0 = 4
  · rw [if_pos k4, if_pos k4, if_neg (show ¬ ((1 : Int) = 0) by decide)]
    obtain ⟨q2, e2, h2, f2⟩ := h1.nx (by omega) (by omega)
    rw [e2]
    simp only [Option.bind_some]
    rw [if_neg (show ¬ ((1 : Int) = 0) by decide)]
    obtain ⟨c2, ec2⟩ : ∃ c2, c2 = mup c1 21 4 (p + 1 + 1) := ⟨_, rfl⟩
    rw [← ec2] at h2 ⊢
    have fc2 : Fr qrP c c2 := by rw [ec2]; exact fc1.up (Or.inl rfl)
    have fq2 : Fr quP q q2 := (nx_qu f1).tr (nx_qu f2)
    have cj2 (j : Int) (a : j ≠ 4) : c2 21 j = c 21 j := by rw [ec2, mup_idx a, cj1 j a]
    have qj2 (j : Int) (a : j = 26 ∨ (38 ≤ j ∧ j ≤ 40) ∨ j = 47 ∨ j = 48) : q2 130 j = q 130 j := (f2 130 j (fun e => by omega)).trans (qj1 j a)
    rw [onm h2.1 h2.2.2, cj2 6 (by decide), qj2 38 (by omega), k_name h2.1 h2.2.1, k_name h2.1 h2.2.1]
    simp only [Option.bind_some]
    have so := o_sort h2.tk
    obtain ⟨d, hd⟩ : ∃ d, d = c2 (24 + (p + 1 + 1)) 4 := ⟨_, rfl⟩
    rw [← hd] at so ⊢
    obtain ⟨q3, eq3⟩ : ∃ q3, q3 = mup q2 130 40 d := ⟨_, rfl⟩
    rw [← eq3]
    have fd3 : Fr fdP q2 q3 := by rw [eq3]; exact Fr.rf.up ⟨rfl, by omega⟩
    have h3' := h2.qu fd3
    have fq3 : Fr quP q q3 := fq2.tr (fd_qu fd3)
    -- wrong at the column
    have bad (rq : Option (Int × aM)) (hq : rq = some (0, mup q3 130 25 (c2 (24 + (p + 1 + 1)) 1))) : OUT T N c q (((fQ_readKind (mup (mup c2 21 5 (c2 (24 + (p + 1 + 1)) 1)) 21 7 d) 5).bind fun v4 => some v4).bind fun v2 => fQ_read_53 v2 0) rq := by
      have hz := h2.no.cu (j := 7) (v := d) (by decide)
      rw [w_kind hz.1 hz.2.1 hz.2.2]
      simp only [Option.bind_some]
      rw [w_53 hz]
      exact OUT.bad rfl hq h2.tk.1.1 (mup_same _ _ _ _) ((fc2.up (Or.inl rfl)).up (Or.inl rfl)) (fq3.tr rf25)
    have pn : fM_passName q3 = if d < 0 then some (0, mup q3 130 25 (c2 (24 + (p + 1 + 1)) 1)) else (fM_next q3).bind fun v2 => some ((1, v2)) := by
      unfold fM_passName
      rw [onm h3'.1 h3'.2.2, ← hd]
      simp only [Option.bind_some]
      rw [owr h3'.1 h3'.2.2, gd_pos (Or.inl rfl)]
    -- the column is there
    have good (d0 : d ≠ -1) (dt : c 21 6 = 3 → tyS T d ≤ 1) : OUT T N c q (((fQ_readKind (mup (mup c2 21 4 (p + 1 + 1 + 1)) 21 7 d) 5).bind fun v4 => some v4).bind fun v2 => fQ_read_53 v2 0) (fM_question_176 q3) := by
      have s4 := so.1.resolve_left d0
      obtain ⟨q4, e4, h4, f4⟩ := h3'.nx (by omega) (by omega)
      have h5 := h4.cu (j := 7) (v := d) (by decide)
      obtain ⟨c5, ec5⟩ : ∃ c5, c5 = mup (mup c2 21 4 (p + 1 + 1 + 1)) 21 7 d := ⟨_, rfl⟩
      rw [← ec5] at h5 ⊢
      have fc5 : Fr qrP c c5 := by rw [ec5]; exact (fc2.up (Or.inl rfl)).up (Or.inl rfl)
      have fq4 : Fr quP q q4 := fq3.tr (nx_qu f4)
      unfold fM_question_176 fM_passSign
      rw [pn, if_neg (by omega), e4]
      simp only [Option.bind_some]
      rw [if_neg (by decide), k_kind h5.1 h5.2.1, (osg h5.1 h5.2.2).2]
      simp only [Option.bind_some]
      by_cases k5 : c5 (24 + (p + 1 + 1 + 1)) 0 = 5
      · rw [if_pos k5, if_pos k5, if_neg (by decide)]
        obtain ⟨q6, e6, h6', f6⟩ := h5.nx (by omega) (by omega)
        rw [e6]
        simp only [Option.bind_some]
        rw [if_neg (by decide)]
        have cj (j : Int) (a : j ≠ 4) (b : j ≠ 7) : (mup c5 21 4 (p + 1 + 1 + 1 + 1)) 21 j = c 21 j := by
          rw [mup_idx a, ec5, mup_idx b, mup_idx a, cj2 j a]
        have c7 : (mup c5 21 4 (p + 1 + 1 + 1 + 1)) 21 7 = d := by rw [mup_idx (by decide), ec5, mup_same]
        have qj (j : Int) (a : j = 26 ∨ (38 ≤ j ∧ j ≤ 40) ∨ j = 47 ∨ j = 48) (b : j ≠ 40) : q6 130 j = q 130 j := by
          rw [f6 130 j (fun e => by omega), f4 130 j (fun e => by omega), eq3, mup_idx b, qj2 j a]
        have q40 : q6 130 40 = d := by rw [f6 130 40 (fun e => by omega), f4 130 40 (fun e => by omega), eq3, mup_same]
        refine OUT.tr (p_by h6' ?_ (by rw [cj 3 (by decide) (by decide)]; exact h3) (by rw [qj 26 (by omega) (by decide)]; exact h26) (Or.inl ⟨rfl, by rw [cj 6 (by decide) (by decide)]; omega⟩)) (fc5.up (Or.inl rfl)) (fq4.tr (nx_qu f6))
        unfold FLD
        rw [cj 6 (by decide) (by decide), cj 8 (by decide) (by decide), cj 9 (by decide) (by decide), c7, qj 38 (by omega) (by decide), qj 39 (by omega) (by decide), q40, h8, h9, h38, h39]
        exact ⟨by omega, rfl, by omega, fun _ => ⟨rfl, rfl⟩, Or.inl rfl, Or.inl rfl, fun _ => ⟨rfl, s4.1, s4.2.1⟩, dt⟩
      · rw [if_neg k5, if_neg k5, if_pos rfl, owr h5.1 h5.2.2, gd_pos (Or.inl rfl)]
        simp only [Option.bind_some]
        rw [if_pos trivial, w_53 h5.no]
        exact OUT.bad rfl rfl h5.tk.1.1 (mup_same _ _ _ _) (fc5.up (Or.inl rfl)) (fq4.tr rf25)
    have none : d = -1 → fM_question_176 q3 = some (0, mup q3 130 25 (c2 (24 + (p + 1 + 1)) 1)) := by
      intro d1
      unfold fM_question_176
      rw [pn, if_pos (by omega)]
      simp only [Option.bind_some]
      rw [if_pos trivial]
    have t5 : d ≠ -1 → (c2 (24 + (p + 1 + 1)) 5 = 1 ↔ tyS T d ≤ 1) := by
      intro d0
      have s4 := so.1.resolve_left d0
      have tr := ty_rng (T := T) (c := d)
      rw [s4.2.2.2.1]
      unfold fK_sortOf
      split <;> omega
    by_cases k3 : c 21 6 = 3
    · rw [if_pos k3, if_pos (show q 130 38 = 2 by omega)]
      by_cases d1 : d = -1
      · rw [if_neg (show ¬ (d ≠ -1 ∧ ((1 : Int) = 0 ∨ c2 (24 + (p + 1 + 1)) 5 = 1)) from fun g => g.1 d1), if_pos (show d < 0 by omega)]
        exact bad _ (none d1)
      · have s4 := so.1.resolve_left d1
        rw [if_neg (show ¬ d < 0 by omega), gd_pos (show 0 ≤ d ∧ d < 6 by omega), (h2.2.2.1.2.2.2.1 d s4.1 s4.2.1).2]
        by_cases t1 : tyS T d ≤ 1
        · rw [if_pos (show d ≠ -1 ∧ ((1 : Int) = 0 ∨ c2 (24 + (p + 1 + 1)) 5 = 1) from ⟨d1, Or.inr ((t5 d1).mpr t1)⟩), if_neg (show ¬ 1 < tyS T d by omega)]
          exact good d1 (fun _ => t1)
        · rw [if_neg (show ¬ (d ≠ -1 ∧ ((1 : Int) = 0 ∨ c2 (24 + (p + 1 + 1)) 5 = 1)) from fun g => by
            rcases g.2 with e | e
            · exact absurd e (by decide)
            · exact t1 ((t5 d1).mp e)), if_pos (show 1 < tyS T d by omega), owr h3'.1 h3'.2.2, gd_pos (Or.inl rfl)]
          exact bad _ rfl
    · rw [if_neg k3, if_neg (show ¬ q 130 38 = 2 by omega)]
      by_cases d1 : d = -1
      · rw [if_neg (fun g => g.1 d1)]
        exact bad _ (none d1)
      · rw [if_pos ⟨d1, Or.inl trivial⟩]
        exact good d1 (fun e => absurd e k3)
  · rw [if_neg k4, if_neg k4, if_pos rfl, owr h1.1 h1.2.2, gd_pos (Or.inl rfl)]
    simp only [Option.bind_some]
    rw [if_pos trivial]
    have hz := h1.no
    obtain ⟨d1, e1'⟩ := w_name hz.1 hz.2.1 hz.2.2 (a := 1)
    obtain ⟨d0, e0'⟩ := w_name hz.1 hz.2.1 hz.2.2 (a := 0)
    have fin (d : Int) : OUT T N c q (((fQ_readKind (mup (mup c1 21 5 (c1 (24 + (p + 1)) 1)) 21 7 d) 5).bind fun v4 => some v4).bind fun v2 => fQ_read_53 v2 0) (some (0, mup q1 130 25 (c1 (24 + (p + 1)) 1))) := by
      have hz2 := hz.cu (j := 7) (v := d) (by decide)
      rw [w_kind hz2.1 hz2.2.1 hz2.2.2]
      simp only [Option.bind_some]
      rw [w_53 hz2]
      exact OUT.bad rfl rfl h1.tk.1.1 (mup_same _ _ _ _) ((fc1.up (Or.inl rfl)).up (Or.inl rfl)) ((nx_qu f1).tr rf25)
    rw [e1', e0']
    simp only [Option.bind_some]
    by_cases k3 : (mup c1 21 5 (c1 (24 + (p + 1)) 1)) 21 6 = 3
    · rw [if_pos k3]; exact fin d1
    · rw [if_neg k3]; exact fin d0
theorem ch5 {α : Type} (w : Int) (a1 a2 a3 a4 am : α) : (if (if w = 2 then (1 : Int) else 0) = 0 then if (if w = 3 then (1 : Int) else 0) = 0 then if (if w = 4 then (1 : Int) else 0) = 0 then if (if w = 5 then (1 : Int) else 0) = 0 then am else a4 else a3 else a2 else a1) = if w = 2 then a1 else if w = 3 then a2 else if w = 4 then a3 else if w = 5 then a4 else am := by
  by_cases h2 : w = 2
  · rw [if_pos h2, if_pos h2, if_neg (by decide)]
  rw [if_neg h2, if_neg h2, if_pos rfl]
  by_cases h3 : w = 3
  · rw [if_pos h3, if_pos h3, if_neg (by decide)]
  rw [if_neg h3, if_neg h3, if_pos rfl]
  by_cases h4 : w = 4
  · rw [if_pos h4, if_pos h4, if_neg (by decide)]
  rw [if_neg h4, if_neg h4, if_pos rfl]
  by_cases h5 : w = 5
  · rw [if_pos h5, if_pos h5, if_neg (by decide)]
  rw [if_neg h5, if_neg h5, if_pos rfl]
theorem p_read {c q : aM} (hx : Cx c T u n N) (hr : RS c q T u n N 0) : OUT T N c q (fQ_read c) (fM_question q) := by
  have h96 := hx.N96
  unfold fQ_read fM_question
  obtain ⟨c1, ec1⟩ : ∃ c1, c1 = mup (mup (mup (mup (mup (mup (mup c 21 3 0) 21 4 0) 21 5 (-1)) 21 6 1) 21 7 (-1)) 21 8 (-1)) 21 9 0 := ⟨_, rfl⟩
  obtain ⟨q1, eq1⟩ : ∃ q1, q1 = mup (mup (mup (mup (mup q 130 26 0) 130 39 (-1)) 130 40 (-1)) 130 47 (-1)) 130 48 0 := ⟨_, rfl⟩
  rw [← ec1, ← eq1]
  have fc1 : Fr qrP c c1 := by
    rw [ec1]
    exact ((((((Fr.rf.up (Or.inl rfl)).up (Or.inl rfl)).up (Or.inl rfl)).up (Or.inl rfl)).up (Or.inl rfl)).up (Or.inl rfl)).up (Or.inl rfl)
  have fd1 : Fr fdP q q1 := by
    rw [eq1]
    exact ((((Fr.rf.up ⟨rfl, by omega⟩).up ⟨rfl, by omega⟩).up ⟨rfl, by omega⟩).up ⟨rfl, by omega⟩).up ⟨rfl, by omega⟩
  have a3 : c1 21 3 = 0 := by rw [ec1, mup_idx (by decide), mup_idx (by decide), mup_idx (by decide), mup_idx (by decide), mup_idx (by decide), mup_idx (by decide), mup_same]
  have a4 : c1 21 4 = 0 := by rw [ec1, mup_idx (by decide), mup_idx (by decide), mup_idx (by decide), mup_idx (by decide), mup_idx (by decide), mup_same]
  have a5 : c1 21 5 = -1 := by rw [ec1, mup_idx (by decide), mup_idx (by decide), mup_idx (by decide), mup_idx (by decide), mup_same]
  have a6 : c1 21 6 = 1 := by rw [ec1, mup_idx (by decide), mup_idx (by decide), mup_idx (by decide), mup_same]
  have a8 : c1 21 8 = -1 := by rw [ec1, mup_idx (by decide), mup_same]
  have a9 : c1 21 9 = 0 := by rw [ec1, mup_same]
  have b26 : q1 130 26 = 0 := by rw [eq1, mup_idx (by decide), mup_idx (by decide), mup_idx (by decide), mup_idx (by decide), mup_same]
  have b39 : q1 130 39 = -1 := by rw [eq1, mup_idx (by decide), mup_idx (by decide), mup_idx (by decide), mup_same]
  have b47 : q1 130 47 = -1 := by rw [eq1, mup_idx (by decide), mup_same]
  have b48 : q1 130 48 = 0 := by rw [eq1, mup_same]
  have er := qr_rw fc1
  have h : Z c1 q1 T u n N 0 := Z.qu ⟨hx.base er, ⟨Fr.rf, a4, a5, by omega, by omega⟩, hr.base h96.2 er⟩ fd1
  refine OUT.tr ?_ fc1 (fd_qu fd1)
  clear ec1 eq1
  have t15 := wordS_rng (s := us u (c1 (24 + 0) 1) (c1 (24 + 0) 2))
  rw [k_take h.1 h.2.1]
  obtain ⟨w, hw⟩ : ∃ w, w = c1 (24 + 0) 3 := ⟨_, rfl⟩
  have kw : w ≠ 15 → c1 (24 + 0) 0 = 1 := fun e => o_w15 h.tk (by rw [← hw]; exact e)
  rw [ow h.1 h.2.2 (k := 1) kS_pk.2.2.2.2.2.2.2.2.2.1 (by decide) (by decide), ow h.1 h.2.2 (k := 2) kS_pk.2.2.2.2.2.2.2.2.2.2.1 (by decide) (by decide), ow h.1 h.2.2 (k := 3) kS_pk.2.2.2.2.2.2.2.2.2.2.2.1 (by decide) (by decide), ow h.1 h.2.2 (k := 4) kS_pk.2.2.2.2.2.2.2.2.2.2.2.2.1 (by decide) (by decide), ow h.1 h.2.2 (k := 5) kS_pk.2.2.2.2.2.2.2.2.2.2.2.2.2 (by decide) (by decide), ← hw]
  simp only [Option.bind_some]
  by_cases w1 : w = 1
  · -- rows
    rw [if_pos w1, if_pos w1]
    simp only
    rw [if_neg (by decide), if_neg (by decide)]
    have kk := kw (by omega)
    unfold fM_question_97
    rw [if_neg (by decide)]
    have fd2 : Fr fdP q1 (mup q1 130 38 0) := Fr.rf.up ⟨rfl, by omega⟩
    obtain ⟨q2, e2, h2, f2⟩ := (h.qu fd2).nx (by omega) (by omega)
    rw [e2]
    simp only [Option.bind_some]
    have qj (j : Int) (a : j = 26 ∨ (38 ≤ j ∧ j ≤ 40) ∨ j = 47 ∨ j = 48) (b : j ≠ 38) : q2 130 j = q1 130 j := by
      rw [f2 130 j (fun e => by omega), mup_idx b]
    have q38 : q2 130 38 = 0 := by rw [f2 130 38 (fun e => by omega), mup_same]
    rw [if_neg (by omega)]
    refine OUT.tr (p_by h2 ?_ (by rw [mup_idx (by decide)]; exact a3) (by rw [qj 26 (by omega) (by decide)]; exact b26) (Or.inr ⟨rfl, by rw [mup_idx (by decide)]; exact a6⟩)) q21 ((fd_qu fd2).tr (nx_qu f2))
    unfold FLD
    rw [mup_idx (by decide), mup_idx (by decide), mup_idx (by decide), mup_idx (by decide), a6, a8, a9, q38, qj 47 (by omega) (by decide), qj 48 (by omega) (by decide), b47, b48]
    exact ⟨by decide, rfl, fun _ => ⟨rfl, rfl⟩, fun h => absurd h (by decide), Or.inl rfl, Or.inl rfl, fun h => absurd h (by decide), fun h => absurd h (by decide)⟩
  rw [if_neg w1, if_neg w1]
  simp only
  rw [if_pos trivial, if_pos trivial]
  unfold fQ_readAggregate
  rw [a4, g_get h.1 h.2.1.1 (by decide) h96.1]
  simp only [Option.bind_some]
  rw [← hw]
  obtain ⟨c2, ec2⟩ : ∃ c2, c2 = mup c1 21 6 w := ⟨_, rfl⟩
  rw [← ec2]
  have h2 : Z c2 q1 T u n N 0 := by rw [ec2]; exact h.cu (by decide)
  have fc2 : Fr qrP c1 c2 := by rw [ec2]; exact q21
  have d6 : c2 21 6 = w := by rw [ec2, mup_same]
  have dj (j : Int) (a : j ≠ 6) : c2 21 j = c1 21 j := by rw [ec2, mup_idx a]
  have dt : c2 (24 + 0) = c1 (24 + 0) := by rw [ec2, row_up (by decide)]
  have fd3 (v : Int) : Fr fdP q1 (mup q1 130 38 v) := Fr.rf.up ⟨rfl, by omega⟩
  -- one of the three with a column
  have three (h3 : 3 ≤ w ∧ w ≤ 5) : OUT T N c1 q1 ((fQ_readAggregate_55 c2 (24 + 0) 1).bind fun v2 => fQ_read_53 v2 0) (fM_question_97 q1 (w - 1)) := by
    have kk := kw (by omega)
    unfold fQ_readAggregate_55 fM_question_97
    rw [if_neg (by decide), if_neg (by omega)]
    exact OUT.tr (p_agg (h2.qu (fd3 (w - 1))) (by rw [dt]; exact kk) (by omega) (by rw [dj 3 (by decide)]; exact a3) (by rw [dj 8 (by decide)]; exact a8) (by rw [dj 9 (by decide)]; exact a9) (by rw [mup_idx (by decide)]; exact b26) (by rw [mup_same, d6]) (by rw [mup_idx (by decide)]; exact b39)) fc2 (fd_qu (fd3 (w - 1)))
  rw [ch5]
  by_cases w3 : w = 3
  · have := three (by omega)
    rw [if_pos w3, if_neg (show ¬ w = 2 by omega), if_pos w3]
    rw [w3, show (3 : Int) - 1 = 2 by decide] at this
    exact this
  rw [if_neg w3, if_neg w3]
  by_cases w4 : w = 4
  · have := three (by omega)
    rw [if_pos w4, if_neg (show ¬ w = 2 by omega), if_pos w4]
    rw [w4, show (4 : Int) - 1 = 3 by decide] at this
    exact this
  rw [if_neg w4, if_neg w4]
  by_cases w5 : w = 5
  · have := three (by omega)
    rw [if_pos w5, if_neg (show ¬ w = 2 by omega), if_pos w5]
    rw [w5, show (5 : Int) - 1 = 4 by decide] at this
    exact this
  rw [if_neg w5, if_neg w5]
  unfold fQ_readAggregate_55 fQ_readAggregate_77
  rw [if_pos rfl, d6]
  by_cases w2 : w = 2
  · rw [if_pos w2, if_pos rfl, if_pos w2, k_ok h2.1 h2.2.1]
    simp only [Option.bind_some]
    have kk := kw (by omega)
    unfold fM_question_97
    rw [if_neg (by decide)]
    obtain ⟨q2, e2, h3, f2⟩ := (h2.qu (fd3 1)).nx (by rw [dt]; omega) (by rw [dt]; omega)
    rw [e2]
    simp only [Option.bind_some]
    have qj (j : Int) (a : j = 26 ∨ (38 ≤ j ∧ j ≤ 40) ∨ j = 47 ∨ j = 48) (b : j ≠ 38) : q2 130 j = q1 130 j := by
      rw [f2 130 j (fun e => by omega), mup_idx b]
    have q38 : q2 130 38 = 1 := by rw [f2 130 38 (fun e => by omega), mup_same]
    rw [if_neg (by omega)]
    refine OUT.tr (p_by h3 ?_ (by rw [mup_idx (by decide), dj 3 (by decide)]; exact a3) (by rw [qj 26 (by omega) (by decide)]; exact b26) (Or.inl ⟨rfl, by rw [mup_idx (by decide), d6]; omega⟩)) (fc2.up (Or.inl rfl)) ((fd_qu (fd3 1)).tr (nx_qu f2))
    unfold FLD
    rw [mup_idx (by decide), mup_idx (by decide), mup_idx (by decide), mup_idx (by decide), d6, dj 8 (by decide), dj 9 (by decide), a8, a9, q38, qj 39 (by omega) (by decide), b39, w2]
    exact ⟨by decide, rfl, fun h => absurd h (by decide), fun _ => ⟨rfl, rfl⟩, Or.inl rfl, Or.inl rfl, fun h => absurd h (by decide), fun h => absurd h (by decide)⟩
  · rw [if_neg w2, if_pos rfl, if_neg w2, k_no h2.1 h2.2.1]
    simp only [Option.bind_some]
    have h3 := h2.qu (fd3 (-1))
    unfold fM_question_97
    rw [if_pos (by decide), owr h3.1 h3.2.2, gd_pos (Or.inl rfl), w_53 h2.no]
    exact OUT.bad rfl (q1 := mup (mup q1 130 38 (-1)) 130 25 (c2 (24 + 0) 1)) rfl h2.tk.1.1 (mup_same _ _ _ _) (fc2.up (Or.inl rfl)) ((fd_qu (fd3 (-1))).tr rf25)
end
