def fM_thrown (m : aM) : Int :=
  m 130 0
set_option maxRecDepth 100000 in
theorem tM_thrown (m : aM) : Go PB 1 20 (aEnt d_M_thrown [(18, 130)] m XX) (1, (0, (fM_thrown m)), m, XX) := by
  have hD : aMd PB 20 = d_M_thrown := rfl
  show aU PB 1 20 (fun w => (1, (0, w), m, XX)) (fM_thrown m) (0, [(18, 130)], [], m, XX)
  unfold fM_thrown
  refine U_run hD 2 (c' := (4, [(18, 130)], [(0, m 130 0)], m, XX)) rfl ?_
  exact Go.fin hD rfl
def fM_fail (m : aM) (x1 : Int) : (Int × aM) :=
  (0, mup m 130 0 x1)
set_option maxRecDepth 100000 in
theorem tM_fail (m : aM) (x1 : Int) : Go PB 1 21 (aEnt d_M_fail [(18, 130), (0, x1)] m XX) (1, (0, (fM_fail m x1).1), (fM_fail m x1).2, XX) := by
  have hD : aMd PB 21 = d_M_fail := rfl
  show aU PB 1 21 (fun w => (1, (0, w.1), w.2, XX)) (fM_fail m x1) (0, [(18, 130), (0, x1)], [], m, XX)
  unfold fM_fail
  refine U_run hD 4 (c' := (6, [(18, 130), (0, x1)], [(0, 0)], mup m 130 0 x1, XX)) rfl ?_
  exact Go.fin hD rfl
abbrev hM_put_59 (m : aM) (x1 : Int) (x2 : Int) (x4 : Int) : (Int × Int) → aC → Prop := fun y c => ∃ (z3 : aV) (z7 : aV), c = (59, [(18, 130), (0, x1), (1, x2), z3, (0, x4), (0, (y.1)), (0, (y.2)), z7], [], m, XX)
abbrev hM_put_133 (x1 : Int) (x2 : Int) (x4 : Int) (x5 : Int) : (aM × Int) → aC → Prop := fun y c => ∃ (z3 : aV) (z7 : aV), c = (133, [(18, 130), (0, x1), (1, x2), z3, (0, x4), (0, x5), (0, (y.2)), z7], [], (y.1), XX)
def fM_put_199 (m : aM) (x1 : Int) (x2 : Int) (x4 : Int) (x5 : Int) (x6 : Int) (s1 : Int) : Option ((aM × Int) ⊕ (Int × aM)) :=
  if x1 = 0 then
    some (Sum.inl (mup (mup m 130 3 s1) 130 2 (w32 ((m 130 2) + 1)), w32 (x6 + 1)))
  else
    some (Sum.inl (mup (mup m 130 3 s1) 130 2 (m 130 2), w32 (x6 + 1)))
set_option maxRecDepth 100000 in
theorem tM_put_199 (r : aR) (m : aM) (x1 : Int) (x2 : Int) (x4 : Int) (x5 : Int) (x6 : Int) (s1 : Int) (z3 : aV) (z7 : aV) : aT PB 1 22 r (aTurn PB 1 22 r (hM_put_133 x1 x2 x4 x5) (fun w => r = (1, (0, w.1), w.2, XX))) (fM_put_199 m x1 x2 x4 x5 x6 s1) (199, [(18, 130), (0, x1), (1, x2), z3, (0, x4), (0, x5), (0, x6), z7], [(0, s1), (18, 130)], m, XX) := by
  have hD : aMd PB 22 = d_M_put := rfl
  unfold fM_put_199
  refine T_run hD 3 (c' := (204, [(18, 130), (0, x1), (1, x2), z3, (0, x4), (0, x5), (0, x6), z7], [(0, x1), (18, 130)], mup m 130 3 s1, XX)) rfl ?_
  refine T_if hD (c1 := (214, _, _, _, _)) (c2 := (207, _, _, _, _)) rfl (fun _ => ?_) (fun _ => ?_)
  · refine T_run hD 7 (c' := (133, [(18, 130), (0, x1), (1, x2), z3, (0, x4), (0, x5), (0, w32 (x6 + 1)), z7], [], mup (mup m 130 3 s1) 130 2 (w32 ((m 130 2) + 1)), XX)) rfl ?_
    exact T_back0 ⟨_, _, rfl⟩
  · refine T_run hD 6 (c' := (133, [(18, 130), (0, x1), (1, x2), z3, (0, x4), (0, x5), (0, w32 (x6 + 1)), z7], [], mup (mup m 130 3 s1) 130 2 (m 130 2), XX)) rfl ?_
    exact T_back0 ⟨_, _, rfl⟩
def fM_put_168 (m : aM) (x1 : Int) (x2 : Int) (x4 : Int) (x5 : Int) (x6 : Int) (s0 : Int) (s1 : Int) : Option ((aM × Int) ⊕ (Int × aM)) :=
  gd (0 ≤ s1 ∧ s1 < LEN s0) (
  if x1 = 0 then
    fM_put_199 (mup m s0 s1 (w32 (lAnd (lShr x2 (w32 (8 * x6))) 255))) x1 x2 x4 x5 x6 ((mup m s0 s1 (w32 (lAnd (lShr x2 (w32 (8 * x6))) 255))) 130 3)
  else
    fM_put_199 (mup m s0 s1 (w32 (lAnd (lShr x2 (w32 (8 * x6))) 255))) x1 x2 x4 x5 x6 (w32 (((mup m s0 s1 (w32 (lAnd (lShr x2 (w32 (8 * x6))) 255))) 130 3) + 1)))
set_option maxRecDepth 100000 in
theorem tM_put_168 (r : aR) (m : aM) (x1 : Int) (x2 : Int) (x4 : Int) (x5 : Int) (x6 : Int) (s0 : Int) (s1 : Int) (z3 : aV) (z7 : aV) : aT PB 1 22 r (aTurn PB 1 22 r (hM_put_133 x1 x2 x4 x5) (fun w => r = (1, (0, w.1), w.2, XX))) (fM_put_168 m x1 x2 x4 x5 x6 s0 s1) (168, [(18, 130), (0, x1), (1, x2), z3, (0, x4), (0, x5), (0, x6), z7], [(0, s1), (31, s0)], m, XX) := by
  have hD : aMd PB 22 = d_M_put := rfl
  unfold fM_put_168
  refine T_run hD 8 (c' := (180, [(18, 130), (0, x1), (1, x2), z3, (0, x4), (0, x5), (0, x6), z7], [(0, w32 (lAnd (lShr x2 (w32 (8 * x6))) 255)), (0, s1), (31, s0)], m, XX)) rfl ?_
  refine T_gd hD (c1 := (181, [(18, 130), (0, x1), (1, x2), z3, (0, x4), (0, x5), (0, x6), z7], [], mup m s0 s1 (w32 (lAnd (lShr x2 (w32 (8 * x6))) 255)), XX)) rfl (fun g1 => ?_)
  refine T_run hD 2 (c' := (183, [(18, 130), (0, x1), (1, x2), z3, (0, x4), (0, x5), (0, x6), z7], [(0, x1), (18, 130)], mup m s0 s1 (w32 (lAnd (lShr x2 (w32 (8 * x6))) 255)), XX)) rfl ?_
  refine T_if hD (c1 := (195, _, _, _, _)) (c2 := (186, _, _, _, _)) rfl (fun _ => ?_) (fun _ => ?_)
  · refine T_run hD 2 (c' := (199, [(18, 130), (0, x1), (1, x2), z3, (0, x4), (0, x5), (0, x6), z7], [(0, (mup m s0 s1 (w32 (lAnd (lShr x2 (w32 (8 * x6))) 255))) 130 3), (18, 130)], mup m s0 s1 (w32 (lAnd (lShr x2 (w32 (8 * x6))) 255)), XX)) rfl ?_
    exact tM_put_199 r (mup m s0 s1 (w32 (lAnd (lShr x2 (w32 (8 * x6))) 255))) x1 x2 x4 x5 x6 ((mup m s0 s1 (w32 (lAnd (lShr x2 (w32 (8 * x6))) 255))) 130 3) z3 z7
  · refine T_run hD 5 (c' := (199, [(18, 130), (0, x1), (1, x2), z3, (0, x4), (0, x5), (0, x6), z7], [(0, w32 (((mup m s0 s1 (w32 (lAnd (lShr x2 (w32 (8 * x6))) 255))) 130 3) + 1)), (18, 130)], mup m s0 s1 (w32 (lAnd (lShr x2 (w32 (8 * x6))) 255)), XX)) rfl ?_
    exact tM_put_199 r (mup m s0 s1 (w32 (lAnd (lShr x2 (w32 (8 * x6))) 255))) x1 x2 x4 x5 x6 (w32 (((mup m s0 s1 (w32 (lAnd (lShr x2 (w32 (8 * x6))) 255))) 130 3) + 1)) z3 z7
def fM_put_133_b (x1 : Int) (x2 : Int) (x4 : Int) (x5 : Int) : (aM × Int) → Option ((aM × Int) ⊕ (Int × aM)) := fun (m, x6) =>
  if x6 < x4 then
    if x5 = 0 then
      gd (x5 = 0 ∨ x5 = 1) (some (Sum.inr ((x5, m))))
    else
      if x1 = 0 then
        fM_put_168 m x1 x2 x4 x5 x6 131 (m 130 2)
      else
        fM_put_168 m x1 x2 x4 x5 x6 131 (w32 (240 + (m 130 3)))
  else
    gd (x5 = 0 ∨ x5 = 1) (some (Sum.inr ((x5, m))))
def fM_put_133 (m : aM) (x1 : Int) (x2 : Int) (x4 : Int) (x5 : Int) (x6 : Int) : Option (Int × aM) := aLoop (fM_put_133_b x1 x2 x4 x5) FU (m, x6)
set_option maxRecDepth 100000 in
theorem tM_put_133 (r : aR) (m : aM) (x1 : Int) (x2 : Int) (x4 : Int) (x5 : Int) (x6 : Int) (z3 : aV) (z7 : aV) : aT PB 1 22 r (fun w => r = (1, (0, w.1), w.2, XX)) (fM_put_133 m x1 x2 x4 x5 x6) (133, [(18, 130), (0, x1), (1, x2), z3, (0, x4), (0, x5), (0, x6), z7], [], m, XX) := by
  have hD : aMd PB 22 = d_M_put := rfl
  refine T_loop (Hd := (hM_put_133 x1 x2 x4 x5)) ?_ FU _ _ ⟨z3, z7, rfl⟩
  clear m x6 z3 z7
  intro y c hc
  obtain ⟨m, x6⟩ := y
  obtain ⟨z3, z7, rfl⟩ := hc
  unfold fM_put_133_b
  try dsimp only
  refine T_run hD 2 (c' := (137, [(18, 130), (0, x1), (1, x2), z3, (0, x4), (0, x5), (0, x6), z7], [(0, x4), (0, x6)], m, XX)) rfl ?_
  refine T_if hD (c1 := (140, _, _, _, _)) (c2 := (229, _, _, _, _)) rfl (fun _ => ?_) (fun _ => ?_)
  · refine T_run hD 1 (c' := (142, [(18, 130), (0, x1), (1, x2), z3, (0, x4), (0, x5), (0, x6), z7], [(0, x5)], m, XX)) rfl ?_
    refine T_if hD (c1 := (229, _, _, _, _)) (c2 := (145, _, _, _, _)) rfl (fun _ => ?_) (fun _ => ?_)
    · refine T_run hD 1 (c' := (231, [(18, 130), (0, x1), (1, x2), z3, (0, x4), (0, x5), (0, x6), z7], [(0, x5)], m, XX)) rfl ?_
      exact T_gfin hD (fun h => if_pos (decide_eq_true h)) (fun h => h)
    · refine T_run hD 3 (c' := (150, [(18, 130), (0, x1), (1, x2), z3, (0, x4), (0, x5), (0, x6), z7], [(0, x1), (31, 131)], m, XX)) rfl ?_
      refine T_if hD (c1 := (164, _, _, _, _)) (c2 := (153, _, _, _, _)) rfl (fun _ => ?_) (fun _ => ?_)
      · refine T_run hD 2 (c' := (168, [(18, 130), (0, x1), (1, x2), z3, (0, x4), (0, x5), (0, x6), z7], [(0, m 130 2), (31, 131)], m, XX)) rfl ?_
        exact tM_put_168 r m x1 x2 x4 x5 x6 131 (m 130 2) z3 z7
      · refine T_run hD 5 (c' := (168, [(18, 130), (0, x1), (1, x2), z3, (0, x4), (0, x5), (0, x6), z7], [(0, w32 (240 + (m 130 3))), (31, 131)], m, XX)) rfl ?_
        exact tM_put_168 r m x1 x2 x4 x5 x6 131 (w32 (240 + (m 130 3))) z3 z7
  · refine T_run hD 1 (c' := (231, [(18, 130), (0, x1), (1, x2), z3, (0, x4), (0, x5), (0, x6), z7], [(0, x5)], m, XX)) rfl ?_
    exact T_gfin hD (fun h => if_pos (decide_eq_true h)) (fun h => h)
def fM_put_99 (m : aM) (x1 : Int) (x2 : Int) (x4 : Int) (x6 : Int) (x7 : Int) : Option ((Int × Int) ⊕ (Int × aM)) :=
  if x1 = 0 then
    if x7 = 10 then
      some (Sum.inl (1, w32 (x6 + 1)))
    else
      if x7 = 13 then
        some (Sum.inl (1, w32 (x6 + 1)))
      else
        some (Sum.inl (0, w32 (x6 + 1)))
  else
    some (Sum.inl (0, w32 (x6 + 1)))
set_option maxRecDepth 100000 in
theorem tM_put_99 (r : aR) (m : aM) (x1 : Int) (x2 : Int) (x4 : Int) (x6 : Int) (x7 : Int) (z3 : aV) (z5 : aV) : aT PB 1 22 r (aTurn PB 1 22 r (hM_put_59 m x1 x2 x4) (fun w => r = (1, (0, w.1), w.2, XX))) (fM_put_99 m x1 x2 x4 x6 x7) (99, [(18, 130), (0, x1), (1, x2), z3, (0, x4), z5, (0, x6), (0, x7)], [], m, XX) := by
  have hD : aMd PB 22 = d_M_put := rfl
  unfold fM_put_99
  refine T_run hD 1 (c' := (100, [(18, 130), (0, x1), (1, x2), z3, (0, x4), z5, (0, x6), (0, x7)], [(0, x1)], m, XX)) rfl ?_
  refine T_if hD (c1 := (103, _, _, _, _)) (c2 := (121, _, _, _, _)) rfl (fun _ => ?_) (fun _ => ?_)
  · refine T_run hD 2 (c' := (107, [(18, 130), (0, x1), (1, x2), z3, (0, x4), z5, (0, x6), (0, x7)], [(0, 10), (0, x7)], m, XX)) rfl ?_
    refine T_if hD (c1 := (117, _, _, _, _)) (c2 := (110, _, _, _, _)) rfl (fun _ => ?_) (fun _ => ?_)
    · refine T_run hD 5 (c' := (59, [(18, 130), (0, x1), (1, x2), z3, (0, x4), (0, 1), (0, w32 (x6 + 1)), (0, x7)], [], m, XX)) rfl ?_
      exact T_back0 ⟨_, _, rfl⟩
    · refine T_run hD 2 (c' := (114, [(18, 130), (0, x1), (1, x2), z3, (0, x4), z5, (0, x6), (0, x7)], [(0, 13), (0, x7)], m, XX)) rfl ?_
      refine T_if hD (c1 := (117, _, _, _, _)) (c2 := (121, _, _, _, _)) rfl (fun _ => ?_) (fun _ => ?_)
      · refine T_run hD 5 (c' := (59, [(18, 130), (0, x1), (1, x2), z3, (0, x4), (0, 1), (0, w32 (x6 + 1)), (0, x7)], [], m, XX)) rfl ?_
        exact T_back0 ⟨_, _, rfl⟩
      · refine T_run hD 4 (c' := (59, [(18, 130), (0, x1), (1, x2), z3, (0, x4), (0, 0), (0, w32 (x6 + 1)), (0, x7)], [], m, XX)) rfl ?_
        exact T_back0 ⟨_, _, rfl⟩
  · refine T_run hD 4 (c' := (59, [(18, 130), (0, x1), (1, x2), z3, (0, x4), (0, 0), (0, w32 (x6 + 1)), (0, x7)], [], m, XX)) rfl ?_
    exact T_back0 ⟨_, _, rfl⟩
def fM_put_59_b (m : aM) (x1 : Int) (x2 : Int) (x4 : Int) : (Int × Int) → Option ((Int × Int) ⊕ (Int × aM)) := fun (x5, x6) =>
  if x6 < x4 then
    if x5 = 0 then
      (fM_put_133 m x1 x2 x4 x5 0).map Sum.inr
    else
      if 31 < w32 (lAnd (lShr x2 (w32 (8 * x6))) 255) then
        if w32 (lAnd (lShr x2 (w32 (8 * x6))) 255) < 127 then
          some (Sum.inl (1, w32 (x6 + 1)))
        else
          fM_put_99 m x1 x2 x4 x6 (w32 (lAnd (lShr x2 (w32 (8 * x6))) 255))
      else
        fM_put_99 m x1 x2 x4 x6 (w32 (lAnd (lShr x2 (w32 (8 * x6))) 255))
  else
    (fM_put_133 m x1 x2 x4 x5 0).map Sum.inr
def fM_put_59 (m : aM) (x1 : Int) (x2 : Int) (x4 : Int) (x5 : Int) (x6 : Int) : Option (Int × aM) := aLoop (fM_put_59_b m x1 x2 x4) FU (x5, x6)
set_option maxRecDepth 100000 in
theorem tM_put_59 (r : aR) (m : aM) (x1 : Int) (x2 : Int) (x4 : Int) (x5 : Int) (x6 : Int) (z3 : aV) (z7 : aV) : aT PB 1 22 r (fun w => r = (1, (0, w.1), w.2, XX)) (fM_put_59 m x1 x2 x4 x5 x6) (59, [(18, 130), (0, x1), (1, x2), z3, (0, x4), (0, x5), (0, x6), z7], [], m, XX) := by
  have hD : aMd PB 22 = d_M_put := rfl
  refine T_loop (Hd := (hM_put_59 m x1 x2 x4)) ?_ FU _ _ ⟨z3, z7, rfl⟩
  clear x5 x6 z3 z7
  intro y c hc
  obtain ⟨x5, x6⟩ := y
  obtain ⟨z3, z7, rfl⟩ := hc
  unfold fM_put_59_b
  try dsimp only
  refine T_run hD 2 (c' := (63, [(18, 130), (0, x1), (1, x2), z3, (0, x4), (0, x5), (0, x6), z7], [(0, x4), (0, x6)], m, XX)) rfl ?_
  refine T_if hD (c1 := (66, _, _, _, _)) (c2 := (130, _, _, _, _)) rfl (fun _ => ?_) (fun _ => ?_)
  · refine T_run hD 1 (c' := (68, [(18, 130), (0, x1), (1, x2), z3, (0, x4), (0, x5), (0, x6), z7], [(0, x5)], m, XX)) rfl ?_
    refine T_if hD (c1 := (130, _, _, _, _)) (c2 := (71, _, _, _, _)) rfl (fun _ => ?_) (fun _ => ?_)
    · refine T_run hD 2 (c' := (133, [(18, 130), (0, x1), (1, x2), z3, (0, x4), (0, x5), (0, 0), z7], [], m, XX)) rfl ?_
      exact T_map (tM_put_133 r m x1 x2 x4 x5 0 z3 z7)
    · refine T_run hD 11 (c' := (89, [(18, 130), (0, x1), (1, x2), z3, (0, x4), (0, x5), (0, x6), (0, w32 (lAnd (lShr x2 (w32 (8 * x6))) 255))], [(0, 31), (0, w32 (lAnd (lShr x2 (w32 (8 * x6))) 255))], m, XX)) rfl ?_
      refine T_if hD (c1 := (92, _, _, _, _)) (c2 := (99, _, _, _, _)) rfl (fun _ => ?_) (fun _ => ?_)
      · refine T_run hD 2 (c' := (96, [(18, 130), (0, x1), (1, x2), z3, (0, x4), (0, x5), (0, x6), (0, w32 (lAnd (lShr x2 (w32 (8 * x6))) 255))], [(0, 127), (0, w32 (lAnd (lShr x2 (w32 (8 * x6))) 255))], m, XX)) rfl ?_
        refine T_if hD (c1 := (117, _, _, _, _)) (c2 := (99, _, _, _, _)) rfl (fun _ => ?_) (fun _ => ?_)
        · refine T_run hD 5 (c' := (59, [(18, 130), (0, x1), (1, x2), z3, (0, x4), (0, 1), (0, w32 (x6 + 1)), (0, w32 (lAnd (lShr x2 (w32 (8 * x6))) 255))], [], m, XX)) rfl ?_
          exact T_back0 ⟨_, _, rfl⟩
        · exact tM_put_99 r m x1 x2 x4 x6 (w32 (lAnd (lShr x2 (w32 (8 * x6))) 255)) z3 (0, x5)
      · exact tM_put_99 r m x1 x2 x4 x6 (w32 (lAnd (lShr x2 (w32 (8 * x6))) 255)) z3 (0, x5)
  · refine T_run hD 2 (c' := (133, [(18, 130), (0, x1), (1, x2), z3, (0, x4), (0, x5), (0, 0), z7], [], m, XX)) rfl ?_
    exact T_map (tM_put_133 r m x1 x2 x4 x5 0 z3 z7)
def fM_put (m : aM) (x1 : Int) (x2 : Int) (x4 : Int) : Option (Int × aM) :=
  if 0 < x4 then
    if x4 < 9 then
      if x1 = 0 then
        if 240 < w32 ((m 130 2) + x4) then
          fM_put_59 (mup m 130 0 0) x1 x2 x4 0 0
        else
          fM_put_59 (mup m 130 0 0) x1 x2 x4 1 0
      else
        if 96 < w32 ((m 130 3) + x4) then
          fM_put_59 (mup m 130 0 0) x1 x2 x4 0 0
        else
          fM_put_59 (mup m 130 0 0) x1 x2 x4 1 0
    else
      fM_put_59 (mup m 130 0 0) x1 x2 x4 0 0
  else
    fM_put_59 (mup m 130 0 0) x1 x2 x4 0 0
set_option maxRecDepth 100000 in
theorem tM_put (m : aM) (x1 : Int) (x2 : Int) (x4 : Int) : ∀ v, fM_put m x1 x2 x4 = some v → Go PB 1 22 (aEnt d_M_put [(18, 130), (0, x1), (1, x2), (0, x4)] m XX) (1, (0, v.1), v.2, XX) := by
  intro v hv
  have hD : aMd PB 22 = d_M_put := rfl
  obtain ⟨r, hr⟩ : ∃ r : aR, r = (1, (0, v.1), v.2, XX) := ⟨_, rfl⟩
  have h9 : aT PB 1 22 r (fun w => r = (1, (0, w.1), w.2, XX)) (fM_put m x1 x2 x4) (0, [(18, 130), (0, x1), (1, x2), (99, 0), (0, x4), (99, 0), (99, 0), (99, 0)], [], m, XX) := by
    unfold fM_put
    refine T_run hD 4 (c' := (7, [(18, 130), (0, x1), (1, x2), (99, 0), (0, x4), (99, 0), (99, 0), (99, 0)], [(0, x4)], mup m 130 0 0, XX)) rfl ?_
    refine T_if hD (c1 := (10, _, _, _, _)) (c2 := (53, _, _, _, _)) rfl (fun _ => ?_) (fun _ => ?_)
    · refine T_run hD 2 (c' := (14, [(18, 130), (0, x1), (1, x2), (99, 0), (0, x4), (99, 0), (99, 0), (99, 0)], [(0, 9), (0, x4)], mup m 130 0 0, XX)) rfl ?_
      refine T_if hD (c1 := (17, _, _, _, _)) (c2 := (53, _, _, _, _)) rfl (fun _ => ?_) (fun _ => ?_)
      · refine T_run hD 1 (c' := (18, [(18, 130), (0, x1), (1, x2), (99, 0), (0, x4), (99, 0), (99, 0), (99, 0)], [(0, x1)], mup m 130 0 0, XX)) rfl ?_
        refine T_if hD (c1 := (36, _, _, _, _)) (c2 := (21, _, _, _, _)) rfl (fun _ => ?_) (fun _ => ?_)
        · refine T_run hD 5 (c' := (46, [(18, 130), (0, x1), (1, x2), (99, 0), (0, x4), (99, 0), (99, 0), (99, 0)], [(0, 240), (0, w32 ((m 130 2) + x4))], mup m 130 0 0, XX)) rfl ?_
          refine T_if hD (c1 := (53, _, _, _, _)) (c2 := (49, _, _, _, _)) rfl (fun _ => ?_) (fun _ => ?_)
          · refine T_run hD 4 (c' := (59, [(18, 130), (0, x1), (1, x2), (99, 0), (0, x4), (0, 0), (0, 0), (99, 0)], [], mup m 130 0 0, XX)) rfl ?_
            exact tM_put_59 r (mup m 130 0 0) x1 x2 x4 0 0 (99, 0) (99, 0)
          · refine T_run hD 5 (c' := (59, [(18, 130), (0, x1), (1, x2), (99, 0), (0, x4), (0, 1), (0, 0), (99, 0)], [], mup m 130 0 0, XX)) rfl ?_
            exact tM_put_59 r (mup m 130 0 0) x1 x2 x4 1 0 (99, 0) (99, 0)
        · refine T_run hD 5 (c' := (30, [(18, 130), (0, x1), (1, x2), (99, 0), (0, x4), (99, 0), (99, 0), (99, 0)], [(0, 96), (0, w32 ((m 130 3) + x4))], mup m 130 0 0, XX)) rfl ?_
          refine T_if hD (c1 := (53, _, _, _, _)) (c2 := (33, _, _, _, _)) rfl (fun _ => ?_) (fun _ => ?_)
          · refine T_run hD 4 (c' := (59, [(18, 130), (0, x1), (1, x2), (99, 0), (0, x4), (0, 0), (0, 0), (99, 0)], [], mup m 130 0 0, XX)) rfl ?_
            exact tM_put_59 r (mup m 130 0 0) x1 x2 x4 0 0 (99, 0) (99, 0)
          · refine T_run hD 6 (c' := (59, [(18, 130), (0, x1), (1, x2), (99, 0), (0, x4), (0, 1), (0, 0), (99, 0)], [], mup m 130 0 0, XX)) rfl ?_
            exact tM_put_59 r (mup m 130 0 0) x1 x2 x4 1 0 (99, 0) (99, 0)
      · refine T_run hD 4 (c' := (59, [(18, 130), (0, x1), (1, x2), (99, 0), (0, x4), (0, 0), (0, 0), (99, 0)], [], mup m 130 0 0, XX)) rfl ?_
        exact tM_put_59 r (mup m 130 0 0) x1 x2 x4 0 0 (99, 0) (99, 0)
    · refine T_run hD 4 (c' := (59, [(18, 130), (0, x1), (1, x2), (99, 0), (0, x4), (0, 0), (0, 0), (99, 0)], [], mup m 130 0 0, XX)) rfl ?_
      exact tM_put_59 r (mup m 130 0 0) x1 x2 x4 0 0 (99, 0) (99, 0)
  rw [← hr]
  exact h9 v hv hr
def fM_cut_43 (m : aM) (x1 : Int) (x2 : Int) (s1 : Int) : (Int × aM) :=
  if x1 = 0 then
    (1, mup (mup m 130 3 s1) 130 2 x2)
  else
    (1, mup (mup m 130 3 s1) 130 2 (m 130 2))
set_option maxRecDepth 100000 in
theorem tM_cut_43 (m : aM) (x1 : Int) (x2 : Int) (s1 : Int) : aU PB 1 23 (fun w => (1, (0, w.1), w.2, XX)) (fM_cut_43 m x1 x2 s1) (43, [(18, 130), (0, x1), (0, x2)], [(0, s1), (18, 130)], m, XX) := by
  have hD : aMd PB 23 = d_M_cut := rfl
  unfold fM_cut_43
  refine U_run hD 3 (c' := (48, [(18, 130), (0, x1), (0, x2)], [(0, x1), (18, 130)], mup m 130 3 s1, XX)) rfl ?_
  refine U_if hD (c1 := (58, _, _, _, _)) (c2 := (51, _, _, _, _)) rfl (fun _ => ?_) (fun _ => ?_)
  · refine U_run hD 3 (c' := (63, [(18, 130), (0, x1), (0, x2)], [(0, 1)], mup (mup m 130 3 s1) 130 2 x2, XX)) rfl ?_
    exact Go.fin hD rfl
  · refine U_run hD 5 (c' := (63, [(18, 130), (0, x1), (0, x2)], [(0, 1)], mup (mup m 130 3 s1) 130 2 (m 130 2), XX)) rfl ?_
    exact Go.fin hD rfl
def fM_cut_25 (m : aM) (x1 : Int) (x2 : Int) (s0 : Int) (s1 : Int) : (Int × aM) :=
  if s1 < s0 then
    (0, m)
  else
    if x1 = 0 then
      fM_cut_43 m x1 x2 (m 130 3)
    else
      fM_cut_43 m x1 x2 x2
set_option maxRecDepth 100000 in
theorem tM_cut_25 (m : aM) (x1 : Int) (x2 : Int) (s0 : Int) (s1 : Int) : aU PB 1 23 (fun w => (1, (0, w.1), w.2, XX)) (fM_cut_25 m x1 x2 s0 s1) (25, [(18, 130), (0, x1), (0, x2)], [(0, s1), (0, s0)], m, XX) := by
  have hD : aMd PB 23 = d_M_cut := rfl
  unfold fM_cut_25
  refine U_if hD (c1 := (28, _, _, _, _)) (c2 := (30, _, _, _, _)) rfl (fun _ => ?_) (fun _ => ?_)
  · refine U_run hD 1 (c' := (29, [(18, 130), (0, x1), (0, x2)], [(0, 0)], m, XX)) rfl ?_
    exact Go.fin hD rfl
  · refine U_run hD 2 (c' := (32, [(18, 130), (0, x1), (0, x2)], [(0, x1), (18, 130)], m, XX)) rfl ?_
    refine U_if hD (c1 := (39, _, _, _, _)) (c2 := (35, _, _, _, _)) rfl (fun _ => ?_) (fun _ => ?_)
    · refine U_run hD 2 (c' := (43, [(18, 130), (0, x1), (0, x2)], [(0, m 130 3), (18, 130)], m, XX)) rfl ?_
      exact tM_cut_43 m x1 x2 (m 130 3) 
    · refine U_run hD 2 (c' := (43, [(18, 130), (0, x1), (0, x2)], [(0, x2), (18, 130)], m, XX)) rfl ?_
      exact tM_cut_43 m x1 x2 x2 
def fM_cut (m : aM) (x1 : Int) (x2 : Int) : (Int × aM) :=
  if x2 < 0 then
    (0, mup m 130 0 0)
  else
    if x1 = 0 then
      fM_cut_25 (mup m 130 0 0) x1 x2 x2 (m 130 2)
    else
      fM_cut_25 (mup m 130 0 0) x1 x2 x2 (m 130 3)
set_option maxRecDepth 100000 in
theorem tM_cut (m : aM) (x1 : Int) (x2 : Int) : Go PB 1 23 (aEnt d_M_cut [(18, 130), (0, x1), (0, x2)] m XX) (1, (0, (fM_cut m x1 x2).1), (fM_cut m x1 x2).2, XX) := by
  have hD : aMd PB 23 = d_M_cut := rfl
  show aU PB 1 23 (fun w => (1, (0, w.1), w.2, XX)) (fM_cut m x1 x2) (0, [(18, 130), (0, x1), (0, x2)], [], m, XX)
  unfold fM_cut
  refine U_run hD 4 (c' := (6, [(18, 130), (0, x1), (0, x2)], [(0, x2)], mup m 130 0 0, XX)) rfl ?_
  refine U_if hD (c1 := (28, _, _, _, _)) (c2 := (9, _, _, _, _)) rfl (fun _ => ?_) (fun _ => ?_)
  · refine U_run hD 1 (c' := (29, [(18, 130), (0, x1), (0, x2)], [(0, 0)], mup m 130 0 0, XX)) rfl ?_
    exact Go.fin hD rfl
  · refine U_run hD 2 (c' := (11, [(18, 130), (0, x1), (0, x2)], [(0, x1), (0, x2)], mup m 130 0 0, XX)) rfl ?_
    refine U_if hD (c1 := (21, _, _, _, _)) (c2 := (14, _, _, _, _)) rfl (fun _ => ?_) (fun _ => ?_)
    · refine U_run hD 2 (c' := (25, [(18, 130), (0, x1), (0, x2)], [(0, m 130 2), (0, x2)], mup m 130 0 0, XX)) rfl ?_
      exact tM_cut_25 (mup m 130 0 0) x1 x2 x2 (m 130 2) 
    · refine U_run hD 3 (c' := (25, [(18, 130), (0, x1), (0, x2)], [(0, m 130 3), (0, x2)], mup m 130 0 0, XX)) rfl ?_
      exact tM_cut_25 (mup m 130 0 0) x1 x2 x2 (m 130 3) 
def fM_isDigit (x0 : Int) : Int :=
  if x0 < 48 then
    0
  else
    if 57 < x0 then
      0
    else
      1
set_option maxRecDepth 100000 in
theorem tM_isDigit (m : aM) (x0 : Int) : Go PB 1 24 (aEnt d_M_isDigit [(0, x0)] m XX) (1, (0, (fM_isDigit x0)), m, XX) := by
  have hD : aMd PB 24 = d_M_isDigit := rfl
  show aU PB 1 24 (fun w => (1, (0, w), m, XX)) (fM_isDigit x0) (0, [(0, x0)], [], m, XX)
  unfold fM_isDigit
  refine U_run hD 2 (c' := (3, [(0, x0)], [(0, 48), (0, x0)], m, XX)) rfl ?_
  refine U_if hD (c1 := (16, _, _, _, _)) (c2 := (6, _, _, _, _)) rfl (fun _ => ?_) (fun _ => ?_)
  · refine U_run hD 1 (c' := (17, [(0, x0)], [(0, 0)], m, XX)) rfl ?_
    exact Go.fin hD rfl
  · refine U_run hD 2 (c' := (9, [(0, x0)], [(0, 57), (0, x0)], m, XX)) rfl ?_
    refine U_if hD (c1 := (16, _, _, _, _)) (c2 := (12, _, _, _, _)) rfl (fun _ => ?_) (fun _ => ?_)
    · refine U_run hD 1 (c' := (17, [(0, x0)], [(0, 0)], m, XX)) rfl ?_
      exact Go.fin hD rfl
    · refine U_run hD 2 (c' := (17, [(0, x0)], [(0, 1)], m, XX)) rfl ?_
      exact Go.fin hD rfl
def fM_isLetter (x0 : Int) : Int :=
  if x0 < 97 then
    0
  else
    if 122 < x0 then
      0
    else
      1
set_option maxRecDepth 100000 in
theorem tM_isLetter (m : aM) (x0 : Int) : Go PB 1 25 (aEnt d_M_isLetter [(0, x0)] m XX) (1, (0, (fM_isLetter x0)), m, XX) := by
  have hD : aMd PB 25 = d_M_isLetter := rfl
  show aU PB 1 25 (fun w => (1, (0, w), m, XX)) (fM_isLetter x0) (0, [(0, x0)], [], m, XX)
  unfold fM_isLetter
  refine U_run hD 2 (c' := (3, [(0, x0)], [(0, 97), (0, x0)], m, XX)) rfl ?_
  refine U_if hD (c1 := (16, _, _, _, _)) (c2 := (6, _, _, _, _)) rfl (fun _ => ?_) (fun _ => ?_)
  · refine U_run hD 1 (c' := (17, [(0, x0)], [(0, 0)], m, XX)) rfl ?_
    exact Go.fin hD rfl
  · refine U_run hD 2 (c' := (9, [(0, x0)], [(0, 122), (0, x0)], m, XX)) rfl ?_
    refine U_if hD (c1 := (16, _, _, _, _)) (c2 := (12, _, _, _, _)) rfl (fun _ => ?_) (fun _ => ?_)
    · refine U_run hD 1 (c' := (17, [(0, x0)], [(0, 0)], m, XX)) rfl ?_
      exact Go.fin hD rfl
    · refine U_run hD 2 (c' := (17, [(0, x0)], [(0, 1)], m, XX)) rfl ?_
      exact Go.fin hD rfl
abbrev hM_isWhole_70 (m : aM) (x2 : Int) (x3 : Int) : (Int × Int) → aC → Prop := fun y c => ∃ (z1 : aV) (z6 : aV) (z7 : aV), c = (70, [(18, 130), z1, (0, x2), (0, x3), (0, (y.1)), (1, (y.2)), z6, z7], [], m, XX)
def fM_isWhole_153 (m : aM) (x3 : Int) (x5 : Int) : Option (Int × aM) :=
  if x3 = 0 then
    some ((1, mup m 130 20 (w64 (-x5))))
  else
    some ((1, mup m 130 20 x5))
set_option maxRecDepth 100000 in
theorem tM_isWhole_153 (r : aR) (m : aM) (x3 : Int) (x5 : Int) (z1 : aV) (z2 : aV) (z4 : aV) (z6 : aV) (z7 : aV) : aT PB 2 26 r (fun w => r = (1, (0, w.1), w.2, XX)) (fM_isWhole_153 m x3 x5) (153, [(18, 130), z1, z2, (0, x3), z4, (1, x5), z6, z7], [], m, XX) := by
  have hD : aMd PB 26 = d_M_isWhole := rfl
  unfold fM_isWhole_153
  refine T_run hD 2 (c' := (155, [(18, 130), z1, z2, (0, x3), z4, (1, x5), z6, z7], [(0, x3), (18, 130)], m, XX)) rfl ?_
  refine T_if hD (c1 := (163, _, _, _, _)) (c2 := (158, _, _, _, _)) rfl (fun _ => ?_) (fun _ => ?_)
  · refine T_run hD 4 (c' := (170, [(18, 130), z1, z2, (0, x3), z4, (1, x5), z6, z7], [(0, 1)], mup m 130 20 (w64 (-x5)), XX)) rfl ?_
    exact T_fin hD rfl (fun h => h)
  · refine T_run hD 4 (c' := (170, [(18, 130), z1, z2, (0, x3), z4, (1, x5), z6, z7], [(0, 1)], mup m 130 20 x5, XX)) rfl ?_
    exact T_fin hD rfl (fun h => h)
def fM_isWhole_70_b (m : aM) (x2 : Int) (x3 : Int) : (Int × Int) → Option ((Int × Int) ⊕ (Int × aM)) := fun (x4, x5) =>
  if x4 < x2 then
    gd (0 ≤ x4 ∧ x4 < 600) (
    if fM_isDigit (m 131 x4) = 0 then
      some (Sum.inr ((0, m)))
    else
      if cmp3 x5 (w64 (Int.tdiv (w64 ((-9223372036854775808) + (w32 ((m 131 x4) - 48)))) 10)) < 0 then
        some (Sum.inr ((0, m)))
      else
        some (Sum.inl (w32 (x4 + 1), w64 ((w64 (10 * x5)) - (w32 ((m 131 x4) - 48))))))
  else
    if x3 = 0 then
      if cmp3 x5 (-9223372036854775808) = 0 then
        some (Sum.inr ((0, m)))
      else
        (fM_isWhole_153 m x3 x5).map Sum.inr
    else
      (fM_isWhole_153 m x3 x5).map Sum.inr
def fM_isWhole_70 (m : aM) (x2 : Int) (x3 : Int) (x4 : Int) (x5 : Int) : Option (Int × aM) := aLoop (fM_isWhole_70_b m x2 x3) FU (x4, x5)
set_option maxRecDepth 100000 in
theorem tM_isWhole_70 (r : aR) (m : aM) (x2 : Int) (x3 : Int) (x4 : Int) (x5 : Int) (z1 : aV) (z6 : aV) (z7 : aV) : aT PB 2 26 r (fun w => r = (1, (0, w.1), w.2, XX)) (fM_isWhole_70 m x2 x3 x4 x5) (70, [(18, 130), z1, (0, x2), (0, x3), (0, x4), (1, x5), z6, z7], [], m, XX) := by
  have hD : aMd PB 26 = d_M_isWhole := rfl
  refine T_loop (Hd := (hM_isWhole_70 m x2 x3)) ?_ FU _ _ ⟨z1, z6, z7, rfl⟩
  clear x4 x5 z1 z6 z7
  intro y c hc
  obtain ⟨x4, x5⟩ := y
  obtain ⟨z1, z6, z7, rfl⟩ := hc
  unfold fM_isWhole_70_b
  try dsimp only
  refine T_run hD 2 (c' := (73, [(18, 130), z1, (0, x2), (0, x3), (0, x4), (1, x5), z6, z7], [(0, x2), (0, x4)], m, XX)) rfl ?_
  refine T_if hD (c1 := (76, _, _, _, _)) (c2 := (138, _, _, _, _)) rfl (fun _ => ?_) (fun _ => ?_)
  · refine T_run hD 3 (c' := (82, [(18, 130), z1, (0, x2), (0, x3), (0, x4), (1, x5), z6, z7], [(0, x4), (31, 131)], m, XX)) rfl ?_
    refine T_gd hD (c1 := (83, [(18, 130), z1, (0, x2), (0, x3), (0, x4), (1, x5), z6, z7], [(0, m 131 x4)], m, XX)) rfl (fun g3 => ?_)
    refine T_run hD 6 (c' := (94, [(18, 130), z1, (0, x2), (0, x3), (0, x4), (1, x5), aJ z6, (0, w32 ((m 131 x4) - 48))], [(0, x4), (31, 131)], m, XX)) rfl ?_
    refine T_gk hD (c1 := (95, [(18, 130), z1, (0, x2), (0, x3), (0, x4), (1, x5), aJ z6, (0, w32 ((m 131 x4) - 48))], [(0, m 131 x4)], m, XX)) (P := 0 ≤ x4 ∧ x4 < 600) rfl g3 ?_
    refine T_call0 hD (D2 := d_M_isDigit) (q2 := 24) (as := [(0, m 131 x4)]) (c1 := (98, [(18, 130), z1, (0, x2), (0, x3), (0, x4), (1, x5), aJ z6, (0, w32 ((m 131 x4) - 48))], [], m, XX)) (r2 := (1, (0, fM_isDigit (m 131 x4)), m, XX)) (c2 := (98, [(18, 130), z1, (0, x2), (0, x3), (0, x4), (1, x5), aJ z6, (0, w32 ((m 131 x4) - 48))], [(0, fM_isDigit (m 131 x4))], m, XX)) rfl rfl (Go.mono (tM_isDigit m (m 131 x4)) (by decide)) rfl ?_
    refine T_if hD (c1 := (118, _, _, _, _)) (c2 := (101, _, _, _, _)) rfl (fun _ => ?_) (fun _ => ?_)
    · refine T_run hD 1 (c' := (119, [(18, 130), z1, (0, x2), (0, x3), (0, x4), (1, x5), aJ z6, (0, w32 ((m 131 x4) - 48))], [(0, 0)], m, XX)) rfl ?_
      exact T_fin hD rfl (fun h => h)
    · refine T_run hD 8 (c' := (115, [(18, 130), z1, (0, x2), (0, x3), (0, x4), (1, x5), aJ z6, (0, w32 ((m 131 x4) - 48))], [(0, cmp3 x5 (w64 (Int.tdiv (w64 ((-9223372036854775808) + (w32 ((m 131 x4) - 48)))) 10)))], m, XX)) rfl ?_
      refine T_if hD (c1 := (118, _, _, _, _)) (c2 := (120, _, _, _, _)) rfl (fun _ => ?_) (fun _ => ?_)
      · refine T_run hD 1 (c' := (119, [(18, 130), z1, (0, x2), (0, x3), (0, x4), (1, x5), aJ z6, (0, w32 ((m 131 x4) - 48))], [(0, 0)], m, XX)) rfl ?_
        exact T_fin hD rfl (fun h => h)
      · refine T_run hD 9 (c' := (70, [(18, 130), z1, (0, x2), (0, x3), (0, w32 (x4 + 1)), (1, w64 ((w64 (10 * x5)) - (w32 ((m 131 x4) - 48)))), (99, 0), (0, w32 ((m 131 x4) - 48))], [], m, XX)) rfl ?_
        exact T_back0 ⟨_, _, _, rfl⟩
  · refine T_run hD 1 (c' := (139, [(18, 130), z1, (0, x2), (0, x3), (0, x4), (1, x5), z6, z7], [(0, x3)], m, XX)) rfl ?_
    refine T_if hD (c1 := (142, _, _, _, _)) (c2 := (153, _, _, _, _)) rfl (fun _ => ?_) (fun _ => ?_)
    · refine T_run hD 3 (c' := (148, [(18, 130), z1, (0, x2), (0, x3), (0, x4), (1, x5), z6, z7], [(0, cmp3 x5 (-9223372036854775808))], m, XX)) rfl ?_
      refine T_if hD (c1 := (151, _, _, _, _)) (c2 := (153, _, _, _, _)) rfl (fun _ => ?_) (fun _ => ?_)
      · refine T_run hD 1 (c' := (152, [(18, 130), z1, (0, x2), (0, x3), (0, x4), (1, x5), z6, z7], [(0, 0)], m, XX)) rfl ?_
        exact T_fin hD rfl (fun h => h)
      · exact T_map (tM_isWhole_153 r m x3 x5 z1 (0, x2) (0, x4) z6 z7)
    · exact T_map (tM_isWhole_153 r m x3 x5 z1 (0, x2) (0, x4) z6 z7)
def fM_isWhole_33 (m : aM) (x2 : Int) (x3 : Int) (s0 : Int) : Option (Int × aM) :=
  if s0 < x2 then
    gd (0 ≤ s0 ∧ s0 < 600) (
    if m 131 s0 = 48 then
      if x3 = 0 then
        if 1 < w32 (x2 - s0) then
          some ((0, m))
        else
          fM_isWhole_70 m x2 x3 s0 0
      else
        some ((0, m))
    else
      fM_isWhole_70 m x2 x3 s0 0)
  else
    some ((0, m))
set_option maxRecDepth 100000 in
theorem tM_isWhole_33 (r : aR) (m : aM) (x2 : Int) (x3 : Int) (s0 : Int) (z1 : aV) (z4 : aV) (z5 : aV) (z6 : aV) (z7 : aV) : aT PB 2 26 r (fun w => r = (1, (0, w.1), w.2, XX)) (fM_isWhole_33 m x2 x3 s0) (33, [(18, 130), z1, (0, x2), (0, x3), z4, z5, z6, z7], [(0, s0)], m, XX) := by
  have hD : aMd PB 26 = d_M_isWhole := rfl
  unfold fM_isWhole_33
  refine T_run hD 3 (c' := (38, [(18, 130), z1, (0, x2), (0, x3), (0, s0), z5, z6, z7], [(0, x2), (0, s0)], m, XX)) rfl ?_
  refine T_if hD (c1 := (41, _, _, _, _)) (c2 := (65, _, _, _, _)) rfl (fun _ => ?_) (fun _ => ?_)
  · refine T_run hD 3 (c' := (47, [(18, 130), z1, (0, x2), (0, x3), (0, s0), z5, z6, z7], [(0, s0), (31, 131)], m, XX)) rfl ?_
    refine T_gd hD (c1 := (48, [(18, 130), z1, (0, x2), (0, x3), (0, s0), z5, z6, z7], [(0, m 131 s0)], m, XX)) rfl (fun g2 => ?_)
    refine T_run hD 1 (c' := (50, [(18, 130), z1, (0, x2), (0, x3), (0, s0), z5, z6, z7], [(0, 48), (0, m 131 s0)], m, XX)) rfl ?_
    refine T_if hD (c1 := (53, _, _, _, _)) (c2 := (67, _, _, _, _)) rfl (fun _ => ?_) (fun _ => ?_)
    · refine T_run hD 1 (c' := (54, [(18, 130), z1, (0, x2), (0, x3), (0, s0), z5, z6, z7], [(0, x3)], m, XX)) rfl ?_
      refine T_if hD (c1 := (57, _, _, _, _)) (c2 := (65, _, _, _, _)) rfl (fun _ => ?_) (fun _ => ?_)
      · refine T_run hD 4 (c' := (62, [(18, 130), z1, (0, x2), (0, x3), (0, s0), z5, z6, z7], [(0, 1), (0, w32 (x2 - s0))], m, XX)) rfl ?_
        refine T_if hD (c1 := (65, _, _, _, _)) (c2 := (67, _, _, _, _)) rfl (fun _ => ?_) (fun _ => ?_)
        · refine T_run hD 1 (c' := (66, [(18, 130), z1, (0, x2), (0, x3), (0, s0), z5, z6, z7], [(0, 0)], m, XX)) rfl ?_
          exact T_fin hD rfl (fun h => h)
        · refine T_run hD 2 (c' := (70, [(18, 130), z1, (0, x2), (0, x3), (0, s0), (1, 0), (99, 0), z7], [], m, XX)) rfl ?_
          exact tM_isWhole_70 r m x2 x3 s0 0 z1 (99, 0) z7
      · refine T_run hD 1 (c' := (66, [(18, 130), z1, (0, x2), (0, x3), (0, s0), z5, z6, z7], [(0, 0)], m, XX)) rfl ?_
        exact T_fin hD rfl (fun h => h)
    · refine T_run hD 2 (c' := (70, [(18, 130), z1, (0, x2), (0, x3), (0, s0), (1, 0), (99, 0), z7], [], m, XX)) rfl ?_
      exact tM_isWhole_70 r m x2 x3 s0 0 z1 (99, 0) z7
  · refine T_run hD 1 (c' := (66, [(18, 130), z1, (0, x2), (0, x3), (0, s0), z5, z6, z7], [(0, 0)], m, XX)) rfl ?_
    exact T_fin hD rfl (fun h => h)
def fM_isWhole_21 (m : aM) (x1 : Int) (x2 : Int) (s0 : Int) : Option (Int × aM) :=
  if s0 = 0 then
    fM_isWhole_33 m x2 s0 x1
  else
    fM_isWhole_33 m x2 s0 (w32 (x1 + 1))
set_option maxRecDepth 100000 in
theorem tM_isWhole_21 (r : aR) (m : aM) (x1 : Int) (x2 : Int) (s0 : Int) (z3 : aV) (z4 : aV) (z5 : aV) (z6 : aV) (z7 : aV) : aT PB 2 26 r (fun w => r = (1, (0, w.1), w.2, XX)) (fM_isWhole_21 m x1 x2 s0) (21, [(18, 130), (0, x1), (0, x2), z3, z4, z5, z6, z7], [(0, s0)], m, XX) := by
  have hD : aMd PB 26 = d_M_isWhole := rfl
  unfold fM_isWhole_21
  refine T_run hD 2 (c' := (23, [(18, 130), (0, x1), (0, x2), (0, s0), z4, z5, z6, z7], [(0, s0)], m, XX)) rfl ?_
  refine T_if hD (c1 := (32, _, _, _, _)) (c2 := (26, _, _, _, _)) rfl (fun _ => ?_) (fun _ => ?_)
  · refine T_run hD 1 (c' := (33, [(18, 130), (0, x1), (0, x2), (0, s0), z4, z5, z6, z7], [(0, x1)], m, XX)) rfl ?_
    exact tM_isWhole_33 r m x2 s0 x1 (0, x1) z4 z5 z6 z7
  · refine T_run hD 4 (c' := (33, [(18, 130), (0, x1), (0, x2), (0, s0), z4, z5, z6, z7], [(0, w32 (x1 + 1))], m, XX)) rfl ?_
    exact tM_isWhole_33 r m x2 s0 (w32 (x1 + 1)) (0, x1) z4 z5 z6 z7
def fM_isWhole (m : aM) (x1 : Int) (x2 : Int) : Option (Int × aM) :=
  if x1 < x2 then
    gd (0 ≤ x1 ∧ x1 < 600) (
    if m 131 x1 = 45 then
      fM_isWhole_21 m x1 x2 1
    else
      fM_isWhole_21 m x1 x2 0)
  else
    fM_isWhole_21 m x1 x2 0
set_option maxRecDepth 100000 in
theorem tM_isWhole (m : aM) (x1 : Int) (x2 : Int) : ∀ v, fM_isWhole m x1 x2 = some v → Go PB 2 26 (aEnt d_M_isWhole [(18, 130), (0, x1), (0, x2)] m XX) (1, (0, v.1), v.2, XX) := by
  intro v hv
  have hD : aMd PB 26 = d_M_isWhole := rfl
  obtain ⟨r, hr⟩ : ∃ r : aR, r = (1, (0, v.1), v.2, XX) := ⟨_, rfl⟩
  have h9 : aT PB 2 26 r (fun w => r = (1, (0, w.1), w.2, XX)) (fM_isWhole m x1 x2) (0, [(18, 130), (0, x1), (0, x2), (99, 0), (99, 0), (99, 0), (99, 0), (99, 0)], [], m, XX) := by
    unfold fM_isWhole
    refine T_run hD 2 (c' := (2, [(18, 130), (0, x1), (0, x2), (99, 0), (99, 0), (99, 0), (99, 0), (99, 0)], [(0, x2), (0, x1)], m, XX)) rfl ?_
    refine T_if hD (c1 := (5, _, _, _, _)) (c2 := (20, _, _, _, _)) rfl (fun _ => ?_) (fun _ => ?_)
    · refine T_run hD 3 (c' := (10, [(18, 130), (0, x1), (0, x2), (99, 0), (99, 0), (99, 0), (99, 0), (99, 0)], [(0, x1), (31, 131)], m, XX)) rfl ?_
      refine T_gd hD (c1 := (11, [(18, 130), (0, x1), (0, x2), (99, 0), (99, 0), (99, 0), (99, 0), (99, 0)], [(0, m 131 x1)], m, XX)) rfl (fun g1 => ?_)
      refine T_run hD 1 (c' := (13, [(18, 130), (0, x1), (0, x2), (99, 0), (99, 0), (99, 0), (99, 0), (99, 0)], [(0, 45), (0, m 131 x1)], m, XX)) rfl ?_
      refine T_if hD (c1 := (16, _, _, _, _)) (c2 := (20, _, _, _, _)) rfl (fun _ => ?_) (fun _ => ?_)
      · refine T_run hD 2 (c' := (21, [(18, 130), (0, x1), (0, x2), (99, 0), (99, 0), (99, 0), (99, 0), (99, 0)], [(0, 1)], m, XX)) rfl ?_
        exact tM_isWhole_21 r m x1 x2 1 (99, 0) (99, 0) (99, 0) (99, 0) (99, 0)
      · refine T_run hD 1 (c' := (21, [(18, 130), (0, x1), (0, x2), (99, 0), (99, 0), (99, 0), (99, 0), (99, 0)], [(0, 0)], m, XX)) rfl ?_
        exact tM_isWhole_21 r m x1 x2 0 (99, 0) (99, 0) (99, 0) (99, 0) (99, 0)
    · refine T_run hD 1 (c' := (21, [(18, 130), (0, x1), (0, x2), (99, 0), (99, 0), (99, 0), (99, 0), (99, 0)], [(0, 0)], m, XX)) rfl ?_
      exact tM_isWhole_21 r m x1 x2 0 (99, 0) (99, 0) (99, 0) (99, 0) (99, 0)
  rw [← hr]
  exact h9 v hv hr
abbrev hM_digits_5 (x1 : Int) (x2 : Int) : (aM × Int × Int) → aC → Prop := fun y c => c = (5, [(18, 130), (0, x1), (0, x2), (0, (y.2.1)), (0, (y.2.2))], [], (y.1), XX)
def fM_digits_39 (m : aM) (x1 : Int) (x2 : Int) (x3 : Int) (x4 : Int) (s1 : Int) : Option ((aM × Int × Int) ⊕ (Int × aM)) :=
  gd (s1 = 0 ∨ s1 = 1) (
  gd (0 ≤ x4 ∧ x4 < 600) (
  some (Sum.inl (mup m 130 19 s1, w32 ((w32 ((w32 (10 * x3)) + (m 131 x4))) - 48), w32 (x4 + 1)))))
set_option maxRecDepth 100000 in
theorem tM_digits_39 (r : aR) (m : aM) (x1 : Int) (x2 : Int) (x3 : Int) (x4 : Int) (s1 : Int) : aT PB 2 27 r (aTurn PB 2 27 r (hM_digits_5 x1 x2) (fun w => r = (1, (0, w.1), w.2, XX))) (fM_digits_39 m x1 x2 x3 x4 s1) (39, [(18, 130), (0, x1), (0, x2), (0, x3), (0, x4)], [(0, s1), (18, 130)], m, XX) := by
  have hD : aMd PB 27 = d_M_digits := rfl
  unfold fM_digits_39
  refine T_gd hD (c1 := (42, [(18, 130), (0, x1), (0, x2), (0, x3), (0, x4)], [], mup m 130 19 s1, XX)) rfl (fun g1 => ?_)
  refine T_run hD 6 (c' := (52, [(18, 130), (0, x1), (0, x2), (0, x3), (0, x4)], [(0, x4), (31, 131), (0, w32 (10 * x3))], mup m 130 19 s1, XX)) rfl ?_
  refine T_gd hD (c1 := (53, [(18, 130), (0, x1), (0, x2), (0, x3), (0, x4)], [(0, m 131 x4), (0, w32 (10 * x3))], mup m 130 19 s1, XX)) rfl (fun g2 => ?_)
  refine T_run hD 6 (c' := (5, [(18, 130), (0, x1), (0, x2), (0, w32 ((w32 ((w32 (10 * x3)) + (m 131 x4))) - 48)), (0, w32 (x4 + 1))], [], mup m 130 19 s1, XX)) rfl ?_
  exact T_back0 rfl
def fM_digits_5_b (x1 : Int) (x2 : Int) : (aM × Int × Int) → Option ((aM × Int × Int) ⊕ (Int × aM)) := fun (m, x3, x4) =>
  if x4 < w32 (x1 + x2) then
    if m 130 19 = 0 then
      fM_digits_39 m x1 x2 x3 x4 0
    else
      gd (0 ≤ x4 ∧ x4 < 600) (
      if fM_isDigit (m 131 x4) = 0 then
        fM_digits_39 m x1 x2 x3 x4 0
      else
        fM_digits_39 m x1 x2 x3 x4 1)
  else
    some (Sum.inr ((x3, m)))
def fM_digits_5 (m : aM) (x1 : Int) (x2 : Int) (x3 : Int) (x4 : Int) : Option (Int × aM) := aLoop (fM_digits_5_b x1 x2) FU (m, x3, x4)
set_option maxRecDepth 100000 in
theorem tM_digits_5 (r : aR) (m : aM) (x1 : Int) (x2 : Int) (x3 : Int) (x4 : Int) : aT PB 2 27 r (fun w => r = (1, (0, w.1), w.2, XX)) (fM_digits_5 m x1 x2 x3 x4) (5, [(18, 130), (0, x1), (0, x2), (0, x3), (0, x4)], [], m, XX) := by
  have hD : aMd PB 27 = d_M_digits := rfl
  refine T_loop (Hd := (hM_digits_5 x1 x2)) ?_ FU _ _ rfl
  clear m x3 x4
  intro y c hc
  obtain ⟨m, x3, x4⟩ := y
  obtain rfl := hc
  unfold fM_digits_5_b
  try dsimp only
  refine T_run hD 4 (c' := (10, [(18, 130), (0, x1), (0, x2), (0, x3), (0, x4)], [(0, w32 (x1 + x2)), (0, x4)], m, XX)) rfl ?_
  refine T_if hD (c1 := (13, _, _, _, _)) (c2 := (64, _, _, _, _)) rfl (fun _ => ?_) (fun _ => ?_)
  · refine T_run hD 3 (c' := (18, [(18, 130), (0, x1), (0, x2), (0, x3), (0, x4)], [(0, m 130 19), (18, 130)], m, XX)) rfl ?_
    refine T_if hD (c1 := (38, _, _, _, _)) (c2 := (21, _, _, _, _)) rfl (fun _ => ?_) (fun _ => ?_)
    · refine T_run hD 1 (c' := (39, [(18, 130), (0, x1), (0, x2), (0, x3), (0, x4)], [(0, 0), (18, 130)], m, XX)) rfl ?_
      exact tM_digits_39 r m x1 x2 x3 x4 0 
    · refine T_run hD 3 (c' := (27, [(18, 130), (0, x1), (0, x2), (0, x3), (0, x4)], [(0, x4), (31, 131), (18, 130)], m, XX)) rfl ?_
      refine T_gd hD (c1 := (28, [(18, 130), (0, x1), (0, x2), (0, x3), (0, x4)], [(0, m 131 x4), (18, 130)], m, XX)) rfl (fun g3 => ?_)
      refine T_call0 hD (D2 := d_M_isDigit) (q2 := 24) (as := [(0, m 131 x4)]) (c1 := (31, [(18, 130), (0, x1), (0, x2), (0, x3), (0, x4)], [(18, 130)], m, XX)) (r2 := (1, (0, fM_isDigit (m 131 x4)), m, XX)) (c2 := (31, [(18, 130), (0, x1), (0, x2), (0, x3), (0, x4)], [(0, fM_isDigit (m 131 x4)), (18, 130)], m, XX)) rfl rfl (Go.mono (tM_isDigit m (m 131 x4)) (by decide)) rfl ?_
      refine T_if hD (c1 := (38, _, _, _, _)) (c2 := (34, _, _, _, _)) rfl (fun _ => ?_) (fun _ => ?_)
      · refine T_run hD 1 (c' := (39, [(18, 130), (0, x1), (0, x2), (0, x3), (0, x4)], [(0, 0), (18, 130)], m, XX)) rfl ?_
        exact tM_digits_39 r m x1 x2 x3 x4 0 
      · refine T_run hD 2 (c' := (39, [(18, 130), (0, x1), (0, x2), (0, x3), (0, x4)], [(0, 1), (18, 130)], m, XX)) rfl ?_
        exact tM_digits_39 r m x1 x2 x3 x4 1 
  · refine T_run hD 1 (c' := (65, [(18, 130), (0, x1), (0, x2), (0, x3), (0, x4)], [(0, x3)], m, XX)) rfl ?_
    exact T_fin hD rfl (fun h => h)
def fM_digits (m : aM) (x1 : Int) (x2 : Int) : Option (Int × aM) :=
  fM_digits_5 m x1 x2 0 x1
set_option maxRecDepth 100000 in
theorem tM_digits (m : aM) (x1 : Int) (x2 : Int) : ∀ v, fM_digits m x1 x2 = some v → Go PB 2 27 (aEnt d_M_digits [(18, 130), (0, x1), (0, x2)] m XX) (1, (0, v.1), v.2, XX) := by
  intro v hv
  have hD : aMd PB 27 = d_M_digits := rfl
  obtain ⟨r, hr⟩ : ∃ r : aR, r = (1, (0, v.1), v.2, XX) := ⟨_, rfl⟩
  have h9 : aT PB 2 27 r (fun w => r = (1, (0, w.1), w.2, XX)) (fM_digits m x1 x2) (0, [(18, 130), (0, x1), (0, x2), (99, 0), (99, 0)], [], m, XX) := by
    unfold fM_digits
    refine T_run hD 4 (c' := (5, [(18, 130), (0, x1), (0, x2), (0, 0), (0, x1)], [], m, XX)) rfl ?_
    exact tM_digits_5 r m x1 x2 0 x1 
  rw [← hr]
  exact h9 v hv hr
def fM_isDate_153 (m : aM) (x3 : Int) (x4 : Int) (x5 : Int) (s0 : Int) : Option (Int × aM) :=
  if m 130 19 = 0 then
    some ((0, mup m 130 20 (w64 ((w64 ((w64 (10000 * x3)) + (w64 (100 * x4)))) + x5))))
  else
    if 0 < x3 then
      if 0 < x4 then
        if x4 < 13 then
          if 0 < x5 then
            if s0 < x5 then
              some ((0, mup m 130 20 (w64 ((w64 ((w64 (10000 * x3)) + (w64 (100 * x4)))) + x5))))
            else
              some ((1, mup m 130 20 (w64 ((w64 ((w64 (10000 * x3)) + (w64 (100 * x4)))) + x5))))
          else
            some ((0, mup m 130 20 (w64 ((w64 ((w64 (10000 * x3)) + (w64 (100 * x4)))) + x5))))
        else
          some ((0, mup m 130 20 (w64 ((w64 ((w64 (10000 * x3)) + (w64 (100 * x4)))) + x5))))
      else
        some ((0, mup m 130 20 (w64 ((w64 ((w64 (10000 * x3)) + (w64 (100 * x4)))) + x5))))
    else
      some ((0, mup m 130 20 (w64 ((w64 ((w64 (10000 * x3)) + (w64 (100 * x4)))) + x5))))
set_option maxRecDepth 100000 in
theorem tM_isDate_153 (r : aR) (m : aM) (x3 : Int) (x4 : Int) (x5 : Int) (s0 : Int) (z1 : aV) (z2 : aV) (z6 : aV) (z7 : aV) : aT PB 3 28 r (fun w => r = (1, (0, w.1), w.2, XX)) (fM_isDate_153 m x3 x4 x5 s0) (153, [(18, 130), z1, z2, (0, x3), (0, x4), (0, x5), z6, z7], [(0, s0)], m, XX) := by
  have hD : aMd PB 28 = d_M_isDate := rfl
  unfold fM_isDate_153
  refine T_run hD 17 (c' := (181, [(18, 130), z1, z2, (0, x3), (0, x4), (0, x5), aJ z6, (0, s0)], [(0, m 130 19)], mup m 130 20 (w64 ((w64 ((w64 (10000 * x3)) + (w64 (100 * x4)))) + x5)), XX)) rfl ?_
  refine T_if hD (c1 := (216, _, _, _, _)) (c2 := (184, _, _, _, _)) rfl (fun _ => ?_) (fun _ => ?_)
  · refine T_run hD 1 (c' := (217, [(18, 130), z1, z2, (0, x3), (0, x4), (0, x5), aJ z6, (0, s0)], [(0, 0)], mup m 130 20 (w64 ((w64 ((w64 (10000 * x3)) + (w64 (100 * x4)))) + x5)), XX)) rfl ?_
    exact T_fin hD rfl (fun h => h)
  · refine T_run hD 1 (c' := (185, [(18, 130), z1, z2, (0, x3), (0, x4), (0, x5), aJ z6, (0, s0)], [(0, x3)], mup m 130 20 (w64 ((w64 ((w64 (10000 * x3)) + (w64 (100 * x4)))) + x5)), XX)) rfl ?_
    refine T_if hD (c1 := (188, _, _, _, _)) (c2 := (216, _, _, _, _)) rfl (fun _ => ?_) (fun _ => ?_)
    · refine T_run hD 1 (c' := (190, [(18, 130), z1, z2, (0, x3), (0, x4), (0, x5), aJ z6, (0, s0)], [(0, x4)], mup m 130 20 (w64 ((w64 ((w64 (10000 * x3)) + (w64 (100 * x4)))) + x5)), XX)) rfl ?_
      refine T_if hD (c1 := (193, _, _, _, _)) (c2 := (216, _, _, _, _)) rfl (fun _ => ?_) (fun _ => ?_)
      · refine T_run hD 2 (c' := (197, [(18, 130), z1, z2, (0, x3), (0, x4), (0, x5), aJ z6, (0, s0)], [(0, 13), (0, x4)], mup m 130 20 (w64 ((w64 ((w64 (10000 * x3)) + (w64 (100 * x4)))) + x5)), XX)) rfl ?_
        refine T_if hD (c1 := (200, _, _, _, _)) (c2 := (216, _, _, _, _)) rfl (fun _ => ?_) (fun _ => ?_)
        · refine T_run hD 1 (c' := (202, [(18, 130), z1, z2, (0, x3), (0, x4), (0, x5), aJ z6, (0, s0)], [(0, x5)], mup m 130 20 (w64 ((w64 ((w64 (10000 * x3)) + (w64 (100 * x4)))) + x5)), XX)) rfl ?_
          refine T_if hD (c1 := (205, _, _, _, _)) (c2 := (216, _, _, _, _)) rfl (fun _ => ?_) (fun _ => ?_)
          · refine T_run hD 2 (c' := (209, [(18, 130), z1, z2, (0, x3), (0, x4), (0, x5), aJ z6, (0, s0)], [(0, s0), (0, x5)], mup m 130 20 (w64 ((w64 ((w64 (10000 * x3)) + (w64 (100 * x4)))) + x5)), XX)) rfl ?_
            refine T_if hD (c1 := (216, _, _, _, _)) (c2 := (212, _, _, _, _)) rfl (fun _ => ?_) (fun _ => ?_)
            · refine T_run hD 1 (c' := (217, [(18, 130), z1, z2, (0, x3), (0, x4), (0, x5), aJ z6, (0, s0)], [(0, 0)], mup m 130 20 (w64 ((w64 ((w64 (10000 * x3)) + (w64 (100 * x4)))) + x5)), XX)) rfl ?_
              exact T_fin hD rfl (fun h => h)
            · refine T_run hD 2 (c' := (217, [(18, 130), z1, z2, (0, x3), (0, x4), (0, x5), aJ z6, (0, s0)], [(0, 1)], mup m 130 20 (w64 ((w64 ((w64 (10000 * x3)) + (w64 (100 * x4)))) + x5)), XX)) rfl ?_
              exact T_fin hD rfl (fun h => h)
          · refine T_run hD 1 (c' := (217, [(18, 130), z1, z2, (0, x3), (0, x4), (0, x5), aJ z6, (0, s0)], [(0, 0)], mup m 130 20 (w64 ((w64 ((w64 (10000 * x3)) + (w64 (100 * x4)))) + x5)), XX)) rfl ?_
            exact T_fin hD rfl (fun h => h)
        · refine T_run hD 1 (c' := (217, [(18, 130), z1, z2, (0, x3), (0, x4), (0, x5), aJ z6, (0, s0)], [(0, 0)], mup m 130 20 (w64 ((w64 ((w64 (10000 * x3)) + (w64 (100 * x4)))) + x5)), XX)) rfl ?_
          exact T_fin hD rfl (fun h => h)
      · refine T_run hD 1 (c' := (217, [(18, 130), z1, z2, (0, x3), (0, x4), (0, x5), aJ z6, (0, s0)], [(0, 0)], mup m 130 20 (w64 ((w64 ((w64 (10000 * x3)) + (w64 (100 * x4)))) + x5)), XX)) rfl ?_
        exact T_fin hD rfl (fun h => h)
    · refine T_run hD 1 (c' := (217, [(18, 130), z1, z2, (0, x3), (0, x4), (0, x5), aJ z6, (0, s0)], [(0, 0)], mup m 130 20 (w64 ((w64 ((w64 (10000 * x3)) + (w64 (100 * x4)))) + x5)), XX)) rfl ?_
      exact T_fin hD rfl (fun h => h)
def fM_isDate_96 (m : aM) (x3 : Int) (x4 : Int) (x5 : Int) (s0 : Int) : Option (Int × aM) :=
  if x4 = 2 then
    if s0 = 0 then
      fM_isDate_153 m x3 x4 x5 28
    else
      fM_isDate_153 m x3 x4 x5 29
  else
    if x4 = 4 then
      fM_isDate_153 m x3 x4 x5 30
    else
      if x4 = 6 then
        fM_isDate_153 m x3 x4 x5 30
      else
        if x4 = 9 then
          fM_isDate_153 m x3 x4 x5 30
        else
          if x4 = 11 then
            fM_isDate_153 m x3 x4 x5 30
          else
            fM_isDate_153 m x3 x4 x5 31
set_option maxRecDepth 100000 in
theorem tM_isDate_96 (r : aR) (m : aM) (x3 : Int) (x4 : Int) (x5 : Int) (s0 : Int) (z1 : aV) (z2 : aV) (z6 : aV) (z7 : aV) : aT PB 3 28 r (fun w => r = (1, (0, w.1), w.2, XX)) (fM_isDate_96 m x3 x4 x5 s0) (96, [(18, 130), z1, z2, (0, x3), (0, x4), (0, x5), z6, z7], [(0, s0)], m, XX) := by
  have hD : aMd PB 28 = d_M_isDate := rfl
  unfold fM_isDate_96
  refine T_run hD 3 (c' := (101, [(18, 130), z1, z2, (0, x3), (0, x4), (0, x5), (0, s0), z7], [(0, 2), (0, x4)], m, XX)) rfl ?_
  refine T_if hD (c1 := (104, _, _, _, _)) (c2 := (119, _, _, _, _)) rfl (fun _ => ?_) (fun _ => ?_)
  · refine T_run hD 1 (c' := (106, [(18, 130), z1, z2, (0, x3), (0, x4), (0, x5), (0, s0), z7], [(0, s0)], m, XX)) rfl ?_
    refine T_if hD (c1 := (114, _, _, _, _)) (c2 := (109, _, _, _, _)) rfl (fun _ => ?_) (fun _ => ?_)
    · refine T_run hD 2 (c' := (153, [(18, 130), z1, z2, (0, x3), (0, x4), (0, x5), (0, s0), z7], [(0, 28)], m, XX)) rfl ?_
      exact tM_isDate_153 r m x3 x4 x5 28 z1 z2 (0, s0) z7
    · refine T_run hD 2 (c' := (153, [(18, 130), z1, z2, (0, x3), (0, x4), (0, x5), (0, s0), z7], [(0, 29)], m, XX)) rfl ?_
      exact tM_isDate_153 r m x3 x4 x5 29 z1 z2 (0, s0) z7
  · refine T_run hD 2 (c' := (122, [(18, 130), z1, z2, (0, x3), (0, x4), (0, x5), (0, s0), z7], [(0, 4), (0, x4)], m, XX)) rfl ?_
    refine T_if hD (c1 := (146, _, _, _, _)) (c2 := (125, _, _, _, _)) rfl (fun _ => ?_) (fun _ => ?_)
    · refine T_run hD 2 (c' := (153, [(18, 130), z1, z2, (0, x3), (0, x4), (0, x5), (0, s0), z7], [(0, 30)], m, XX)) rfl ?_
      exact tM_isDate_153 r m x3 x4 x5 30 z1 z2 (0, s0) z7
    · refine T_run hD 2 (c' := (129, [(18, 130), z1, z2, (0, x3), (0, x4), (0, x5), (0, s0), z7], [(0, 6), (0, x4)], m, XX)) rfl ?_
      refine T_if hD (c1 := (146, _, _, _, _)) (c2 := (132, _, _, _, _)) rfl (fun _ => ?_) (fun _ => ?_)
      · refine T_run hD 2 (c' := (153, [(18, 130), z1, z2, (0, x3), (0, x4), (0, x5), (0, s0), z7], [(0, 30)], m, XX)) rfl ?_
        exact tM_isDate_153 r m x3 x4 x5 30 z1 z2 (0, s0) z7
      · refine T_run hD 2 (c' := (136, [(18, 130), z1, z2, (0, x3), (0, x4), (0, x5), (0, s0), z7], [(0, 9), (0, x4)], m, XX)) rfl ?_
        refine T_if hD (c1 := (146, _, _, _, _)) (c2 := (139, _, _, _, _)) rfl (fun _ => ?_) (fun _ => ?_)
        · refine T_run hD 2 (c' := (153, [(18, 130), z1, z2, (0, x3), (0, x4), (0, x5), (0, s0), z7], [(0, 30)], m, XX)) rfl ?_
          exact tM_isDate_153 r m x3 x4 x5 30 z1 z2 (0, s0) z7
        · refine T_run hD 2 (c' := (143, [(18, 130), z1, z2, (0, x3), (0, x4), (0, x5), (0, s0), z7], [(0, 11), (0, x4)], m, XX)) rfl ?_
          refine T_if hD (c1 := (146, _, _, _, _)) (c2 := (151, _, _, _, _)) rfl (fun _ => ?_) (fun _ => ?_)
          · refine T_run hD 2 (c' := (153, [(18, 130), z1, z2, (0, x3), (0, x4), (0, x5), (0, s0), z7], [(0, 30)], m, XX)) rfl ?_
            exact tM_isDate_153 r m x3 x4 x5 30 z1 z2 (0, s0) z7
          · refine T_run hD 1 (c' := (153, [(18, 130), z1, z2, (0, x3), (0, x4), (0, x5), (0, s0), z7], [(0, 31)], m, XX)) rfl ?_
            exact tM_isDate_153 r m x3 x4 x5 31 z1 z2 (0, s0) z7
def fM_isDate (m : aM) (x1 : Int) (x2 : Int) : Option (Int × aM) :=
  if w32 (x2 - x1) = 10 then
    gd (0 ≤ w32 (x1 + 4) ∧ w32 (x1 + 4) < 600) (
    if m 131 (w32 (x1 + 4)) = 45 then
      gd (0 ≤ w32 (x1 + 7) ∧ w32 (x1 + 7) < 600) (
      if m 131 (w32 (x1 + 7)) = 45 then
        (fM_digits (mup m 130 19 1) x1 4).bind fun v3 =>
        (fM_digits v3.2 (w32 (x1 + 5)) 2).bind fun v4 =>
        (fM_digits v4.2 (w32 (x1 + 8)) 2).bind fun v5 =>
        if Int.tmod v3.1 4 = 0 then
          if Int.tmod v3.1 100 = 0 then
            if Int.tmod v3.1 400 = 0 then
              fM_isDate_96 v5.2 v3.1 v4.1 v5.1 1
            else
              fM_isDate_96 v5.2 v3.1 v4.1 v5.1 0
          else
            fM_isDate_96 v5.2 v3.1 v4.1 v5.1 1
        else
          fM_isDate_96 v5.2 v3.1 v4.1 v5.1 0
      else
        some ((0, m)))
    else
      some ((0, m)))
  else
    some ((0, m))
set_option maxRecDepth 100000 in
theorem tM_isDate (m : aM) (x1 : Int) (x2 : Int) : ∀ v, fM_isDate m x1 x2 = some v → Go PB 3 28 (aEnt d_M_isDate [(18, 130), (0, x1), (0, x2)] m XX) (1, (0, v.1), v.2, XX) := by
  intro v hv
  have hD : aMd PB 28 = d_M_isDate := rfl
  obtain ⟨r, hr⟩ : ∃ r : aR, r = (1, (0, v.1), v.2, XX) := ⟨_, rfl⟩
  have h9 : aT PB 3 28 r (fun w => r = (1, (0, w.1), w.2, XX)) (fM_isDate m x1 x2) (0, [(18, 130), (0, x1), (0, x2), (99, 0), (99, 0), (99, 0), (99, 0), (99, 0)], [], m, XX) := by
    unfold fM_isDate
    refine T_run hD 4 (c' := (5, [(18, 130), (0, x1), (0, x2), (99, 0), (99, 0), (99, 0), (99, 0), (99, 0)], [(0, 10), (0, w32 (x2 - x1))], m, XX)) rfl ?_
    refine T_if hD (c1 := (8, _, _, _, _)) (c2 := (35, _, _, _, _)) rfl (fun _ => ?_) (fun _ => ?_)
    · refine T_run hD 5 (c' := (15, [(18, 130), (0, x1), (0, x2), (99, 0), (99, 0), (99, 0), (99, 0), (99, 0)], [(0, w32 (x1 + 4)), (31, 131)], m, XX)) rfl ?_
      refine T_gd hD (c1 := (16, [(18, 130), (0, x1), (0, x2), (99, 0), (99, 0), (99, 0), (99, 0), (99, 0)], [(0, m 131 (w32 (x1 + 4)))], m, XX)) rfl (fun g1 => ?_)
      refine T_run hD 1 (c' := (18, [(18, 130), (0, x1), (0, x2), (99, 0), (99, 0), (99, 0), (99, 0), (99, 0)], [(0, 45), (0, m 131 (w32 (x1 + 4)))], m, XX)) rfl ?_
      refine T_if hD (c1 := (21, _, _, _, _)) (c2 := (35, _, _, _, _)) rfl (fun _ => ?_) (fun _ => ?_)
      · refine T_run hD 5 (c' := (29, [(18, 130), (0, x1), (0, x2), (99, 0), (99, 0), (99, 0), (99, 0), (99, 0)], [(0, w32 (x1 + 7)), (31, 131)], m, XX)) rfl ?_
        refine T_gd hD (c1 := (30, [(18, 130), (0, x1), (0, x2), (99, 0), (99, 0), (99, 0), (99, 0), (99, 0)], [(0, m 131 (w32 (x1 + 7)))], m, XX)) rfl (fun g2 => ?_)
        refine T_run hD 1 (c' := (32, [(18, 130), (0, x1), (0, x2), (99, 0), (99, 0), (99, 0), (99, 0), (99, 0)], [(0, 45), (0, m 131 (w32 (x1 + 7)))], m, XX)) rfl ?_
        refine T_if hD (c1 := (37, _, _, _, _)) (c2 := (35, _, _, _, _)) rfl (fun _ => ?_) (fun _ => ?_)
        · refine T_run hD 6 (c' := (45, [(18, 130), (0, x1), (0, x2), (99, 0), (99, 0), (99, 0), (99, 0), (99, 0)], [(0, 4), (0, x1), (18, 130)], mup m 130 19 1, XX)) rfl ?_
          refine T_call hD (D2 := d_M_digits) (q2 := 27) (as := [(18, 130), (0, x1), (0, 4)]) (c1 := (48, [(18, 130), (0, x1), (0, x2), (99, 0), (99, 0), (99, 0), (99, 0), (99, 0)], [], mup m 130 19 1, XX)) (mk := fun w => (1, (0, w.1), w.2, XX)) (cc := fun v3 => (48, [(18, 130), (0, x1), (0, x2), (99, 0), (99, 0), (99, 0), (99, 0), (99, 0)], [(0, v3.1)], v3.2, XX)) rfl rfl (fun y9 h9y => Go.mono (tM_digits (mup m 130 19 1) x1 4 y9 h9y) (by decide)) (fun _ => rfl) (fun v3 => ?_)
          refine T_run hD 6 (c' := (54, [(18, 130), (0, x1), (0, x2), (0, v3.1), (99, 0), (99, 0), (99, 0), (99, 0)], [(0, 2), (0, w32 (x1 + 5)), (18, 130)], v3.2, XX)) rfl ?_
          refine T_call hD (D2 := d_M_digits) (q2 := 27) (as := [(18, 130), (0, w32 (x1 + 5)), (0, 2)]) (c1 := (57, [(18, 130), (0, x1), (0, x2), (0, v3.1), (99, 0), (99, 0), (99, 0), (99, 0)], [], v3.2, XX)) (mk := fun w => (1, (0, w.1), w.2, XX)) (cc := fun v4 => (57, [(18, 130), (0, x1), (0, x2), (0, v3.1), (99, 0), (99, 0), (99, 0), (99, 0)], [(0, v4.1)], v4.2, XX)) rfl rfl (fun y9 h9y => Go.mono (tM_digits v3.2 (w32 (x1 + 5)) 2 y9 h9y) (by decide)) (fun _ => rfl) (fun v4 => ?_)
          refine T_run hD 6 (c' := (65, [(18, 130), (0, x1), (0, x2), (0, v3.1), (0, v4.1), (99, 0), (99, 0), (99, 0)], [(0, 2), (0, w32 (x1 + 8)), (18, 130)], v4.2, XX)) rfl ?_
          refine T_call hD (D2 := d_M_digits) (q2 := 27) (as := [(18, 130), (0, w32 (x1 + 8)), (0, 2)]) (c1 := (68, [(18, 130), (0, x1), (0, x2), (0, v3.1), (0, v4.1), (99, 0), (99, 0), (99, 0)], [], v4.2, XX)) (mk := fun w => (1, (0, w.1), w.2, XX)) (cc := fun v5 => (68, [(18, 130), (0, x1), (0, x2), (0, v3.1), (0, v4.1), (99, 0), (99, 0), (99, 0)], [(0, v5.1)], v5.2, XX)) rfl rfl (fun y9 h9y => Go.mono (tM_digits v4.2 (w32 (x1 + 8)) 2 y9 h9y) (by decide)) (fun _ => rfl) (fun v5 => ?_)
          refine T_run hD 4 (c' := (73, [(18, 130), (0, x1), (0, x2), (0, v3.1), (0, v4.1), (0, v5.1), (99, 0), (99, 0)], [(0, Int.tmod v3.1 4)], v5.2, XX)) rfl ?_
          refine T_if hD (c1 := (76, _, _, _, _)) (c2 := (95, _, _, _, _)) rfl (fun _ => ?_) (fun _ => ?_)
          · refine T_run hD 3 (c' := (80, [(18, 130), (0, x1), (0, x2), (0, v3.1), (0, v4.1), (0, v5.1), (99, 0), (99, 0)], [(0, Int.tmod v3.1 100)], v5.2, XX)) rfl ?_
            refine T_if hD (c1 := (83, _, _, _, _)) (c2 := (91, _, _, _, _)) rfl (fun _ => ?_) (fun _ => ?_)
            · refine T_run hD 3 (c' := (88, [(18, 130), (0, x1), (0, x2), (0, v3.1), (0, v4.1), (0, v5.1), (99, 0), (99, 0)], [(0, Int.tmod v3.1 400)], v5.2, XX)) rfl ?_
              refine T_if hD (c1 := (91, _, _, _, _)) (c2 := (95, _, _, _, _)) rfl (fun _ => ?_) (fun _ => ?_)
              · refine T_run hD 2 (c' := (96, [(18, 130), (0, x1), (0, x2), (0, v3.1), (0, v4.1), (0, v5.1), (99, 0), (99, 0)], [(0, 1)], v5.2, XX)) rfl ?_
                exact tM_isDate_96 r v5.2 v3.1 v4.1 v5.1 1 (0, x1) (0, x2) (99, 0) (99, 0)
              · refine T_run hD 1 (c' := (96, [(18, 130), (0, x1), (0, x2), (0, v3.1), (0, v4.1), (0, v5.1), (99, 0), (99, 0)], [(0, 0)], v5.2, XX)) rfl ?_
                exact tM_isDate_96 r v5.2 v3.1 v4.1 v5.1 0 (0, x1) (0, x2) (99, 0) (99, 0)
            · refine T_run hD 2 (c' := (96, [(18, 130), (0, x1), (0, x2), (0, v3.1), (0, v4.1), (0, v5.1), (99, 0), (99, 0)], [(0, 1)], v5.2, XX)) rfl ?_
              exact tM_isDate_96 r v5.2 v3.1 v4.1 v5.1 1 (0, x1) (0, x2) (99, 0) (99, 0)
          · refine T_run hD 1 (c' := (96, [(18, 130), (0, x1), (0, x2), (0, v3.1), (0, v4.1), (0, v5.1), (99, 0), (99, 0)], [(0, 0)], v5.2, XX)) rfl ?_
            exact tM_isDate_96 r v5.2 v3.1 v4.1 v5.1 0 (0, x1) (0, x2) (99, 0) (99, 0)
        · refine T_run hD 1 (c' := (36, [(18, 130), (0, x1), (0, x2), (99, 0), (99, 0), (99, 0), (99, 0), (99, 0)], [(0, 0)], m, XX)) rfl ?_
          exact T_fin hD rfl (fun h => h)
      · refine T_run hD 1 (c' := (36, [(18, 130), (0, x1), (0, x2), (99, 0), (99, 0), (99, 0), (99, 0), (99, 0)], [(0, 0)], m, XX)) rfl ?_
        exact T_fin hD rfl (fun h => h)
    · refine T_run hD 1 (c' := (36, [(18, 130), (0, x1), (0, x2), (99, 0), (99, 0), (99, 0), (99, 0), (99, 0)], [(0, 0)], m, XX)) rfl ?_
      exact T_fin hD rfl (fun h => h)
  rw [← hr]
  exact h9 v hv hr
def fM_field (m : aM) (x1 : Int) (x2 : Int) (x3 : Int) : Option aM :=
  gd (0 ≤ m 130 13 ∧ m 130 13 < 242) (
  gd (x3 = 0 ∨ x3 = 1) (
  some (mup (mup (mup (mup m 138 (m 130 13) x1) 139 (m 130 13) x2) 140 (m 130 13) x3) 130 13 (w32 ((m 130 13) + 1)))))
set_option maxRecDepth 100000 in
theorem tM_field (m : aM) (x1 : Int) (x2 : Int) (x3 : Int) : ∀ v, fM_field m x1 x2 x3 = some v → Go PB 1 29 (aEnt d_M_field [(18, 130), (0, x1), (0, x2), (0, x3)] m XX) (0, (0, 0), v, XX) := by
  intro v hv
  have hD : aMd PB 29 = d_M_field := rfl
  obtain ⟨r, hr⟩ : ∃ r : aR, r = (0, (0, 0), v, XX) := ⟨_, rfl⟩
  have h9 : aT PB 1 29 r (fun w => r = (0, (0, 0), w, XX)) (fM_field m x1 x2 x3) (0, [(18, 130), (0, x1), (0, x2), (0, x3)], [], m, XX) := by
    unfold fM_field
    refine T_run hD 5 (c' := (9, [(18, 130), (0, x1), (0, x2), (0, x3)], [(0, x1), (0, m 130 13), (31, 138)], m, XX)) rfl ?_
    refine T_gd hD (c1 := (10, [(18, 130), (0, x1), (0, x2), (0, x3)], [], mup m 138 (m 130 13) x1, XX)) rfl (fun g1 => ?_)
    refine T_run hD 5 (c' := (19, [(18, 130), (0, x1), (0, x2), (0, x3)], [(0, x2), (0, m 130 13), (31, 139)], mup m 138 (m 130 13) x1, XX)) rfl ?_
    refine T_gk hD (c1 := (20, [(18, 130), (0, x1), (0, x2), (0, x3)], [], mup (mup m 138 (m 130 13) x1) 139 (m 130 13) x2, XX)) (P := 0 ≤ m 130 13 ∧ m 130 13 < 242) rfl g1 ?_
    refine T_run hD 5 (c' := (29, [(18, 130), (0, x1), (0, x2), (0, x3)], [(0, x3), (0, m 130 13), (33, 140)], mup (mup m 138 (m 130 13) x1) 139 (m 130 13) x2, XX)) rfl ?_
    refine T_gdk hD (c1 := (30, [(18, 130), (0, x1), (0, x2), (0, x3)], [], mup (mup (mup m 138 (m 130 13) x1) 139 (m 130 13) x2) 140 (m 130 13) x3, XX)) (Q := 0 ≤ m 130 13 ∧ m 130 13 < 242) rfl g1 (fun _ => ?_)
    refine T_run hD 6 (c' := (40, [(18, 130), (0, x1), (0, x2), (0, x3)], [], mup (mup (mup (mup m 138 (m 130 13) x1) 139 (m 130 13) x2) 140 (m 130 13) x3) 130 13 (w32 ((m 130 13) + 1)), XX)) rfl ?_
    exact T_fin hD rfl (fun h => h)
  rw [← hr]
  exact h9 v hv hr
abbrev hM_passField_24 (m : aM) (x1 : Int) : (Int) → aC → Prop := fun y c => c = (24, [(18, 130), (0, x1), (0, (y))], [], m, XX)
abbrev hM_passField_113 (m : aM) (x1 : Int) : (Int) → aC → Prop := fun y c => c = (113, [(18, 130), (0, x1), (0, (y))], [], m, XX)
def fM_passField_66 (m : aM) (x1 : Int) (x2 : Int) : Option ((Int) ⊕ (Int × aM)) :=
  gd (0 ≤ x2 ∧ x2 < 600) (
  if m 131 x2 = 34 then
    some (Sum.inl (w32 (x2 + 2)))
  else
    some (Sum.inl (w32 (x2 + 1))))
set_option maxRecDepth 100000 in
theorem tM_passField_66 (r : aR) (m : aM) (x1 : Int) (x2 : Int) : aT PB 2 30 r (aTurn PB 2 30 r (hM_passField_24 m x1) (fun w => r = (1, (0, w.1), w.2, XX))) (fM_passField_66 m x1 x2) (66, [(18, 130), (0, x1), (0, x2)], [], m, XX) := by
  have hD : aMd PB 30 = d_M_passField := rfl
  unfold fM_passField_66
  refine T_run hD 3 (c' := (71, [(18, 130), (0, x1), (0, x2)], [(0, x2), (31, 131)], m, XX)) rfl ?_
  refine T_gd hD (c1 := (72, [(18, 130), (0, x1), (0, x2)], [(0, m 131 x2)], m, XX)) rfl (fun g4 => ?_)
  refine T_run hD 1 (c' := (74, [(18, 130), (0, x1), (0, x2)], [(0, 34), (0, m 131 x2)], m, XX)) rfl ?_
  refine T_if hD (c1 := (77, _, _, _, _)) (c2 := (83, _, _, _, _)) rfl (fun _ => ?_) (fun _ => ?_)
  · refine T_run hD 6 (c' := (24, [(18, 130), (0, x1), (0, w32 (x2 + 2))], [], m, XX)) rfl ?_
    exact T_back0 rfl
  · refine T_run hD 5 (c' := (24, [(18, 130), (0, x1), (0, w32 (x2 + 1))], [], m, XX)) rfl ?_
    exact T_back0 rfl
def fM_passField_90 (m : aM) (x1 : Int) (x2 : Int) : Option (Int × aM) :=
  if x2 < m 130 2 then
    (fM_field m (w32 (x1 + 1)) x2 1).bind fun v5 =>
    some ((w32 (x2 + 1), v5))
  else
    some (((-1), m))
set_option maxRecDepth 100000 in
theorem tM_passField_90 (r : aR) (m : aM) (x1 : Int) (x2 : Int) : aT PB 2 30 r (fun w => r = (1, (0, w.1), w.2, XX)) (fM_passField_90 m x1 x2) (90, [(18, 130), (0, x1), (0, x2)], [], m, XX) := by
  have hD : aMd PB 30 = d_M_passField := rfl
  unfold fM_passField_90
  refine T_run hD 3 (c' := (95, [(18, 130), (0, x1), (0, x2)], [(0, m 130 2), (0, x2)], m, XX)) rfl ?_
  refine T_if hD (c1 := (100, _, _, _, _)) (c2 := (98, _, _, _, _)) rfl (fun _ => ?_) (fun _ => ?_)
  · refine T_run hD 6 (c' := (106, [(18, 130), (0, x1), (0, x2)], [(0, 1), (0, x2), (0, w32 (x1 + 1)), (18, 130)], m, XX)) rfl ?_
    refine T_call hD (D2 := d_M_field) (q2 := 29) (as := [(18, 130), (0, w32 (x1 + 1)), (0, x2), (0, 1)]) (c1 := (109, [(18, 130), (0, x1), (0, x2)], [], m, XX)) (mk := fun w => (0, (0, 0), w, XX)) (cc := fun v5 => (109, [(18, 130), (0, x1), (0, x2)], [], v5, XX)) rfl rfl (fun y9 h9y => Go.mono (tM_field m (w32 (x1 + 1)) x2 1 y9 h9y) (by decide)) (fun _ => rfl) (fun v5 => ?_)
    refine T_run hD 3 (c' := (112, [(18, 130), (0, x1), (0, x2)], [(0, w32 (x2 + 1))], v5, XX)) rfl ?_
    exact T_fin hD rfl (fun h => h)
  · refine T_run hD 1 (c' := (99, [(18, 130), (0, x1), (0, x2)], [(0, (-1))], m, XX)) rfl ?_
    exact T_fin hD rfl (fun h => h)
def fM_passField_24_b (m : aM) (x1 : Int) : (Int) → Option ((Int) ⊕ (Int × aM)) := fun (x2) =>
  if x2 < m 130 2 then
    gd (0 ≤ x2 ∧ x2 < 600) (
    if m 131 x2 = 34 then
      if w32 (x2 + 1) < m 130 2 then
        gd (0 ≤ w32 (x2 + 1) ∧ w32 (x2 + 1) < 600) (
        if m 131 (w32 (x2 + 1)) = 34 then
          fM_passField_66 m x1 x2
        else
          (fM_passField_90 m x1 x2).map Sum.inr)
      else
        (fM_passField_90 m x1 x2).map Sum.inr
    else
      fM_passField_66 m x1 x2)
  else
    (fM_passField_90 m x1 x2).map Sum.inr
def fM_passField_24 (m : aM) (x1 : Int) (x2 : Int) : Option (Int × aM) := aLoop (fM_passField_24_b m x1) FU (x2)
set_option maxRecDepth 100000 in
theorem tM_passField_24 (r : aR) (m : aM) (x1 : Int) (x2 : Int) : aT PB 2 30 r (fun w => r = (1, (0, w.1), w.2, XX)) (fM_passField_24 m x1 x2) (24, [(18, 130), (0, x1), (0, x2)], [], m, XX) := by
  have hD : aMd PB 30 = d_M_passField := rfl
  refine T_loop (Hd := (hM_passField_24 m x1)) ?_ FU _ _ rfl
  clear x2
  intro x2 c hc
  obtain rfl := hc
  unfold fM_passField_24_b
  try dsimp only
  refine T_run hD 3 (c' := (29, [(18, 130), (0, x1), (0, x2)], [(0, m 130 2), (0, x2)], m, XX)) rfl ?_
  refine T_if hD (c1 := (32, _, _, _, _)) (c2 := (90, _, _, _, _)) rfl (fun _ => ?_) (fun _ => ?_)
  · refine T_run hD 3 (c' := (37, [(18, 130), (0, x1), (0, x2)], [(0, x2), (31, 131)], m, XX)) rfl ?_
    refine T_gd hD (c1 := (38, [(18, 130), (0, x1), (0, x2)], [(0, m 131 x2)], m, XX)) rfl (fun g2 => ?_)
    refine T_run hD 1 (c' := (40, [(18, 130), (0, x1), (0, x2)], [(0, 34), (0, m 131 x2)], m, XX)) rfl ?_
    refine T_if hD (c1 := (43, _, _, _, _)) (c2 := (66, _, _, _, _)) rfl (fun _ => ?_) (fun _ => ?_)
    · refine T_run hD 5 (c' := (50, [(18, 130), (0, x1), (0, x2)], [(0, m 130 2), (0, w32 (x2 + 1))], m, XX)) rfl ?_
      refine T_if hD (c1 := (53, _, _, _, _)) (c2 := (90, _, _, _, _)) rfl (fun _ => ?_) (fun _ => ?_)
      · refine T_run hD 5 (c' := (60, [(18, 130), (0, x1), (0, x2)], [(0, w32 (x2 + 1)), (31, 131)], m, XX)) rfl ?_
        refine T_gd hD (c1 := (61, [(18, 130), (0, x1), (0, x2)], [(0, m 131 (w32 (x2 + 1)))], m, XX)) rfl (fun g3 => ?_)
        refine T_run hD 1 (c' := (63, [(18, 130), (0, x1), (0, x2)], [(0, 34), (0, m 131 (w32 (x2 + 1)))], m, XX)) rfl ?_
        refine T_if hD (c1 := (66, _, _, _, _)) (c2 := (90, _, _, _, _)) rfl (fun _ => ?_) (fun _ => ?_)
        · exact tM_passField_66 r m x1 x2 
        · exact T_map (tM_passField_90 r m x1 x2 )
      · exact T_map (tM_passField_90 r m x1 x2 )
    · exact tM_passField_66 r m x1 x2 
  · exact T_map (tM_passField_90 r m x1 x2 )
def fM_passField_173 (m : aM) (x1 : Int) (x2 : Int) : Option (Int × aM) :=
  (fM_field m x1 x2 0).bind fun v7 =>
  some ((x2, v7))
set_option maxRecDepth 100000 in
theorem tM_passField_173 (r : aR) (m : aM) (x1 : Int) (x2 : Int) : aT PB 2 30 r (fun w => r = (1, (0, w.1), w.2, XX)) (fM_passField_173 m x1 x2) (173, [(18, 130), (0, x1), (0, x2)], [], m, XX) := by
  have hD : aMd PB 30 = d_M_passField := rfl
  unfold fM_passField_173
  refine T_run hD 4 (c' := (177, [(18, 130), (0, x1), (0, x2)], [(0, 0), (0, x2), (0, x1), (18, 130)], m, XX)) rfl ?_
  refine T_call hD (D2 := d_M_field) (q2 := 29) (as := [(18, 130), (0, x1), (0, x2), (0, 0)]) (c1 := (180, [(18, 130), (0, x1), (0, x2)], [], m, XX)) (mk := fun w => (0, (0, 0), w, XX)) (cc := fun v7 => (180, [(18, 130), (0, x1), (0, x2)], [], v7, XX)) rfl rfl (fun y9 h9y => Go.mono (tM_field m x1 x2 0 y9 h9y) (by decide)) (fun _ => rfl) (fun v7 => ?_)
  refine T_run hD 1 (c' := (181, [(18, 130), (0, x1), (0, x2)], [(0, x2)], v7, XX)) rfl ?_
  exact T_fin hD rfl (fun h => h)
def fM_passField_113_b (m : aM) (x1 : Int) : (Int) → Option ((Int) ⊕ (Int × aM)) := fun (x2) =>
  if x2 < m 130 2 then
    gd (0 ≤ x2 ∧ x2 < 600) (
    if m 131 x2 = 44 then
      (fM_passField_173 m x1 x2).map Sum.inr
    else
      if m 131 x2 = 10 then
        (fM_passField_173 m x1 x2).map Sum.inr
      else
        if m 131 x2 = 13 then
          (fM_passField_173 m x1 x2).map Sum.inr
        else
          if m 131 x2 = 34 then
            some (Sum.inr (((-1), m)))
          else
            some (Sum.inl (w32 (x2 + 1))))
  else
    (fM_passField_173 m x1 x2).map Sum.inr
def fM_passField_113 (m : aM) (x1 : Int) (x2 : Int) : Option (Int × aM) := aLoop (fM_passField_113_b m x1) FU (x2)
set_option maxRecDepth 100000 in
theorem tM_passField_113 (r : aR) (m : aM) (x1 : Int) (x2 : Int) : aT PB 2 30 r (fun w => r = (1, (0, w.1), w.2, XX)) (fM_passField_113 m x1 x2) (113, [(18, 130), (0, x1), (0, x2)], [], m, XX) := by
  have hD : aMd PB 30 = d_M_passField := rfl
  refine T_loop (Hd := (hM_passField_113 m x1)) ?_ FU _ _ rfl
  clear x2
  intro x2 c hc
  obtain rfl := hc
  unfold fM_passField_113_b
  try dsimp only
  refine T_run hD 3 (c' := (118, [(18, 130), (0, x1), (0, x2)], [(0, m 130 2), (0, x2)], m, XX)) rfl ?_
  refine T_if hD (c1 := (121, _, _, _, _)) (c2 := (173, _, _, _, _)) rfl (fun _ => ?_) (fun _ => ?_)
  · refine T_run hD 3 (c' := (126, [(18, 130), (0, x1), (0, x2)], [(0, x2), (31, 131)], m, XX)) rfl ?_
    refine T_gd hD (c1 := (127, [(18, 130), (0, x1), (0, x2)], [(0, m 131 x2)], m, XX)) rfl (fun g6 => ?_)
    refine T_run hD 1 (c' := (129, [(18, 130), (0, x1), (0, x2)], [(0, 44), (0, m 131 x2)], m, XX)) rfl ?_
    refine T_if hD (c1 := (173, _, _, _, _)) (c2 := (132, _, _, _, _)) rfl (fun _ => ?_) (fun _ => ?_)
    · exact T_map (tM_passField_173 r m x1 x2 )
    · refine T_run hD 3 (c' := (137, [(18, 130), (0, x1), (0, x2)], [(0, x2), (31, 131)], m, XX)) rfl ?_
      refine T_gk hD (c1 := (138, [(18, 130), (0, x1), (0, x2)], [(0, m 131 x2)], m, XX)) (P := 0 ≤ x2 ∧ x2 < 600) rfl g6 ?_
      refine T_run hD 1 (c' := (140, [(18, 130), (0, x1), (0, x2)], [(0, 10), (0, m 131 x2)], m, XX)) rfl ?_
      refine T_if hD (c1 := (173, _, _, _, _)) (c2 := (143, _, _, _, _)) rfl (fun _ => ?_) (fun _ => ?_)
      · exact T_map (tM_passField_173 r m x1 x2 )
      · refine T_run hD 3 (c' := (148, [(18, 130), (0, x1), (0, x2)], [(0, x2), (31, 131)], m, XX)) rfl ?_
        refine T_gk hD (c1 := (149, [(18, 130), (0, x1), (0, x2)], [(0, m 131 x2)], m, XX)) (P := 0 ≤ x2 ∧ x2 < 600) rfl g6 ?_
        refine T_run hD 1 (c' := (151, [(18, 130), (0, x1), (0, x2)], [(0, 13), (0, m 131 x2)], m, XX)) rfl ?_
        refine T_if hD (c1 := (173, _, _, _, _)) (c2 := (154, _, _, _, _)) rfl (fun _ => ?_) (fun _ => ?_)
        · exact T_map (tM_passField_173 r m x1 x2 )
        · refine T_run hD 3 (c' := (159, [(18, 130), (0, x1), (0, x2)], [(0, x2), (31, 131)], m, XX)) rfl ?_
          refine T_gk hD (c1 := (160, [(18, 130), (0, x1), (0, x2)], [(0, m 131 x2)], m, XX)) (P := 0 ≤ x2 ∧ x2 < 600) rfl g6 ?_
          refine T_run hD 1 (c' := (162, [(18, 130), (0, x1), (0, x2)], [(0, 34), (0, m 131 x2)], m, XX)) rfl ?_
          refine T_if hD (c1 := (165, _, _, _, _)) (c2 := (167, _, _, _, _)) rfl (fun _ => ?_) (fun _ => ?_)
          · refine T_run hD 1 (c' := (166, [(18, 130), (0, x1), (0, x2)], [(0, (-1))], m, XX)) rfl ?_
            exact T_fin hD rfl (fun h => h)
          · refine T_run hD 2 (c' := (113, [(18, 130), (0, x1), (0, w32 (x2 + 1))], [], m, XX)) rfl ?_
            exact T_back0 rfl
  · exact T_map (tM_passField_173 r m x1 x2 )
def fM_passField (m : aM) (x1 : Int) : Option (Int × aM) :=
  if x1 < m 130 2 then
    gd (0 ≤ x1 ∧ x1 < 600) (
    if m 131 x1 = 34 then
      fM_passField_24 m x1 (w32 (x1 + 1))
    else
      fM_passField_113 m x1 x1)
  else
    fM_passField_113 m x1 x1
set_option maxRecDepth 100000 in
theorem tM_passField (m : aM) (x1 : Int) : ∀ v, fM_passField m x1 = some v → Go PB 2 30 (aEnt d_M_passField [(18, 130), (0, x1)] m XX) (1, (0, v.1), v.2, XX) := by
  intro v hv
  have hD : aMd PB 30 = d_M_passField := rfl
  obtain ⟨r, hr⟩ : ∃ r : aR, r = (1, (0, v.1), v.2, XX) := ⟨_, rfl⟩
  have h9 : aT PB 2 30 r (fun w => r = (1, (0, w.1), w.2, XX)) (fM_passField m x1) (0, [(18, 130), (0, x1), (99, 0)], [], m, XX) := by
    unfold fM_passField
    refine T_run hD 5 (c' := (7, [(18, 130), (0, x1), (0, x1)], [(0, m 130 2), (0, x1)], m, XX)) rfl ?_
    refine T_if hD (c1 := (10, _, _, _, _)) (c2 := (113, _, _, _, _)) rfl (fun _ => ?_) (fun _ => ?_)
    · refine T_run hD 3 (c' := (15, [(18, 130), (0, x1), (0, x1)], [(0, x1), (31, 131)], m, XX)) rfl ?_
      refine T_gd hD (c1 := (16, [(18, 130), (0, x1), (0, x1)], [(0, m 131 x1)], m, XX)) rfl (fun g1 => ?_)
      refine T_run hD 1 (c' := (18, [(18, 130), (0, x1), (0, x1)], [(0, 34), (0, m 131 x1)], m, XX)) rfl ?_
      refine T_if hD (c1 := (21, _, _, _, _)) (c2 := (113, _, _, _, _)) rfl (fun _ => ?_) (fun _ => ?_)
      · refine T_run hD 1 (c' := (24, [(18, 130), (0, x1), (0, w32 (x1 + 1))], [], m, XX)) rfl ?_
        exact tM_passField_24 r m x1 (w32 (x1 + 1)) 
      · exact tM_passField_113 r m x1 x1 
    · exact tM_passField_113 r m x1 x1 
  rw [← hr]
  exact h9 v hv hr
abbrev hM_cutText_12 : (aM × Int) → aC → Prop := fun y c => ∃ (z2 : aV), c = (12, [(18, 130), (0, (y.2)), z2], [], (y.1), XX)
abbrev hM_cutText_45 : (aM × Int × Int) → aC → Prop := fun y c => c = (45, [(18, 130), (0, (y.2.1)), (0, (y.2.2))], [], (y.1), XX)
def fM_cutText_144 (m : aM) (x1 : Int) : Option ((aM × Int) ⊕ (Int × aM)) :=
  if x1 < m 130 2 then
    gd (0 ≤ x1 ∧ x1 < 600) (
    if m 131 x1 = 10 then
      some (Sum.inl (m, w32 (x1 + 1)))
    else
      some (Sum.inr ((0, m))))
  else
    some (Sum.inl (m, w32 (x1 + 1)))
set_option maxRecDepth 100000 in
theorem tM_cutText_144 (r : aR) (m : aM) (x1 : Int) (z2 : aV) : aT PB 3 31 r (aTurn PB 3 31 r (hM_cutText_12 ) (fun w => r = (1, (0, w.1), w.2, XX))) (fM_cutText_144 m x1) (144, [(18, 130), (0, x1), z2], [], m, XX) := by
  have hD : aMd PB 31 = d_M_cutText := rfl
  unfold fM_cutText_144
  refine T_run hD 3 (c' := (149, [(18, 130), (0, x1), z2], [(0, m 130 2), (0, x1)], m, XX)) rfl ?_
  refine T_if hD (c1 := (152, _, _, _, _)) (c2 := (165, _, _, _, _)) rfl (fun _ => ?_) (fun _ => ?_)
  · refine T_run hD 3 (c' := (157, [(18, 130), (0, x1), z2], [(0, x1), (31, 131)], m, XX)) rfl ?_
    refine T_gd hD (c1 := (158, [(18, 130), (0, x1), z2], [(0, m 131 x1)], m, XX)) rfl (fun g4 => ?_)
    refine T_run hD 1 (c' := (160, [(18, 130), (0, x1), z2], [(0, 10), (0, m 131 x1)], m, XX)) rfl ?_
    refine T_if hD (c1 := (165, _, _, _, _)) (c2 := (163, _, _, _, _)) rfl (fun _ => ?_) (fun _ => ?_)
    · refine T_run hD 2 (c' := (12, [(18, 130), (0, w32 (x1 + 1)), z2], [], m, XX)) rfl ?_
      exact T_back0 ⟨_, rfl⟩
    · refine T_run hD 1 (c' := (164, [(18, 130), (0, x1), z2], [(0, 0)], m, XX)) rfl ?_
      exact T_fin hD rfl (fun h => h)
  · refine T_run hD 2 (c' := (12, [(18, 130), (0, w32 (x1 + 1)), z2], [], m, XX)) rfl ?_
    exact T_back0 ⟨_, rfl⟩
def fM_cutText_85 (m : aM) (x1 : Int) (s0 : Int) : Option ((aM × Int × Int) ⊕ ((aM × Int) ⊕ (Int × aM))) :=
  if s0 = 0 then
    some (Sum.inl (m, x1, s0))
  else
    some (Sum.inl (m, w32 (x1 + 1), s0))
set_option maxRecDepth 100000 in
theorem tM_cutText_85 (r : aR) (m : aM) (x1 : Int) (s0 : Int) (z2 : aV) : aT PB 3 31 r (aTurn PB 3 31 r (hM_cutText_45 ) (aTurn PB 3 31 r (hM_cutText_12 ) (fun w => r = (1, (0, w.1), w.2, XX)))) (fM_cutText_85 m x1 s0) (85, [(18, 130), (0, x1), z2], [(0, s0)], m, XX) := by
  have hD : aMd PB 31 = d_M_cutText := rfl
  unfold fM_cutText_85
  refine T_run hD 2 (c' := (87, [(18, 130), (0, x1), (0, s0)], [(0, s0)], m, XX)) rfl ?_
  refine T_if hD (c1 := (96, _, _, _, _)) (c2 := (90, _, _, _, _)) rfl (fun _ => ?_) (fun _ => ?_)
  · refine T_run hD 3 (c' := (45, [(18, 130), (0, x1), (0, s0)], [], m, XX)) rfl ?_
    exact T_back0 rfl
  · refine T_run hD 6 (c' := (45, [(18, 130), (0, w32 (x1 + 1)), (0, s0)], [], m, XX)) rfl ?_
    exact T_back0 rfl
def fM_cutText_45_b : (aM × Int × Int) → Option ((aM × Int × Int) ⊕ ((aM × Int) ⊕ (Int × aM))) := fun (m, x1, x2) =>
  if x2 = 0 then
    if x1 < m 130 2 then
      gd (0 ≤ x1 ∧ x1 < 600) (
      if m 131 x1 = 13 then
        if w32 (x1 + 1) < m 130 2 then
          gd (0 ≤ w32 (x1 + 1) ∧ w32 (x1 + 1) < 600) (
          if m 131 (w32 (x1 + 1)) = 10 then
            (fM_cutText_144 m (w32 (x1 + 1))).map Sum.inr
          else
            some (Sum.inr (Sum.inr ((0, m)))))
        else
          some (Sum.inr (Sum.inr ((0, m))))
      else
        (fM_cutText_144 m x1).map Sum.inr)
    else
      (fM_cutText_144 m x1).map Sum.inr
  else
    (fM_passField m x1).bind fun v5 =>
    if v5.1 < 0 then
      some (Sum.inr (Sum.inr ((0, v5.2))))
    else
      if v5.1 < v5.2 130 2 then
        gd (0 ≤ v5.1 ∧ v5.1 < 600) (
        if v5.2 131 v5.1 = 44 then
          fM_cutText_85 v5.2 v5.1 1
        else
          fM_cutText_85 v5.2 v5.1 0)
      else
        fM_cutText_85 v5.2 v5.1 0
def fM_cutText_45 (m : aM) (x1 : Int) (x2 : Int) : Option ((aM × Int) ⊕ (Int × aM)) := aLoop (fM_cutText_45_b ) FU (m, x1, x2)
set_option maxRecDepth 100000 in
theorem tM_cutText_45 (r : aR) (m : aM) (x1 : Int) (x2 : Int) : aT PB 3 31 r (aTurn PB 3 31 r (hM_cutText_12 ) (fun w => r = (1, (0, w.1), w.2, XX))) (fM_cutText_45 m x1 x2) (45, [(18, 130), (0, x1), (0, x2)], [], m, XX) := by
  have hD : aMd PB 31 = d_M_cutText := rfl
  refine T_loop (Hd := (hM_cutText_45 )) ?_ FU _ _ rfl
  clear m x1 x2
  intro y c hc
  obtain ⟨m, x1, x2⟩ := y
  obtain rfl := hc
  unfold fM_cutText_45_b
  try dsimp only
  refine T_run hD 1 (c' := (46, [(18, 130), (0, x1), (0, x2)], [(0, x2)], m, XX)) rfl ?_
  refine T_if hD (c1 := (101, _, _, _, _)) (c2 := (49, _, _, _, _)) rfl (fun _ => ?_) (fun _ => ?_)
  · refine T_run hD 3 (c' := (106, [(18, 130), (0, x1), (0, x2)], [(0, m 130 2), (0, x1)], m, XX)) rfl ?_
    refine T_if hD (c1 := (109, _, _, _, _)) (c2 := (144, _, _, _, _)) rfl (fun _ => ?_) (fun _ => ?_)
    · refine T_run hD 3 (c' := (114, [(18, 130), (0, x1), (0, x2)], [(0, x1), (31, 131)], m, XX)) rfl ?_
      refine T_gd hD (c1 := (115, [(18, 130), (0, x1), (0, x2)], [(0, m 131 x1)], m, XX)) rfl (fun g2 => ?_)
      refine T_run hD 1 (c' := (117, [(18, 130), (0, x1), (0, x2)], [(0, 13), (0, m 131 x1)], m, XX)) rfl ?_
      refine T_if hD (c1 := (120, _, _, _, _)) (c2 := (144, _, _, _, _)) rfl (fun _ => ?_) (fun _ => ?_)
      · refine T_run hD 4 (c' := (128, [(18, 130), (0, w32 (x1 + 1)), (0, x2)], [(0, m 130 2), (0, w32 (x1 + 1))], m, XX)) rfl ?_
        refine T_if hD (c1 := (131, _, _, _, _)) (c2 := (142, _, _, _, _)) rfl (fun _ => ?_) (fun _ => ?_)
        · refine T_run hD 3 (c' := (136, [(18, 130), (0, w32 (x1 + 1)), (0, x2)], [(0, w32 (x1 + 1)), (31, 131)], m, XX)) rfl ?_
          refine T_gd hD (c1 := (137, [(18, 130), (0, w32 (x1 + 1)), (0, x2)], [(0, m 131 (w32 (x1 + 1)))], m, XX)) rfl (fun g3 => ?_)
          refine T_run hD 1 (c' := (139, [(18, 130), (0, w32 (x1 + 1)), (0, x2)], [(0, 10), (0, m 131 (w32 (x1 + 1)))], m, XX)) rfl ?_
          refine T_if hD (c1 := (144, _, _, _, _)) (c2 := (142, _, _, _, _)) rfl (fun _ => ?_) (fun _ => ?_)
          · exact T_map (tM_cutText_144 r m (w32 (x1 + 1)) (0, x2))
          · refine T_run hD 1 (c' := (143, [(18, 130), (0, w32 (x1 + 1)), (0, x2)], [(0, 0)], m, XX)) rfl ?_
            exact T_fin hD rfl (fun h => h)
        · refine T_run hD 1 (c' := (143, [(18, 130), (0, w32 (x1 + 1)), (0, x2)], [(0, 0)], m, XX)) rfl ?_
          exact T_fin hD rfl (fun h => h)
      · exact T_map (tM_cutText_144 r m x1 (0, x2))
    · exact T_map (tM_cutText_144 r m x1 (0, x2))
  · refine T_run hD 2 (c' := (51, [(18, 130), (0, x1), (0, x2)], [(0, x1), (18, 130)], m, XX)) rfl ?_
    refine T_call hD (D2 := d_M_passField) (q2 := 30) (as := [(18, 130), (0, x1)]) (c1 := (54, [(18, 130), (0, x1), (0, x2)], [], m, XX)) (mk := fun w => (1, (0, w.1), w.2, XX)) (cc := fun v5 => (54, [(18, 130), (0, x1), (0, x2)], [(0, v5.1)], v5.2, XX)) rfl rfl (fun y9 h9y => Go.mono (tM_passField m x1 y9 h9y) (by decide)) (fun _ => rfl) (fun v5 => ?_)
    refine T_run hD 2 (c' := (56, [(18, 130), (0, v5.1), (0, x2)], [(0, v5.1)], v5.2, XX)) rfl ?_
    refine T_if hD (c1 := (59, _, _, _, _)) (c2 := (61, _, _, _, _)) rfl (fun _ => ?_) (fun _ => ?_)
    · refine T_run hD 1 (c' := (60, [(18, 130), (0, v5.1), (0, x2)], [(0, 0)], v5.2, XX)) rfl ?_
      exact T_fin hD rfl (fun h => h)
    · refine T_run hD 3 (c' := (66, [(18, 130), (0, v5.1), (0, x2)], [(0, v5.2 130 2), (0, v5.1)], v5.2, XX)) rfl ?_
      refine T_if hD (c1 := (69, _, _, _, _)) (c2 := (84, _, _, _, _)) rfl (fun _ => ?_) (fun _ => ?_)
      · refine T_run hD 3 (c' := (74, [(18, 130), (0, v5.1), (0, x2)], [(0, v5.1), (31, 131)], v5.2, XX)) rfl ?_
        refine T_gd hD (c1 := (75, [(18, 130), (0, v5.1), (0, x2)], [(0, v5.2 131 v5.1)], v5.2, XX)) rfl (fun g6 => ?_)
        refine T_run hD 1 (c' := (77, [(18, 130), (0, v5.1), (0, x2)], [(0, 44), (0, v5.2 131 v5.1)], v5.2, XX)) rfl ?_
        refine T_if hD (c1 := (80, _, _, _, _)) (c2 := (84, _, _, _, _)) rfl (fun _ => ?_) (fun _ => ?_)
        · refine T_run hD 2 (c' := (85, [(18, 130), (0, v5.1), (0, x2)], [(0, 1)], v5.2, XX)) rfl ?_
          exact tM_cutText_85 r v5.2 v5.1 1 (0, x2)
        · refine T_run hD 1 (c' := (85, [(18, 130), (0, v5.1), (0, x2)], [(0, 0)], v5.2, XX)) rfl ?_
          exact tM_cutText_85 r v5.2 v5.1 0 (0, x2)
      · refine T_run hD 1 (c' := (85, [(18, 130), (0, v5.1), (0, x2)], [(0, 0)], v5.2, XX)) rfl ?_
        exact tM_cutText_85 r v5.2 v5.1 0 (0, x2)
def fM_cutText_12_b : (aM × Int) → Option ((aM × Int) ⊕ (Int × aM)) := fun (m, x1) =>
  if x1 < m 130 2 then
    gd (0 ≤ m 130 17 ∧ m 130 17 < 243) (
    fM_cutText_45 (mup (mup m 141 (m 130 17) (m 130 13)) 130 17 (w32 ((m 130 17) + 1))) x1 1)
  else
    gd (0 ≤ m 130 17 ∧ m 130 17 < 243) (
    some (Sum.inr ((1, mup m 141 (m 130 17) (m 130 13)))))
def fM_cutText_12 (m : aM) (x1 : Int) : Option (Int × aM) := aLoop (fM_cutText_12_b ) FU (m, x1)
set_option maxRecDepth 100000 in
theorem tM_cutText_12 (r : aR) (m : aM) (x1 : Int) (z2 : aV) : aT PB 3 31 r (fun w => r = (1, (0, w.1), w.2, XX)) (fM_cutText_12 m x1) (12, [(18, 130), (0, x1), z2], [], m, XX) := by
  have hD : aMd PB 31 = d_M_cutText := rfl
  refine T_loop (Hd := (hM_cutText_12 )) ?_ FU _ _ ⟨z2, rfl⟩
  clear m x1 z2
  intro y c hc
  obtain ⟨m, x1⟩ := y
  obtain ⟨z2, rfl⟩ := hc
  unfold fM_cutText_12_b
  try dsimp only
  refine T_run hD 3 (c' := (17, [(18, 130), (0, x1), z2], [(0, m 130 2), (0, x1)], m, XX)) rfl ?_
  refine T_if hD (c1 := (20, _, _, _, _)) (c2 := (171, _, _, _, _)) rfl (fun _ => ?_) (fun _ => ?_)
  · refine T_run hD 6 (c' := (32, [(18, 130), (0, x1), z2], [(0, m 130 13), (0, m 130 17), (31, 141)], m, XX)) rfl ?_
    refine T_gd hD (c1 := (33, [(18, 130), (0, x1), z2], [], mup m 141 (m 130 17) (m 130 13), XX)) rfl (fun g1 => ?_)
    refine T_run hD 8 (c' := (45, [(18, 130), (0, x1), (0, 1)], [], mup (mup m 141 (m 130 17) (m 130 13)) 130 17 (w32 ((m 130 17) + 1)), XX)) rfl ?_
    exact tM_cutText_45 r (mup (mup m 141 (m 130 17) (m 130 13)) 130 17 (w32 ((m 130 17) + 1))) x1 1 
  · refine T_run hD 6 (c' := (183, [(18, 130), (0, x1), z2], [(0, m 130 13), (0, m 130 17), (31, 141)], m, XX)) rfl ?_
    refine T_gd hD (c1 := (184, [(18, 130), (0, x1), z2], [], mup m 141 (m 130 17) (m 130 13), XX)) rfl (fun g7 => ?_)
    refine T_run hD 1 (c' := (185, [(18, 130), (0, x1), z2], [(0, 1)], mup m 141 (m 130 17) (m 130 13), XX)) rfl ?_
    exact T_fin hD rfl (fun h => h)
def fM_cutText (m : aM) : Option (Int × aM) :=
  fM_cutText_12 (mup (mup m 130 13 0) 130 17 0) 0
set_option maxRecDepth 100000 in
theorem tM_cutText (m : aM) : ∀ v, fM_cutText m = some v → Go PB 3 31 (aEnt d_M_cutText [(18, 130)] m XX) (1, (0, v.1), v.2, XX) := by
  intro v hv
  have hD : aMd PB 31 = d_M_cutText := rfl
  obtain ⟨r, hr⟩ : ∃ r : aR, r = (1, (0, v.1), v.2, XX) := ⟨_, rfl⟩
  have h9 : aT PB 3 31 r (fun w => r = (1, (0, w.1), w.2, XX)) (fM_cutText m) (0, [(18, 130), (99, 0), (99, 0)], [], m, XX) := by
    unfold fM_cutText
    refine T_run hD 8 (c' := (12, [(18, 130), (0, 0), (99, 0)], [], mup (mup m 130 13 0) 130 17 0, XX)) rfl ?_
    exact tM_cutText_12 r (mup (mup m 130 13 0) 130 17 0) 0 (99, 0)
  rw [← hr]
  exact h9 v hv hr
abbrev hM_isEven_32 (m : aM) (x1 : Int) : (Int × Int) → aC → Prop := fun y c => c = (32, [(18, 130), (0, x1), (0, (y.1)), (0, (y.2))], [], m, XX)
def fM_isEven_32_b (m : aM) (x1 : Int) : (Int × Int) → Option ((Int × Int) ⊕ Int) := fun (x2, x3) =>
  if x3 < m 130 17 then
    if x2 = 0 then
      some (Sum.inl (0, w32 (x3 + 1)))
    else
      gd (0 ≤ w32 (x3 + 1) ∧ w32 (x3 + 1) < 243) (
      gd (0 ≤ x3 ∧ x3 < 243) (
      if w32 ((m 141 (w32 (x3 + 1))) - (m 141 x3)) = x1 then
        some (Sum.inl (1, w32 (x3 + 1)))
      else
        some (Sum.inl (0, w32 (x3 + 1)))))
  else
    gd (x2 = 0 ∨ x2 = 1) (some (Sum.inr (x2)))
def fM_isEven_32 (m : aM) (x1 : Int) (x2 : Int) (x3 : Int) : Option Int := aLoop (fM_isEven_32_b m x1) FU (x2, x3)
set_option maxRecDepth 100000 in
theorem tM_isEven_32 (r : aR) (m : aM) (x1 : Int) (x2 : Int) (x3 : Int) : aT PB 1 32 r (fun w => r = (1, (0, w), m, XX)) (fM_isEven_32 m x1 x2 x3) (32, [(18, 130), (0, x1), (0, x2), (0, x3)], [], m, XX) := by
  have hD : aMd PB 32 = d_M_isEven := rfl
  refine T_loop (Hd := (hM_isEven_32 m x1)) ?_ FU _ _ rfl
  clear x2 x3
  intro y c hc
  obtain ⟨x2, x3⟩ := y
  obtain rfl := hc
  unfold fM_isEven_32_b
  try dsimp only
  refine T_run hD 3 (c' := (37, [(18, 130), (0, x1), (0, x2), (0, x3)], [(0, m 130 17), (0, x3)], m, XX)) rfl ?_
  refine T_if hD (c1 := (40, _, _, _, _)) (c2 := (75, _, _, _, _)) rfl (fun _ => ?_) (fun _ => ?_)
  · refine T_run hD 1 (c' := (41, [(18, 130), (0, x1), (0, x2), (0, x3)], [(0, x2)], m, XX)) rfl ?_
    refine T_if hD (c1 := (67, _, _, _, _)) (c2 := (44, _, _, _, _)) rfl (fun _ => ?_) (fun _ => ?_)
    · refine T_run hD 4 (c' := (32, [(18, 130), (0, x1), (0, 0), (0, w32 (x3 + 1))], [], m, XX)) rfl ?_
      exact T_back0 rfl
    · refine T_run hD 5 (c' := (51, [(18, 130), (0, x1), (0, x2), (0, x3)], [(0, w32 (x3 + 1)), (31, 141)], m, XX)) rfl ?_
      refine T_gd hD (c1 := (52, [(18, 130), (0, x1), (0, x2), (0, x3)], [(0, m 141 (w32 (x3 + 1)))], m, XX)) rfl (fun g1 => ?_)
      refine T_run hD 3 (c' := (57, [(18, 130), (0, x1), (0, x2), (0, x3)], [(0, x3), (31, 141), (0, m 141 (w32 (x3 + 1)))], m, XX)) rfl ?_
      refine T_gd hD (c1 := (58, [(18, 130), (0, x1), (0, x2), (0, x3)], [(0, m 141 x3), (0, m 141 (w32 (x3 + 1)))], m, XX)) rfl (fun g2 => ?_)
      refine T_run hD 2 (c' := (60, [(18, 130), (0, x1), (0, x2), (0, x3)], [(0, x1), (0, w32 ((m 141 (w32 (x3 + 1))) - (m 141 x3)))], m, XX)) rfl ?_
      refine T_if hD (c1 := (63, _, _, _, _)) (c2 := (67, _, _, _, _)) rfl (fun _ => ?_) (fun _ => ?_)
      · refine T_run hD 5 (c' := (32, [(18, 130), (0, x1), (0, 1), (0, w32 (x3 + 1))], [], m, XX)) rfl ?_
        exact T_back0 rfl
      · refine T_run hD 4 (c' := (32, [(18, 130), (0, x1), (0, 0), (0, w32 (x3 + 1))], [], m, XX)) rfl ?_
        exact T_back0 rfl
  · refine T_run hD 1 (c' := (76, [(18, 130), (0, x1), (0, x2), (0, x3)], [(0, x2)], m, XX)) rfl ?_
    exact T_gfin hD (fun h => if_pos (decide_eq_true h)) (fun h => h)
def fM_isEven_17 (m : aM) (s0 : Int) : Option Int :=
  if s0 < 7 then
    fM_isEven_32 m s0 1 0
  else
    fM_isEven_32 m s0 0 0
set_option maxRecDepth 100000 in
theorem tM_isEven_17 (r : aR) (m : aM) (s0 : Int) (z1 : aV) (z2 : aV) (z3 : aV) : aT PB 1 32 r (fun w => r = (1, (0, w), m, XX)) (fM_isEven_17 m s0) (17, [(18, 130), z1, z2, z3], [(0, s0)], m, XX) := by
  have hD : aMd PB 32 = d_M_isEven := rfl
  unfold fM_isEven_17
  refine T_run hD 3 (c' := (21, [(18, 130), (0, s0), z2, z3], [(0, 7), (0, s0)], m, XX)) rfl ?_
  refine T_if hD (c1 := (24, _, _, _, _)) (c2 := (28, _, _, _, _)) rfl (fun _ => ?_) (fun _ => ?_)
  · refine T_run hD 5 (c' := (32, [(18, 130), (0, s0), (0, 1), (0, 0)], [], m, XX)) rfl ?_
    exact tM_isEven_32 r m s0 1 0 
  · refine T_run hD 4 (c' := (32, [(18, 130), (0, s0), (0, 0), (0, 0)], [], m, XX)) rfl ?_
    exact tM_isEven_32 r m s0 0 0 
def fM_isEven (m : aM) : Option Int :=
  if m 130 17 = 0 then
    fM_isEven_17 m 0
  else
    fM_isEven_17 m (m 141 1)
set_option maxRecDepth 100000 in
theorem tM_isEven (m : aM) : ∀ v, fM_isEven m = some v → Go PB 1 32 (aEnt d_M_isEven [(18, 130)] m XX) (1, (0, v), m, XX) := by
  intro v hv
  have hD : aMd PB 32 = d_M_isEven := rfl
  obtain ⟨r, hr⟩ : ∃ r : aR, r = (1, (0, v), m, XX) := ⟨_, rfl⟩
  have h9 : aT PB 1 32 r (fun w => r = (1, (0, w), m, XX)) (fM_isEven m) (0, [(18, 130), (99, 0), (99, 0), (99, 0)], [], m, XX) := by
    unfold fM_isEven
    refine T_run hD 2 (c' := (4, [(18, 130), (99, 0), (99, 0), (99, 0)], [(0, m 130 17)], m, XX)) rfl ?_
    refine T_if hD (c1 := (7, _, _, _, _)) (c2 := (11, _, _, _, _)) rfl (fun _ => ?_) (fun _ => ?_)
    · refine T_run hD 2 (c' := (17, [(18, 130), (99, 0), (99, 0), (99, 0)], [(0, 0)], m, XX)) rfl ?_
      exact tM_isEven_17 r m 0 (99, 0) (99, 0) (99, 0)
    · refine T_run hD 4 (c' := (17, [(18, 130), (99, 0), (99, 0), (99, 0)], [(0, m 141 1)], m, XX)) rfl ?_
      exact tM_isEven_17 r m (m 141 1) (99, 0) (99, 0) (99, 0)
  rw [← hr]
  exact h9 v hv hr
abbrev hM_word_19 (m : aM) (x1 : Int) : (Int × Int) → aC → Prop := fun y c => ∃ (z2 : aV) (z4 : aV), c = (19, [(18, 130), (0, x1), z2, (1, (y.1)), z4, (0, (y.2))], [], m, XX)
def fM_word_19_b (m : aM) (x1 : Int) : (Int × Int) → Option ((Int × Int) ⊕ Int) := fun (x3, x5) =>
  if x5 < x1 then
    some (Sum.inr (x3))
  else
    gd (0 ≤ x5 ∧ x5 < 600) (
    some (Sum.inl (lOr (lShl x3 8) (m 131 x5), w32 (x5 + (-1)))))
def fM_word_19 (m : aM) (x1 : Int) (x3 : Int) (x5 : Int) : Option Int := aLoop (fM_word_19_b m x1) FU (x3, x5)
set_option maxRecDepth 100000 in
theorem tM_word_19 (r : aR) (m : aM) (x1 : Int) (x3 : Int) (x5 : Int) (z2 : aV) (z4 : aV) : aT PB 1 33 r (fun w => r = (1, (1, w), m, XX)) (fM_word_19 m x1 x3 x5) (19, [(18, 130), (0, x1), z2, (1, x3), z4, (0, x5)], [], m, XX) := by
  have hD : aMd PB 33 = d_M_word := rfl
  refine T_loop (Hd := (hM_word_19 m x1)) ?_ FU _ _ ⟨z2, z4, rfl⟩
  clear x3 x5 z2 z4
  intro y c hc
  obtain ⟨x3, x5⟩ := y
  obtain ⟨z2, z4, rfl⟩ := hc
  unfold fM_word_19_b
  try dsimp only
  refine T_run hD 2 (c' := (22, [(18, 130), (0, x1), z2, (1, x3), z4, (0, x5)], [(0, x1), (0, x5)], m, XX)) rfl ?_
  refine T_if hD (c1 := (45, _, _, _, _)) (c2 := (25, _, _, _, _)) rfl (fun _ => ?_) (fun _ => ?_)
  · refine T_run hD 1 (c' := (46, [(18, 130), (0, x1), z2, (1, x3), z4, (0, x5)], [(1, x3)], m, XX)) rfl ?_
    exact T_fin hD rfl (fun h => h)
  · refine T_run hD 6 (c' := (35, [(18, 130), (0, x1), z2, (1, x3), z4, (0, x5)], [(0, x5), (31, 131), (1, lShl x3 8)], m, XX)) rfl ?_
    refine T_gd hD (c1 := (36, [(18, 130), (0, x1), z2, (1, x3), z4, (0, x5)], [(0, m 131 x5), (1, lShl x3 8)], m, XX)) rfl (fun g1 => ?_)
    refine T_run hD 5 (c' := (19, [(18, 130), (0, x1), aJ z2, (1, lOr (lShl x3 8) (m 131 x5)), (99, 0), (0, w32 (x5 + (-1)))], [], m, XX)) rfl ?_
    exact T_back0 ⟨_, _, rfl⟩
def fM_word (m : aM) (x1 : Int) (x2 : Int) : Option Int :=
  if 8 < w32 (x2 - x1) then
    some ((-1))
  else
    fM_word_19 m x1 0 (w32 (x2 - 1))
set_option maxRecDepth 100000 in
theorem tM_word (m : aM) (x1 : Int) (x2 : Int) : ∀ v, fM_word m x1 x2 = some v → Go PB 1 33 (aEnt d_M_word [(18, 130), (0, x1), (0, x2)] m XX) (1, (1, v), m, XX) := by
  intro v hv
  have hD : aMd PB 33 = d_M_word := rfl
  obtain ⟨r, hr⟩ : ∃ r : aR, r = (1, (1, v), m, XX) := ⟨_, rfl⟩
  have h9 : aT PB 1 33 r (fun w => r = (1, (1, w), m, XX)) (fM_word m x1 x2) (0, [(18, 130), (0, x1), (0, x2), (99, 0), (99, 0), (99, 0)], [], m, XX) := by
    unfold fM_word
    refine T_run hD 4 (c' := (5, [(18, 130), (0, x1), (0, x2), (99, 0), (99, 0), (99, 0)], [(0, 8), (0, w32 (x2 - x1))], m, XX)) rfl ?_
    refine T_if hD (c1 := (8, _, _, _, _)) (c2 := (12, _, _, _, _)) rfl (fun _ => ?_) (fun _ => ?_)
    · refine T_run hD 1 (c' := (11, [(18, 130), (0, x1), (0, x2), (99, 0), (99, 0), (99, 0)], [(1, (-1))], m, XX)) rfl ?_
      exact T_fin hD rfl (fun h => h)
    · refine T_run hD 6 (c' := (19, [(18, 130), (0, x1), (0, x2), (1, 0), (99, 0), (0, w32 (x2 - 1))], [], m, XX)) rfl ?_
      exact tM_word_19 r m x1 0 (w32 (x2 - 1)) (0, x2) (99, 0)
  rw [← hr]
  exact h9 v hv hr
def fM_isTaken (x0 : Int) : Int :=
  if cmp3 x0 31074 = 0 then
    1
  else
    if cmp3 x0 435710945399 = 0 then
      1
    else
      if cmp3 x0 6581857 = 0 then
        1
      else
        if cmp3 x0 29295 = 0 then
          1
        else
          if cmp3 x0 7630702 = 0 then
            1
          else
            if cmp3 x0 29545 = 0 then
              1
            else
              if cmp3 x0 1819047278 = 0 then
                1
              else
                if cmp3 x0 491327353455 = 0 then
                  1
                else
                  if cmp3 x0 1668506980 = 0 then
                    1
                  else
                    0
set_option maxRecDepth 100000 in
theorem tM_isTaken (m : aM) (x0 : Int) : Go PB 1 34 (aEnt d_M_isTaken [(1, x0)] m XX) (1, (0, (fM_isTaken x0)), m, XX) := by
  have hD : aMd PB 34 = d_M_isTaken := rfl
  show aU PB 1 34 (fun w => (1, (0, w), m, XX)) (fM_isTaken x0) (0, [(1, x0), (99, 0)], [], m, XX)
  unfold fM_isTaken
  refine U_run hD 3 (c' := (5, [(1, x0), (99, 0)], [(0, cmp3 x0 31074)], m, XX)) rfl ?_
  refine U_if hD (c1 := (72, _, _, _, _)) (c2 := (8, _, _, _, _)) rfl (fun _ => ?_) (fun _ => ?_)
  · refine U_run hD 2 (c' := (77, [(1, x0), (99, 0)], [(0, 1)], m, XX)) rfl ?_
    exact Go.fin hD rfl
  · refine U_run hD 3 (c' := (13, [(1, x0), (99, 0)], [(0, cmp3 x0 435710945399)], m, XX)) rfl ?_
    refine U_if hD (c1 := (72, _, _, _, _)) (c2 := (16, _, _, _, _)) rfl (fun _ => ?_) (fun _ => ?_)
    · refine U_run hD 2 (c' := (77, [(1, x0), (99, 0)], [(0, 1)], m, XX)) rfl ?_
      exact Go.fin hD rfl
    · refine U_run hD 3 (c' := (21, [(1, x0), (99, 0)], [(0, cmp3 x0 6581857)], m, XX)) rfl ?_
      refine U_if hD (c1 := (72, _, _, _, _)) (c2 := (24, _, _, _, _)) rfl (fun _ => ?_) (fun _ => ?_)
      · refine U_run hD 2 (c' := (77, [(1, x0), (99, 0)], [(0, 1)], m, XX)) rfl ?_
        exact Go.fin hD rfl
      · refine U_run hD 3 (c' := (29, [(1, x0), (99, 0)], [(0, cmp3 x0 29295)], m, XX)) rfl ?_
        refine U_if hD (c1 := (72, _, _, _, _)) (c2 := (32, _, _, _, _)) rfl (fun _ => ?_) (fun _ => ?_)
        · refine U_run hD 2 (c' := (77, [(1, x0), (99, 0)], [(0, 1)], m, XX)) rfl ?_
          exact Go.fin hD rfl
        · refine U_run hD 3 (c' := (37, [(1, x0), (99, 0)], [(0, cmp3 x0 7630702)], m, XX)) rfl ?_
          refine U_if hD (c1 := (72, _, _, _, _)) (c2 := (40, _, _, _, _)) rfl (fun _ => ?_) (fun _ => ?_)
          · refine U_run hD 2 (c' := (77, [(1, x0), (99, 0)], [(0, 1)], m, XX)) rfl ?_
            exact Go.fin hD rfl
          · refine U_run hD 3 (c' := (45, [(1, x0), (99, 0)], [(0, cmp3 x0 29545)], m, XX)) rfl ?_
            refine U_if hD (c1 := (72, _, _, _, _)) (c2 := (48, _, _, _, _)) rfl (fun _ => ?_) (fun _ => ?_)
            · refine U_run hD 2 (c' := (77, [(1, x0), (99, 0)], [(0, 1)], m, XX)) rfl ?_
              exact Go.fin hD rfl
            · refine U_run hD 3 (c' := (53, [(1, x0), (99, 0)], [(0, cmp3 x0 1819047278)], m, XX)) rfl ?_
              refine U_if hD (c1 := (72, _, _, _, _)) (c2 := (56, _, _, _, _)) rfl (fun _ => ?_) (fun _ => ?_)
              · refine U_run hD 2 (c' := (77, [(1, x0), (99, 0)], [(0, 1)], m, XX)) rfl ?_
                exact Go.fin hD rfl
              · refine U_run hD 3 (c' := (61, [(1, x0), (99, 0)], [(0, cmp3 x0 491327353455)], m, XX)) rfl ?_
                refine U_if hD (c1 := (72, _, _, _, _)) (c2 := (64, _, _, _, _)) rfl (fun _ => ?_) (fun _ => ?_)
                · refine U_run hD 2 (c' := (77, [(1, x0), (99, 0)], [(0, 1)], m, XX)) rfl ?_
                  exact Go.fin hD rfl
                · refine U_run hD 3 (c' := (69, [(1, x0), (99, 0)], [(0, cmp3 x0 1668506980)], m, XX)) rfl ?_
                  refine U_if hD (c1 := (72, _, _, _, _)) (c2 := (76, _, _, _, _)) rfl (fun _ => ?_) (fun _ => ?_)
                  · refine U_run hD 2 (c' := (77, [(1, x0), (99, 0)], [(0, 1)], m, XX)) rfl ?_
                    exact Go.fin hD rfl
                  · refine U_run hD 1 (c' := (77, [(1, x0), (99, 0)], [(0, 0)], m, XX)) rfl ?_
                    exact Go.fin hD rfl
abbrev hM_areNames_15 (m : aM) : (Int × Int) → aC → Prop := fun y c => ∃ (z3 : aV) (z4 : aV) (z5 : aV), c = (15, [(18, 130), (0, (y.1)), (0, (y.2)), z3, z4, z5], [], m, XX)
abbrev hM_areNames_68 (m : aM) (x2 : Int) (x3 : Int) (x4 : Int) : (Int × Int) → aC → Prop := fun y c => c = (68, [(18, 130), (0, (y.1)), (0, x2), (0, x3), (0, x4), (0, (y.2))], [], m, XX)
abbrev hM_areNames_130 (m : aM) (x2 : Int) (x3 : Int) (x4 : Int) : (Int × Int) → aC → Prop := fun y c => c = (130, [(18, 130), (0, (y.1)), (0, x2), (0, x3), (0, x4), (0, (y.2))], [], m, XX)
def fM_areNames_130_b (m : aM) (x2 : Int) (x3 : Int) (x4 : Int) : (Int × Int) → Option ((Int × Int) ⊕ ((Int × Int) ⊕ Int)) := fun (x1, x5) =>
  if x5 < x2 then
    if x1 = 0 then
      some (Sum.inl (0, w32 (x5 + 1)))
    else
      (fM_word m x3 x4).bind fun v3 =>
      gd (0 ≤ x5 ∧ x5 < 242) (
      (fM_word m (m 138 x5) (m 139 x5)).bind fun v5 =>
      if cmp3 v3 v5 = 0 then
        some (Sum.inl (0, w32 (x5 + 1)))
      else
        some (Sum.inl (1, w32 (x5 + 1))))
  else
    some (Sum.inr (Sum.inl (x1, w32 (x2 + 1))))
def fM_areNames_130 (m : aM) (x1 : Int) (x2 : Int) (x3 : Int) (x4 : Int) (x5 : Int) : Option ((Int × Int) ⊕ Int) := aLoop (fM_areNames_130_b m x2 x3 x4) FU (x1, x5)
set_option maxRecDepth 100000 in
theorem tM_areNames_130 (r : aR) (m : aM) (x1 : Int) (x2 : Int) (x3 : Int) (x4 : Int) (x5 : Int) : aT PB 2 35 r (aTurn PB 2 35 r (hM_areNames_15 m) (fun w => r = (1, (0, w), m, XX))) (fM_areNames_130 m x1 x2 x3 x4 x5) (130, [(18, 130), (0, x1), (0, x2), (0, x3), (0, x4), (0, x5)], [], m, XX) := by
  have hD : aMd PB 35 = d_M_areNames := rfl
  refine T_loop (Hd := (hM_areNames_130 m x2 x3 x4)) ?_ FU _ _ rfl
  clear x1 x5
  intro y c hc
  obtain ⟨x1, x5⟩ := y
  obtain rfl := hc
  unfold fM_areNames_130_b
  try dsimp only
  refine T_run hD 2 (c' := (133, [(18, 130), (0, x1), (0, x2), (0, x3), (0, x4), (0, x5)], [(0, x2), (0, x5)], m, XX)) rfl ?_
  refine T_if hD (c1 := (136, _, _, _, _)) (c2 := (181, _, _, _, _)) rfl (fun _ => ?_) (fun _ => ?_)
  · refine T_run hD 1 (c' := (137, [(18, 130), (0, x1), (0, x2), (0, x3), (0, x4), (0, x5)], [(0, x1)], m, XX)) rfl ?_
    refine T_if hD (c1 := (173, _, _, _, _)) (c2 := (140, _, _, _, _)) rfl (fun _ => ?_) (fun _ => ?_)
    · refine T_run hD 4 (c' := (130, [(18, 130), (0, 0), (0, x2), (0, x3), (0, x4), (0, w32 (x5 + 1))], [], m, XX)) rfl ?_
      exact T_back0 rfl
    · refine T_run hD 3 (c' := (144, [(18, 130), (0, x1), (0, x2), (0, x3), (0, x4), (0, x5)], [(0, x4), (0, x3), (18, 130)], m, XX)) rfl ?_
      refine T_call hD (D2 := d_M_word) (q2 := 33) (as := [(18, 130), (0, x3), (0, x4)]) (c1 := (147, [(18, 130), (0, x1), (0, x2), (0, x3), (0, x4), (0, x5)], [], m, XX)) (mk := fun w => (1, (1, w), m, XX)) (cc := fun v3 => (147, [(18, 130), (0, x1), (0, x2), (0, x3), (0, x4), (0, x5)], [(1, v3)], m, XX)) rfl rfl (fun y9 h9y => Go.mono (tM_word m x3 x4 y9 h9y) (by decide)) (fun _ => rfl) (fun v3 => ?_)
      refine T_run hD 4 (c' := (154, [(18, 130), (0, x1), (0, x2), (0, x3), (0, x4), (0, x5)], [(0, x5), (31, 138), (18, 130), (1, v3)], m, XX)) rfl ?_
      refine T_gd hD (c1 := (155, [(18, 130), (0, x1), (0, x2), (0, x3), (0, x4), (0, x5)], [(0, m 138 x5), (18, 130), (1, v3)], m, XX)) rfl (fun g4 => ?_)
      refine T_run hD 3 (c' := (161, [(18, 130), (0, x1), (0, x2), (0, x3), (0, x4), (0, x5)], [(0, x5), (31, 139), (0, m 138 x5), (18, 130), (1, v3)], m, XX)) rfl ?_
      refine T_gk hD (c1 := (162, [(18, 130), (0, x1), (0, x2), (0, x3), (0, x4), (0, x5)], [(0, m 139 x5), (0, m 138 x5), (18, 130), (1, v3)], m, XX)) (P := 0 ≤ x5 ∧ x5 < 242) rfl g4 ?_
      refine T_call hD (D2 := d_M_word) (q2 := 33) (as := [(18, 130), (0, m 138 x5), (0, m 139 x5)]) (c1 := (165, [(18, 130), (0, x1), (0, x2), (0, x3), (0, x4), (0, x5)], [(1, v3)], m, XX)) (mk := fun w => (1, (1, w), m, XX)) (cc := fun v5 => (165, [(18, 130), (0, x1), (0, x2), (0, x3), (0, x4), (0, x5)], [(1, v5), (1, v3)], m, XX)) rfl rfl (fun y9 h9y => Go.mono (tM_word m (m 138 x5) (m 139 x5) y9 h9y) (by decide)) (fun _ => rfl) (fun v5 => ?_)
      refine T_run hD 1 (c' := (166, [(18, 130), (0, x1), (0, x2), (0, x3), (0, x4), (0, x5)], [(0, cmp3 v3 v5)], m, XX)) rfl ?_
      refine T_if hD (c1 := (173, _, _, _, _)) (c2 := (169, _, _, _, _)) rfl (fun _ => ?_) (fun _ => ?_)
      · refine T_run hD 4 (c' := (130, [(18, 130), (0, 0), (0, x2), (0, x3), (0, x4), (0, w32 (x5 + 1))], [], m, XX)) rfl ?_
        exact T_back0 rfl
      · refine T_run hD 5 (c' := (130, [(18, 130), (0, 1), (0, x2), (0, x3), (0, x4), (0, w32 (x5 + 1))], [], m, XX)) rfl ?_
        exact T_back0 rfl
  · refine T_run hD 2 (c' := (15, [(18, 130), (0, x1), (0, w32 (x2 + 1)), (0, x3), (0, x4), (0, x5)], [], m, XX)) rfl ?_
    exact T_back1 ⟨_, _, _, rfl⟩
def fM_areNames_68_b (m : aM) (x2 : Int) (x3 : Int) (x4 : Int) : (Int × Int) → Option ((Int × Int) ⊕ ((Int × Int) ⊕ Int)) := fun (x1, x5) =>
  if x5 < x4 then
    if x1 = 0 then
      some (Sum.inl (0, w32 (x5 + 1)))
    else
      gd (0 ≤ x5 ∧ x5 < 600) (
      if fM_isLetter (m 131 x5) = 0 then
        some (Sum.inl (0, w32 (x5 + 1)))
      else
        some (Sum.inl (1, w32 (x5 + 1))))
  else
    if x1 = 0 then
      (fM_areNames_130 m 0 x2 x3 x4 0).map Sum.inr
    else
      (fM_word m x3 x4).bind fun v6 =>
      if fM_isTaken v6 = 0 then
        (fM_areNames_130 m 1 x2 x3 x4 0).map Sum.inr
      else
        (fM_areNames_130 m 0 x2 x3 x4 0).map Sum.inr
def fM_areNames_68 (m : aM) (x1 : Int) (x2 : Int) (x3 : Int) (x4 : Int) (x5 : Int) : Option ((Int × Int) ⊕ Int) := aLoop (fM_areNames_68_b m x2 x3 x4) FU (x1, x5)
set_option maxRecDepth 100000 in
theorem tM_areNames_68 (r : aR) (m : aM) (x1 : Int) (x2 : Int) (x3 : Int) (x4 : Int) (x5 : Int) : aT PB 2 35 r (aTurn PB 2 35 r (hM_areNames_15 m) (fun w => r = (1, (0, w), m, XX))) (fM_areNames_68 m x1 x2 x3 x4 x5) (68, [(18, 130), (0, x1), (0, x2), (0, x3), (0, x4), (0, x5)], [], m, XX) := by
  have hD : aMd PB 35 = d_M_areNames := rfl
  refine T_loop (Hd := (hM_areNames_68 m x2 x3 x4)) ?_ FU _ _ rfl
  clear x1 x5
  intro y c hc
  obtain ⟨x1, x5⟩ := y
  obtain rfl := hc
  unfold fM_areNames_68_b
  try dsimp only
  refine T_run hD 2 (c' := (72, [(18, 130), (0, x1), (0, x2), (0, x3), (0, x4), (0, x5)], [(0, x4), (0, x5)], m, XX)) rfl ?_
  refine T_if hD (c1 := (75, _, _, _, _)) (c2 := (104, _, _, _, _)) rfl (fun _ => ?_) (fun _ => ?_)
  · refine T_run hD 1 (c' := (76, [(18, 130), (0, x1), (0, x2), (0, x3), (0, x4), (0, x5)], [(0, x1)], m, XX)) rfl ?_
    refine T_if hD (c1 := (96, _, _, _, _)) (c2 := (79, _, _, _, _)) rfl (fun _ => ?_) (fun _ => ?_)
    · refine T_run hD 4 (c' := (68, [(18, 130), (0, 0), (0, x2), (0, x3), (0, x4), (0, w32 (x5 + 1))], [], m, XX)) rfl ?_
      exact T_back0 rfl
    · refine T_run hD 3 (c' := (85, [(18, 130), (0, x1), (0, x2), (0, x3), (0, x4), (0, x5)], [(0, x5), (31, 131)], m, XX)) rfl ?_
      refine T_gd hD (c1 := (86, [(18, 130), (0, x1), (0, x2), (0, x3), (0, x4), (0, x5)], [(0, m 131 x5)], m, XX)) rfl (fun g2 => ?_)
      refine T_call0 hD (D2 := d_M_isLetter) (q2 := 25) (as := [(0, m 131 x5)]) (c1 := (89, [(18, 130), (0, x1), (0, x2), (0, x3), (0, x4), (0, x5)], [], m, XX)) (r2 := (1, (0, fM_isLetter (m 131 x5)), m, XX)) (c2 := (89, [(18, 130), (0, x1), (0, x2), (0, x3), (0, x4), (0, x5)], [(0, fM_isLetter (m 131 x5))], m, XX)) rfl rfl (Go.mono (tM_isLetter m (m 131 x5)) (by decide)) rfl ?_
      refine T_if hD (c1 := (96, _, _, _, _)) (c2 := (92, _, _, _, _)) rfl (fun _ => ?_) (fun _ => ?_)
      · refine T_run hD 4 (c' := (68, [(18, 130), (0, 0), (0, x2), (0, x3), (0, x4), (0, w32 (x5 + 1))], [], m, XX)) rfl ?_
        exact T_back0 rfl
      · refine T_run hD 5 (c' := (68, [(18, 130), (0, 1), (0, x2), (0, x3), (0, x4), (0, w32 (x5 + 1))], [], m, XX)) rfl ?_
        exact T_back0 rfl
  · refine T_run hD 1 (c' := (105, [(18, 130), (0, x1), (0, x2), (0, x3), (0, x4), (0, x5)], [(0, x1)], m, XX)) rfl ?_
    refine T_if hD (c1 := (125, _, _, _, _)) (c2 := (108, _, _, _, _)) rfl (fun _ => ?_) (fun _ => ?_)
    · refine T_run hD 4 (c' := (130, [(18, 130), (0, 0), (0, x2), (0, x3), (0, x4), (0, 0)], [], m, XX)) rfl ?_
      exact T_map (tM_areNames_130 r m 0 x2 x3 x4 0 )
    · refine T_run hD 3 (c' := (112, [(18, 130), (0, x1), (0, x2), (0, x3), (0, x4), (0, x5)], [(0, x4), (0, x3), (18, 130)], m, XX)) rfl ?_
      refine T_call hD (D2 := d_M_word) (q2 := 33) (as := [(18, 130), (0, x3), (0, x4)]) (c1 := (115, [(18, 130), (0, x1), (0, x2), (0, x3), (0, x4), (0, x5)], [], m, XX)) (mk := fun w => (1, (1, w), m, XX)) (cc := fun v6 => (115, [(18, 130), (0, x1), (0, x2), (0, x3), (0, x4), (0, x5)], [(1, v6)], m, XX)) rfl rfl (fun y9 h9y => Go.mono (tM_word m x3 x4 y9 h9y) (by decide)) (fun _ => rfl) (fun v6 => ?_)
      refine T_call0 hD (D2 := d_M_isTaken) (q2 := 34) (as := [(1, v6)]) (c1 := (118, [(18, 130), (0, x1), (0, x2), (0, x3), (0, x4), (0, x5)], [], m, XX)) (r2 := (1, (0, fM_isTaken v6), m, XX)) (c2 := (118, [(18, 130), (0, x1), (0, x2), (0, x3), (0, x4), (0, x5)], [(0, fM_isTaken v6)], m, XX)) rfl rfl (Go.mono (tM_isTaken m v6) (by decide)) rfl ?_
      refine T_if hD (c1 := (121, _, _, _, _)) (c2 := (125, _, _, _, _)) rfl (fun _ => ?_) (fun _ => ?_)
      · refine T_run hD 5 (c' := (130, [(18, 130), (0, 1), (0, x2), (0, x3), (0, x4), (0, 0)], [], m, XX)) rfl ?_
        exact T_map (tM_areNames_130 r m 1 x2 x3 x4 0 )
      · refine T_run hD 4 (c' := (130, [(18, 130), (0, 0), (0, x2), (0, x3), (0, x4), (0, 0)], [], m, XX)) rfl ?_
        exact T_map (tM_areNames_130 r m 0 x2 x3 x4 0 )
def fM_areNames_15_b (m : aM) : (Int × Int) → Option ((Int × Int) ⊕ Int) := fun (x1, x2) =>
  if x1 = 0 then
    gd (x1 = 0 ∨ x1 = 1) (some (Sum.inr (x1)))
  else
    if x2 < m 141 1 then
      gd (0 ≤ x2 ∧ x2 < 242) (
      if m 138 x2 < m 139 x2 then
        if w32 ((m 139 x2) - (m 138 x2)) < 7 then
          fM_areNames_68 m 1 x2 (m 138 x2) (m 139 x2) (m 138 x2)
        else
          fM_areNames_68 m 0 x2 (m 138 x2) (m 139 x2) (m 138 x2)
      else
        fM_areNames_68 m 0 x2 (m 138 x2) (m 139 x2) (m 138 x2))
    else
      gd (x1 = 0 ∨ x1 = 1) (some (Sum.inr (x1)))
def fM_areNames_15 (m : aM) (x1 : Int) (x2 : Int) : Option Int := aLoop (fM_areNames_15_b m) FU (x1, x2)
set_option maxRecDepth 100000 in
theorem tM_areNames_15 (r : aR) (m : aM) (x1 : Int) (x2 : Int) (z3 : aV) (z4 : aV) (z5 : aV) : aT PB 2 35 r (fun w => r = (1, (0, w), m, XX)) (fM_areNames_15 m x1 x2) (15, [(18, 130), (0, x1), (0, x2), z3, z4, z5], [], m, XX) := by
  have hD : aMd PB 35 = d_M_areNames := rfl
  refine T_loop (Hd := (hM_areNames_15 m)) ?_ FU _ _ ⟨z3, z4, z5, rfl⟩
  clear x1 x2 z3 z4 z5
  intro y c hc
  obtain ⟨x1, x2⟩ := y
  obtain ⟨z3, z4, z5, rfl⟩ := hc
  unfold fM_areNames_15_b
  try dsimp only
  refine T_run hD 1 (c' := (16, [(18, 130), (0, x1), (0, x2), z3, z4, z5], [(0, x1)], m, XX)) rfl ?_
  refine T_if hD (c1 := (187, _, _, _, _)) (c2 := (19, _, _, _, _)) rfl (fun _ => ?_) (fun _ => ?_)
  · refine T_run hD 1 (c' := (188, [(18, 130), (0, x1), (0, x2), z3, z4, z5], [(0, x1)], m, XX)) rfl ?_
    exact T_gfin hD (fun h => if_pos (decide_eq_true h)) (fun h => h)
  · refine T_run hD 5 (c' := (26, [(18, 130), (0, x1), (0, x2), z3, z4, z5], [(0, m 141 1), (0, x2)], m, XX)) rfl ?_
    refine T_if hD (c1 := (29, _, _, _, _)) (c2 := (187, _, _, _, _)) rfl (fun _ => ?_) (fun _ => ?_)
    · refine T_run hD 3 (c' := (34, [(18, 130), (0, x1), (0, x2), z3, z4, z5], [(0, x2), (31, 138)], m, XX)) rfl ?_
      refine T_gd hD (c1 := (35, [(18, 130), (0, x1), (0, x2), z3, z4, z5], [(0, m 138 x2)], m, XX)) rfl (fun g1 => ?_)
      refine T_run hD 4 (c' := (41, [(18, 130), (0, x1), (0, x2), (0, m 138 x2), z4, z5], [(0, x2), (31, 139)], m, XX)) rfl ?_
      refine T_gk hD (c1 := (42, [(18, 130), (0, x1), (0, x2), (0, m 138 x2), z4, z5], [(0, m 139 x2)], m, XX)) (P := 0 ≤ x2 ∧ x2 < 242) rfl g1 ?_
      refine T_run hD 3 (c' := (47, [(18, 130), (0, x1), (0, x2), (0, m 138 x2), (0, m 139 x2), z5], [(0, m 138 x2), (0, m 139 x2)], m, XX)) rfl ?_
      refine T_if hD (c1 := (50, _, _, _, _)) (c2 := (63, _, _, _, _)) rfl (fun _ => ?_) (fun _ => ?_)
      · refine T_run hD 4 (c' := (56, [(18, 130), (0, x1), (0, x2), (0, m 138 x2), (0, m 139 x2), z5], [(0, 7), (0, w32 ((m 139 x2) - (m 138 x2)))], m, XX)) rfl ?_
        refine T_if hD (c1 := (59, _, _, _, _)) (c2 := (63, _, _, _, _)) rfl (fun _ => ?_) (fun _ => ?_)
        · refine T_run hD 5 (c' := (68, [(18, 130), (0, 1), (0, x2), (0, m 138 x2), (0, m 139 x2), (0, m 138 x2)], [], m, XX)) rfl ?_
          exact tM_areNames_68 r m 1 x2 (m 138 x2) (m 139 x2) (m 138 x2) 
        · refine T_run hD 4 (c' := (68, [(18, 130), (0, 0), (0, x2), (0, m 138 x2), (0, m 139 x2), (0, m 138 x2)], [], m, XX)) rfl ?_
          exact tM_areNames_68 r m 0 x2 (m 138 x2) (m 139 x2) (m 138 x2) 
      · refine T_run hD 4 (c' := (68, [(18, 130), (0, 0), (0, x2), (0, m 138 x2), (0, m 139 x2), (0, m 138 x2)], [], m, XX)) rfl ?_
        exact tM_areNames_68 r m 0 x2 (m 138 x2) (m 139 x2) (m 138 x2) 
    · refine T_run hD 1 (c' := (188, [(18, 130), (0, x1), (0, x2), z3, z4, z5], [(0, x1)], m, XX)) rfl ?_
      exact T_gfin hD (fun h => if_pos (decide_eq_true h)) (fun h => h)
def fM_areNames (m : aM) : Option Int :=
  if 0 < m 130 17 then
    fM_areNames_15 m 1 0
  else
    fM_areNames_15 m 0 0
set_option maxRecDepth 100000 in
theorem tM_areNames (m : aM) : ∀ v, fM_areNames m = some v → Go PB 2 35 (aEnt d_M_areNames [(18, 130)] m XX) (1, (0, v), m, XX) := by
  intro v hv
  have hD : aMd PB 35 = d_M_areNames := rfl
  obtain ⟨r, hr⟩ : ∃ r : aR, r = (1, (0, v), m, XX) := ⟨_, rfl⟩
  have h9 : aT PB 2 35 r (fun w => r = (1, (0, w), m, XX)) (fM_areNames m) (0, [(18, 130), (99, 0), (99, 0), (99, 0), (99, 0), (99, 0)], [], m, XX) := by
    unfold fM_areNames
    refine T_run hD 2 (c' := (4, [(18, 130), (99, 0), (99, 0), (99, 0), (99, 0), (99, 0)], [(0, m 130 17)], m, XX)) rfl ?_
    refine T_if hD (c1 := (7, _, _, _, _)) (c2 := (11, _, _, _, _)) rfl (fun _ => ?_) (fun _ => ?_)
    · refine T_run hD 5 (c' := (15, [(18, 130), (0, 1), (0, 0), (99, 0), (99, 0), (99, 0)], [], m, XX)) rfl ?_
      exact tM_areNames_15 r m 1 0 (99, 0) (99, 0) (99, 0)
    · refine T_run hD 4 (c' := (15, [(18, 130), (0, 0), (0, 0), (99, 0), (99, 0), (99, 0)], [], m, XX)) rfl ?_
      exact tM_areNames_15 r m 0 0 (99, 0) (99, 0) (99, 0)
  rw [← hr]
  exact h9 v hv hr
abbrev hM_keep_33 (x1 : Int) (x2 : Int) : (aM × Int) → aC → Prop := fun y c => c = (33, [(18, 130), (0, x1), (0, x2), (0, (y.2))], [], (y.1), XX)
def fM_keep_33_b (x1 : Int) (x2 : Int) : (aM × Int) → Option ((aM × Int) ⊕ aM) := fun (m, x3) =>
  gd (0 ≤ x2 ∧ x2 < 242) (
  if x3 < m 139 x2 then
    gd (0 ≤ x3 ∧ x3 < 600) (
    gd (0 ≤ w32 (336 + (m 130 8)) ∧ w32 (336 + (m 130 8)) < 600) (
    if m 140 x2 = 0 then
      some (Sum.inl (mup (mup m 131 (w32 (336 + (m 130 8))) (m 131 x3)) 130 8 (w32 ((m 130 8) + 1)), w32 (x3 + 1)))
    else
      if (mup m 131 (w32 (336 + (m 130 8))) (m 131 x3)) 131 x3 = 34 then
        some (Sum.inl (mup (mup m 131 (w32 (336 + (m 130 8))) (m 131 x3)) 130 8 (w32 ((m 130 8) + 1)), w32 (x3 + 2)))
      else
        some (Sum.inl (mup (mup m 131 (w32 (336 + (m 130 8))) (m 131 x3)) 130 8 (w32 ((m 130 8) + 1)), w32 (x3 + 1)))))
  else
    gd (0 ≤ x1 ∧ x1 < 96) (
    if (mup m 135 x1 (w32 ((w32 (336 + (m 130 8))) - (m 134 x1)))) 135 x1 = 0 then
      if m 136 x1 = 0 then
        some (Sum.inr (mup (mup m 135 x1 (w32 ((w32 (336 + (m 130 8))) - (m 134 x1)))) 135 x1 (-1)))
      else
        some (Sum.inr (mup (mup m 135 x1 (w32 ((w32 (336 + (m 130 8))) - (m 134 x1)))) 135 x1 ((mup m 135 x1 (w32 ((w32 (336 + (m 130 8))) - (m 134 x1)))) 135 x1)))
    else
      some (Sum.inr (mup (mup m 135 x1 (w32 ((w32 (336 + (m 130 8))) - (m 134 x1)))) 135 x1 ((mup m 135 x1 (w32 ((w32 (336 + (m 130 8))) - (m 134 x1)))) 135 x1)))))
def fM_keep_33 (m : aM) (x1 : Int) (x2 : Int) (x3 : Int) : Option aM := aLoop (fM_keep_33_b x1 x2) FU (m, x3)
set_option maxRecDepth 100000 in
theorem tM_keep_33 (r : aR) (m : aM) (x1 : Int) (x2 : Int) (x3 : Int) : aT PB 1 36 r (fun w => r = (0, (0, 0), w, XX)) (fM_keep_33 m x1 x2 x3) (33, [(18, 130), (0, x1), (0, x2), (0, x3)], [], m, XX) := by
  have hD : aMd PB 36 = d_M_keep := rfl
  refine T_loop (Hd := (hM_keep_33 x1 x2)) ?_ FU _ _ rfl
  clear m x3
  intro y c hc
  obtain ⟨m, x3⟩ := y
  obtain rfl := hc
  unfold fM_keep_33_b
  try dsimp only
  refine T_run hD 4 (c' := (39, [(18, 130), (0, x1), (0, x2), (0, x3)], [(0, x2), (31, 139), (0, x3)], m, XX)) rfl ?_
  refine T_gd hD (c1 := (40, [(18, 130), (0, x1), (0, x2), (0, x3)], [(0, m 139 x2), (0, x3)], m, XX)) rfl (fun g3 => ?_)
  refine T_if hD (c1 := (43, _, _, _, _)) (c2 := (105, _, _, _, _)) rfl (fun _ => ?_) (fun _ => ?_)
  · refine T_run hD 9 (c' := (60, [(18, 130), (0, x1), (0, x2), (0, x3)], [(0, x3), (31, 131), (0, w32 (336 + (m 130 8))), (31, 131)], m, XX)) rfl ?_
    refine T_gd hD (c1 := (61, [(18, 130), (0, x1), (0, x2), (0, x3)], [(0, m 131 x3), (0, w32 (336 + (m 130 8))), (31, 131)], m, XX)) rfl (fun g4 => ?_)
    refine T_gd hD (c1 := (62, [(18, 130), (0, x1), (0, x2), (0, x3)], [], mup m 131 (w32 (336 + (m 130 8))) (m 131 x3), XX)) rfl (fun g5 => ?_)
    refine T_run hD 9 (c' := (77, [(18, 130), (0, x1), (0, x2), (0, x3)], [(0, x2), (33, 140)], mup (mup m 131 (w32 (336 + (m 130 8))) (m 131 x3)) 130 8 (w32 ((m 130 8) + 1)), XX)) rfl ?_
    refine T_gk hD (c1 := (78, [(18, 130), (0, x1), (0, x2), (0, x3)], [(0, m 140 x2)], mup (mup m 131 (w32 (336 + (m 130 8))) (m 131 x3)) 130 8 (w32 ((m 130 8) + 1)), XX)) (P := 0 ≤ x2 ∧ x2 < 242) rfl g3 ?_
    refine T_if hD (c1 := (98, _, _, _, _)) (c2 := (81, _, _, _, _)) rfl (fun _ => ?_) (fun _ => ?_)
    · refine T_run hD 5 (c' := (33, [(18, 130), (0, x1), (0, x2), (0, w32 (x3 + 1))], [], mup (mup m 131 (w32 (336 + (m 130 8))) (m 131 x3)) 130 8 (w32 ((m 130 8) + 1)), XX)) rfl ?_
      exact T_back0 rfl
    · refine T_run hD 3 (c' := (86, [(18, 130), (0, x1), (0, x2), (0, x3)], [(0, x3), (31, 131)], mup (mup m 131 (w32 (336 + (m 130 8))) (m 131 x3)) 130 8 (w32 ((m 130 8) + 1)), XX)) rfl ?_
      refine T_gk hD (c1 := (87, [(18, 130), (0, x1), (0, x2), (0, x3)], [(0, (mup m 131 (w32 (336 + (m 130 8))) (m 131 x3)) 131 x3)], mup (mup m 131 (w32 (336 + (m 130 8))) (m 131 x3)) 130 8 (w32 ((m 130 8) + 1)), XX)) (P := 0 ≤ x3 ∧ x3 < 600) rfl g4 ?_
      refine T_run hD 1 (c' := (89, [(18, 130), (0, x1), (0, x2), (0, x3)], [(0, 34), (0, (mup m 131 (w32 (336 + (m 130 8))) (m 131 x3)) 131 x3)], mup (mup m 131 (w32 (336 + (m 130 8))) (m 131 x3)) 130 8 (w32 ((m 130 8) + 1)), XX)) rfl ?_
      refine T_if hD (c1 := (92, _, _, _, _)) (c2 := (98, _, _, _, _)) rfl (fun _ => ?_) (fun _ => ?_)
      · refine T_run hD 6 (c' := (33, [(18, 130), (0, x1), (0, x2), (0, w32 (x3 + 2))], [], mup (mup m 131 (w32 (336 + (m 130 8))) (m 131 x3)) 130 8 (w32 ((m 130 8) + 1)), XX)) rfl ?_
        exact T_back0 rfl
      · refine T_run hD 5 (c' := (33, [(18, 130), (0, x1), (0, x2), (0, w32 (x3 + 1))], [], mup (mup m 131 (w32 (336 + (m 130 8))) (m 131 x3)) 130 8 (w32 ((m 130 8) + 1)), XX)) rfl ?_
        exact T_back0 rfl
  · refine T_run hD 10 (c' := (123, [(18, 130), (0, x1), (0, x2), (0, x3)], [(0, x1), (31, 134), (0, w32 (336 + (m 130 8))), (0, x1), (31, 135)], m, XX)) rfl ?_
    refine T_gd hD (c1 := (124, [(18, 130), (0, x1), (0, x2), (0, x3)], [(0, m 134 x1), (0, w32 (336 + (m 130 8))), (0, x1), (31, 135)], m, XX)) rfl (fun g6 => ?_)
    refine T_run hD 1 (c' := (125, [(18, 130), (0, x1), (0, x2), (0, x3)], [(0, w32 ((w32 (336 + (m 130 8))) - (m 134 x1))), (0, x1), (31, 135)], m, XX)) rfl ?_
    refine T_gk hD (c1 := (126, [(18, 130), (0, x1), (0, x2), (0, x3)], [], mup m 135 x1 (w32 ((w32 (336 + (m 130 8))) - (m 134 x1))), XX)) (P := 0 ≤ x1 ∧ x1 < 96) rfl g6 ?_
    refine T_run hD 6 (c' := (136, [(18, 130), (0, x1), (0, x2), (0, x3)], [(0, x1), (31, 135), (0, x1), (31, 135)], mup m 135 x1 (w32 ((w32 (336 + (m 130 8))) - (m 134 x1))), XX)) rfl ?_
    refine T_gk hD (c1 := (137, [(18, 130), (0, x1), (0, x2), (0, x3)], [(0, (mup m 135 x1 (w32 ((w32 (336 + (m 130 8))) - (m 134 x1)))) 135 x1), (0, x1), (31, 135)], mup m 135 x1 (w32 ((w32 (336 + (m 130 8))) - (m 134 x1))), XX)) (P := 0 ≤ x1 ∧ x1 < 96) rfl g6 ?_
    refine T_if hD (c1 := (140, _, _, _, _)) (c2 := (153, _, _, _, _)) rfl (fun _ => ?_) (fun _ => ?_)
    · refine T_run hD 3 (c' := (145, [(18, 130), (0, x1), (0, x2), (0, x3)], [(0, x1), (33, 136), (0, x1), (31, 135)], mup m 135 x1 (w32 ((w32 (336 + (m 130 8))) - (m 134 x1))), XX)) rfl ?_
      refine T_gk hD (c1 := (146, [(18, 130), (0, x1), (0, x2), (0, x3)], [(0, m 136 x1), (0, x1), (31, 135)], mup m 135 x1 (w32 ((w32 (336 + (m 130 8))) - (m 134 x1))), XX)) (P := 0 ≤ x1 ∧ x1 < 96) rfl g6 ?_
      refine T_if hD (c1 := (149, _, _, _, _)) (c2 := (153, _, _, _, _)) rfl (fun _ => ?_) (fun _ => ?_)
      · refine T_run hD 2 (c' := (159, [(18, 130), (0, x1), (0, x2), (0, x3)], [(0, (-1)), (0, x1), (31, 135)], mup m 135 x1 (w32 ((w32 (336 + (m 130 8))) - (m 134 x1))), XX)) rfl ?_
        refine T_gk hD (c1 := (160, [(18, 130), (0, x1), (0, x2), (0, x3)], [], mup (mup m 135 x1 (w32 ((w32 (336 + (m 130 8))) - (m 134 x1)))) 135 x1 (-1), XX)) (P := 0 ≤ x1 ∧ x1 < 96) rfl g6 ?_
        exact T_fin hD rfl (fun h => h)
      · refine T_run hD 3 (c' := (158, [(18, 130), (0, x1), (0, x2), (0, x3)], [(0, x1), (31, 135), (0, x1), (31, 135)], mup m 135 x1 (w32 ((w32 (336 + (m 130 8))) - (m 134 x1))), XX)) rfl ?_
        refine T_gk hD (c1 := (159, [(18, 130), (0, x1), (0, x2), (0, x3)], [(0, (mup m 135 x1 (w32 ((w32 (336 + (m 130 8))) - (m 134 x1)))) 135 x1), (0, x1), (31, 135)], mup m 135 x1 (w32 ((w32 (336 + (m 130 8))) - (m 134 x1))), XX)) (P := 0 ≤ x1 ∧ x1 < 96) rfl g6 ?_
        refine T_gk hD (c1 := (160, [(18, 130), (0, x1), (0, x2), (0, x3)], [], mup (mup m 135 x1 (w32 ((w32 (336 + (m 130 8))) - (m 134 x1)))) 135 x1 ((mup m 135 x1 (w32 ((w32 (336 + (m 130 8))) - (m 134 x1)))) 135 x1), XX)) (P := 0 ≤ x1 ∧ x1 < 96) rfl g6 ?_
        exact T_fin hD rfl (fun h => h)
    · refine T_run hD 3 (c' := (158, [(18, 130), (0, x1), (0, x2), (0, x3)], [(0, x1), (31, 135), (0, x1), (31, 135)], mup m 135 x1 (w32 ((w32 (336 + (m 130 8))) - (m 134 x1))), XX)) rfl ?_
      refine T_gk hD (c1 := (159, [(18, 130), (0, x1), (0, x2), (0, x3)], [(0, (mup m 135 x1 (w32 ((w32 (336 + (m 130 8))) - (m 134 x1)))) 135 x1), (0, x1), (31, 135)], mup m 135 x1 (w32 ((w32 (336 + (m 130 8))) - (m 134 x1))), XX)) (P := 0 ≤ x1 ∧ x1 < 96) rfl g6 ?_
      refine T_gk hD (c1 := (160, [(18, 130), (0, x1), (0, x2), (0, x3)], [], mup (mup m 135 x1 (w32 ((w32 (336 + (m 130 8))) - (m 134 x1)))) 135 x1 ((mup m 135 x1 (w32 ((w32 (336 + (m 130 8))) - (m 134 x1)))) 135 x1), XX)) (P := 0 ≤ x1 ∧ x1 < 96) rfl g6 ?_
      exact T_fin hD rfl (fun h => h)
def fM_keep (m : aM) (x1 : Int) (x2 : Int) : Option aM :=
  gd (0 ≤ x1 ∧ x1 < 96) (
  gd (0 ≤ x2 ∧ x2 < 242) (
  gd (m 140 x2 = 0 ∨ m 140 x2 = 1) (
  fM_keep_33 (mup (mup m 134 x1 (w32 (336 + (m 130 8)))) 136 x1 (m 140 x2)) x1 x2 (m 138 x2))))
set_option maxRecDepth 100000 in
theorem tM_keep (m : aM) (x1 : Int) (x2 : Int) : ∀ v, fM_keep m x1 x2 = some v → Go PB 1 36 (aEnt d_M_keep [(18, 130), (0, x1), (0, x2)] m XX) (0, (0, 0), v, XX) := by
  intro v hv
  have hD : aMd PB 36 = d_M_keep := rfl
  obtain ⟨r, hr⟩ : ∃ r : aR, r = (0, (0, 0), v, XX) := ⟨_, rfl⟩
  have h9 : aT PB 1 36 r (fun w => r = (0, (0, 0), w, XX)) (fM_keep m x1 x2) (0, [(18, 130), (0, x1), (0, x2), (99, 0)], [], m, XX) := by
    unfold fM_keep
    refine T_run hD 7 (c' := (13, [(18, 130), (0, x1), (0, x2), (99, 0)], [(0, w32 (336 + (m 130 8))), (0, x1), (31, 134)], m, XX)) rfl ?_
    refine T_gd hD (c1 := (14, [(18, 130), (0, x1), (0, x2), (99, 0)], [], mup m 134 x1 (w32 (336 + (m 130 8))), XX)) rfl (fun g1 => ?_)
    refine T_run hD 6 (c' := (24, [(18, 130), (0, x1), (0, x2), (99, 0)], [(0, x2), (33, 140), (0, x1), (33, 136)], mup m 134 x1 (w32 (336 + (m 130 8))), XX)) rfl ?_
    refine T_gd hD (c1 := (25, [(18, 130), (0, x1), (0, x2), (99, 0)], [(0, m 140 x2), (0, x1), (33, 136)], mup m 134 x1 (w32 (336 + (m 130 8))), XX)) rfl (fun g2 => ?_)
    refine T_gdk hD (c1 := (26, [(18, 130), (0, x1), (0, x2), (99, 0)], [], mup (mup m 134 x1 (w32 (336 + (m 130 8)))) 136 x1 (m 140 x2), XX)) (Q := 0 ≤ x1 ∧ x1 < 96) rfl g1 (fun _ => ?_)
    refine T_run hD 3 (c' := (31, [(18, 130), (0, x1), (0, x2), (99, 0)], [(0, x2), (31, 138)], mup (mup m 134 x1 (w32 (336 + (m 130 8)))) 136 x1 (m 140 x2), XX)) rfl ?_
    refine T_gk hD (c1 := (32, [(18, 130), (0, x1), (0, x2), (99, 0)], [(0, m 138 x2)], mup (mup m 134 x1 (w32 (336 + (m 130 8)))) 136 x1 (m 140 x2), XX)) (P := 0 ≤ x2 ∧ x2 < 242) rfl g2 ?_
    refine T_run hD 1 (c' := (33, [(18, 130), (0, x1), (0, x2), (0, m 138 x2)], [], mup (mup m 134 x1 (w32 (336 + (m 130 8)))) 136 x1 (m 140 x2), XX)) rfl ?_
    exact tM_keep_33 r (mup (mup m 134 x1 (w32 (336 + (m 130 8)))) 136 x1 (m 140 x2)) x1 x2 (m 138 x2) 
  rw [← hr]
  exact h9 v hv hr
def fM_isNone (m : aM) (x1 : Int) (x2 : Int) : Option Int :=
  gd (0 ≤ w32 ((w32 (6 * x1)) + x2) ∧ w32 ((w32 (6 * x1)) + x2) < 96) (
  if m 135 (w32 ((w32 (6 * x1)) + x2)) < 0 then
    some (1)
  else
    some (0))
set_option maxRecDepth 100000 in
theorem tM_isNone (m : aM) (x1 : Int) (x2 : Int) : ∀ v, fM_isNone m x1 x2 = some v → Go PB 1 37 (aEnt d_M_isNone [(18, 130), (0, x1), (0, x2)] m XX) (1, (0, v), m, XX) := by
  intro v hv
  have hD : aMd PB 37 = d_M_isNone := rfl
  obtain ⟨r, hr⟩ : ∃ r : aR, r = (1, (0, v), m, XX) := ⟨_, rfl⟩
  have h9 : aT PB 1 37 r (fun w => r = (1, (0, w), m, XX)) (fM_isNone m x1 x2) (0, [(18, 130), (0, x1), (0, x2)], [], m, XX) := by
    unfold fM_isNone
    refine T_run hD 7 (c' := (10, [(18, 130), (0, x1), (0, x2)], [(0, w32 ((w32 (6 * x1)) + x2)), (31, 135)], m, XX)) rfl ?_
    refine T_gd hD (c1 := (11, [(18, 130), (0, x1), (0, x2)], [(0, m 135 (w32 ((w32 (6 * x1)) + x2)))], m, XX)) rfl (fun g1 => ?_)
    refine T_if hD (c1 := (14, _, _, _, _)) (c2 := (18, _, _, _, _)) rfl (fun _ => ?_) (fun _ => ?_)
    · refine T_run hD 2 (c' := (19, [(18, 130), (0, x1), (0, x2)], [(0, 1)], m, XX)) rfl ?_
      exact T_fin hD rfl (fun h => h)
    · refine T_run hD 1 (c' := (19, [(18, 130), (0, x1), (0, x2)], [(0, 0)], m, XX)) rfl ?_
      exact T_fin hD rfl (fun h => h)
  rw [← hr]
  exact h9 v hv hr
def fM_fits (m : aM) (x1 : Int) (x2 : Int) : Option (Int × aM) :=
  gd (0 ≤ x1 ∧ x1 < 96) (
  if m 136 x1 = 0 then
    if x2 = 2 then
      (fM_isDate m (m 134 x1) (w32 ((m 134 x1) + (m 135 x1)))).bind fun v2 =>
      gd (v2.1 = 0 ∨ v2.1 = 1) (some ((v2.1, v2.2)))
    else
      (fM_isWhole m (m 134 x1) (w32 ((m 134 x1) + (m 135 x1)))).bind fun v3 =>
      if v3.1 = 0 then
        some ((0, v3.2))
      else
        if x2 = 1 then
          some ((1, v3.2))
        else
          if cmp3 (v3.2 130 20) (-2147483648) < 0 then
            some ((0, v3.2))
          else
            if 0 < cmp3 (v3.2 130 20) 2147483647 then
              some ((0, v3.2))
            else
              some ((1, v3.2))
  else
    some ((0, m)))
set_option maxRecDepth 100000 in
theorem tM_fits (m : aM) (x1 : Int) (x2 : Int) : ∀ v, fM_fits m x1 x2 = some v → Go PB 4 38 (aEnt d_M_fits [(18, 130), (0, x1), (0, x2)] m XX) (1, (0, v.1), v.2, XX) := by
  intro v hv
  have hD : aMd PB 38 = d_M_fits := rfl
  obtain ⟨r, hr⟩ : ∃ r : aR, r = (1, (0, v.1), v.2, XX) := ⟨_, rfl⟩
  have h9 : aT PB 4 38 r (fun w => r = (1, (0, w.1), w.2, XX)) (fM_fits m x1 x2) (0, [(18, 130), (0, x1), (0, x2), (99, 0), (99, 0)], [], m, XX) := by
    unfold fM_fits
    refine T_run hD 3 (c' := (5, [(18, 130), (0, x1), (0, x2), (99, 0), (99, 0)], [(0, x1), (31, 134)], m, XX)) rfl ?_
    refine T_gd hD (c1 := (6, [(18, 130), (0, x1), (0, x2), (99, 0), (99, 0)], [(0, m 134 x1)], m, XX)) rfl (fun g1 => ?_)
    refine T_run hD 5 (c' := (13, [(18, 130), (0, x1), (0, x2), (0, m 134 x1), (99, 0)], [(0, x1), (31, 135), (0, m 134 x1)], m, XX)) rfl ?_
    refine T_gk hD (c1 := (14, [(18, 130), (0, x1), (0, x2), (0, m 134 x1), (99, 0)], [(0, m 135 x1), (0, m 134 x1)], m, XX)) (P := 0 ≤ x1 ∧ x1 < 96) rfl g1 ?_
    refine T_run hD 5 (c' := (22, [(18, 130), (0, x1), (0, x2), (0, m 134 x1), (0, w32 ((m 134 x1) + (m 135 x1)))], [(0, x1), (33, 136)], m, XX)) rfl ?_
    refine T_gk hD (c1 := (23, [(18, 130), (0, x1), (0, x2), (0, m 134 x1), (0, w32 ((m 134 x1) + (m 135 x1)))], [(0, m 136 x1)], m, XX)) (P := 0 ≤ x1 ∧ x1 < 96) rfl g1 ?_
    refine T_if hD (c1 := (28, _, _, _, _)) (c2 := (26, _, _, _, _)) rfl (fun _ => ?_) (fun _ => ?_)
    · refine T_run hD 2 (c' := (30, [(18, 130), (0, x1), (0, x2), (0, m 134 x1), (0, w32 ((m 134 x1) + (m 135 x1)))], [(0, 2), (0, x2)], m, XX)) rfl ?_
      refine T_if hD (c1 := (33, _, _, _, _)) (c2 := (43, _, _, _, _)) rfl (fun _ => ?_) (fun _ => ?_)
      · refine T_run hD 3 (c' := (37, [(18, 130), (0, x1), (0, x2), (0, m 134 x1), (0, w32 ((m 134 x1) + (m 135 x1)))], [(0, w32 ((m 134 x1) + (m 135 x1))), (0, m 134 x1), (18, 130)], m, XX)) rfl ?_
        refine T_call hD (D2 := d_M_isDate) (q2 := 28) (as := [(18, 130), (0, m 134 x1), (0, w32 ((m 134 x1) + (m 135 x1)))]) (c1 := (40, [(18, 130), (0, x1), (0, x2), (0, m 134 x1), (0, w32 ((m 134 x1) + (m 135 x1)))], [], m, XX)) (mk := fun w => (1, (0, w.1), w.2, XX)) (cc := fun v2 => (40, [(18, 130), (0, x1), (0, x2), (0, m 134 x1), (0, w32 ((m 134 x1) + (m 135 x1)))], [(0, v2.1)], v2.2, XX)) rfl rfl (fun y9 h9y => Go.mono (tM_isDate m (m 134 x1) (w32 ((m 134 x1) + (m 135 x1))) y9 h9y) (by decide)) (fun _ => rfl) (fun v2 => ?_)
        refine T_run hD 1 (c' := (85, [(18, 130), (0, x1), (0, x2), (0, m 134 x1), (0, w32 ((m 134 x1) + (m 135 x1)))], [(0, v2.1)], v2.2, XX)) rfl ?_
        exact T_gfin hD (fun h => if_pos (decide_eq_true h)) (fun h => h)
      · refine T_run hD 3 (c' := (47, [(18, 130), (0, x1), (0, x2), (0, m 134 x1), (0, w32 ((m 134 x1) + (m 135 x1)))], [(0, w32 ((m 134 x1) + (m 135 x1))), (0, m 134 x1), (18, 130)], m, XX)) rfl ?_
        refine T_call hD (D2 := d_M_isWhole) (q2 := 26) (as := [(18, 130), (0, m 134 x1), (0, w32 ((m 134 x1) + (m 135 x1)))]) (c1 := (50, [(18, 130), (0, x1), (0, x2), (0, m 134 x1), (0, w32 ((m 134 x1) + (m 135 x1)))], [], m, XX)) (mk := fun w => (1, (0, w.1), w.2, XX)) (cc := fun v3 => (50, [(18, 130), (0, x1), (0, x2), (0, m 134 x1), (0, w32 ((m 134 x1) + (m 135 x1)))], [(0, v3.1)], v3.2, XX)) rfl rfl (fun y9 h9y => Go.mono (tM_isWhole m (m 134 x1) (w32 ((m 134 x1) + (m 135 x1))) y9 h9y) (by decide)) (fun _ => rfl) (fun v3 => ?_)
        refine T_if hD (c1 := (84, _, _, _, _)) (c2 := (53, _, _, _, _)) rfl (fun _ => ?_) (fun _ => ?_)
        · refine T_run hD 1 (c' := (85, [(18, 130), (0, x1), (0, x2), (0, m 134 x1), (0, w32 ((m 134 x1) + (m 135 x1)))], [(0, 0)], v3.2, XX)) rfl ?_
          exact T_fin hD rfl (fun h => h)
        · refine T_run hD 2 (c' := (55, [(18, 130), (0, x1), (0, x2), (0, m 134 x1), (0, w32 ((m 134 x1) + (m 135 x1)))], [(0, 1), (0, x2)], v3.2, XX)) rfl ?_
          refine T_if hD (c1 := (80, _, _, _, _)) (c2 := (58, _, _, _, _)) rfl (fun _ => ?_) (fun _ => ?_)
          · refine T_run hD 2 (c' := (85, [(18, 130), (0, x1), (0, x2), (0, m 134 x1), (0, w32 ((m 134 x1) + (m 135 x1)))], [(0, 1)], v3.2, XX)) rfl ?_
            exact T_fin hD rfl (fun h => h)
          · refine T_run hD 4 (c' := (66, [(18, 130), (0, x1), (0, x2), (0, m 134 x1), (0, w32 ((m 134 x1) + (m 135 x1)))], [(0, cmp3 (v3.2 130 20) (-2147483648))], v3.2, XX)) rfl ?_
            refine T_if hD (c1 := (84, _, _, _, _)) (c2 := (69, _, _, _, _)) rfl (fun _ => ?_) (fun _ => ?_)
            · refine T_run hD 1 (c' := (85, [(18, 130), (0, x1), (0, x2), (0, m 134 x1), (0, w32 ((m 134 x1) + (m 135 x1)))], [(0, 0)], v3.2, XX)) rfl ?_
              exact T_fin hD rfl (fun h => h)
            · refine T_run hD 4 (c' := (77, [(18, 130), (0, x1), (0, x2), (0, m 134 x1), (0, w32 ((m 134 x1) + (m 135 x1)))], [(0, cmp3 (v3.2 130 20) 2147483647)], v3.2, XX)) rfl ?_
              refine T_if hD (c1 := (84, _, _, _, _)) (c2 := (80, _, _, _, _)) rfl (fun _ => ?_) (fun _ => ?_)
              · refine T_run hD 1 (c' := (85, [(18, 130), (0, x1), (0, x2), (0, m 134 x1), (0, w32 ((m 134 x1) + (m 135 x1)))], [(0, 0)], v3.2, XX)) rfl ?_
                exact T_fin hD rfl (fun h => h)
              · refine T_run hD 2 (c' := (85, [(18, 130), (0, x1), (0, x2), (0, m 134 x1), (0, w32 ((m 134 x1) + (m 135 x1)))], [(0, 1)], v3.2, XX)) rfl ?_
                exact T_fin hD rfl (fun h => h)
    · refine T_run hD 1 (c' := (27, [(18, 130), (0, x1), (0, x2), (0, m 134 x1), (0, w32 ((m 134 x1) + (m 135 x1)))], [(0, 0)], m, XX)) rfl ?_
      exact T_fin hD rfl (fun h => h)
  rw [← hr]
  exact h9 v hv hr
abbrev hM_fitsAll_5 (x1 : Int) (x2 : Int) : (aM × Int × Int) → aC → Prop := fun y c => c = (5, [(18, 130), (0, x1), (0, x2), (0, (y.2.1)), (0, (y.2.2))], [], (y.1), XX)
def fM_fitsAll_5_b (x1 : Int) (x2 : Int) : (aM × Int × Int) → Option ((aM × Int × Int) ⊕ (Int × aM)) := fun (m, x3, x4) =>
  if x4 < m 130 5 then
    if x3 = 0 then
      some (Sum.inl (m, 0, w32 (x4 + 1)))
    else
      (fM_isNone m x4 x1).bind fun v1 =>
      if v1 = 0 then
        (fM_fits m (w32 ((w32 (6 * x4)) + x1)) x2).bind fun v2 =>
        if v2.1 = 0 then
          some (Sum.inl (v2.2, 0, w32 (x4 + 1)))
        else
          some (Sum.inl (v2.2, 1, w32 (x4 + 1)))
      else
        some (Sum.inl (m, 1, w32 (x4 + 1)))
  else
    gd (x3 = 0 ∨ x3 = 1) (some (Sum.inr ((x3, m))))
def fM_fitsAll_5 (m : aM) (x1 : Int) (x2 : Int) (x3 : Int) (x4 : Int) : Option (Int × aM) := aLoop (fM_fitsAll_5_b x1 x2) FU (m, x3, x4)
set_option maxRecDepth 100000 in
theorem tM_fitsAll_5 (r : aR) (m : aM) (x1 : Int) (x2 : Int) (x3 : Int) (x4 : Int) : aT PB 5 40 r (fun w => r = (1, (0, w.1), w.2, XX)) (fM_fitsAll_5 m x1 x2 x3 x4) (5, [(18, 130), (0, x1), (0, x2), (0, x3), (0, x4)], [], m, XX) := by
  have hD : aMd PB 40 = d_M_fitsAll := rfl
  refine T_loop (Hd := (hM_fitsAll_5 x1 x2)) ?_ FU _ _ rfl
  clear m x3 x4
  intro y c hc
  obtain ⟨m, x3, x4⟩ := y
  obtain rfl := hc
  unfold fM_fitsAll_5_b
  try dsimp only
  refine T_run hD 3 (c' := (11, [(18, 130), (0, x1), (0, x2), (0, x3), (0, x4)], [(0, m 130 5), (0, x4)], m, XX)) rfl ?_
  refine T_if hD (c1 := (14, _, _, _, _)) (c2 := (55, _, _, _, _)) rfl (fun _ => ?_) (fun _ => ?_)
  · refine T_run hD 1 (c' := (15, [(18, 130), (0, x1), (0, x2), (0, x3), (0, x4)], [(0, x3)], m, XX)) rfl ?_
    refine T_if hD (c1 := (47, _, _, _, _)) (c2 := (18, _, _, _, _)) rfl (fun _ => ?_) (fun _ => ?_)
    · refine T_run hD 4 (c' := (5, [(18, 130), (0, x1), (0, x2), (0, 0), (0, w32 (x4 + 1))], [], m, XX)) rfl ?_
      exact T_back0 rfl
    · refine T_run hD 3 (c' := (22, [(18, 130), (0, x1), (0, x2), (0, x3), (0, x4)], [(0, x1), (0, x4), (18, 130)], m, XX)) rfl ?_
      refine T_call hD (D2 := d_M_isNone) (q2 := 37) (as := [(18, 130), (0, x4), (0, x1)]) (c1 := (25, [(18, 130), (0, x1), (0, x2), (0, x3), (0, x4)], [], m, XX)) (mk := fun w => (1, (0, w), m, XX)) (cc := fun v1 => (25, [(18, 130), (0, x1), (0, x2), (0, x3), (0, x4)], [(0, v1)], m, XX)) rfl rfl (fun y9 h9y => Go.mono (tM_isNone m x4 x1 y9 h9y) (by decide)) (fun _ => rfl) (fun v1 => ?_)
      refine T_if hD (c1 := (28, _, _, _, _)) (c2 := (43, _, _, _, _)) rfl (fun _ => ?_) (fun _ => ?_)
      · refine T_run hD 7 (c' := (37, [(18, 130), (0, x1), (0, x2), (0, x3), (0, x4)], [(0, x2), (0, w32 ((w32 (6 * x4)) + x1)), (18, 130)], m, XX)) rfl ?_
        refine T_call hD (D2 := d_M_fits) (q2 := 38) (as := [(18, 130), (0, w32 ((w32 (6 * x4)) + x1)), (0, x2)]) (c1 := (40, [(18, 130), (0, x1), (0, x2), (0, x3), (0, x4)], [], m, XX)) (mk := fun w => (1, (0, w.1), w.2, XX)) (cc := fun v2 => (40, [(18, 130), (0, x1), (0, x2), (0, x3), (0, x4)], [(0, v2.1)], v2.2, XX)) rfl rfl (fun y9 h9y => Go.mono (tM_fits m (w32 ((w32 (6 * x4)) + x1)) x2 y9 h9y) (by decide)) (fun _ => rfl) (fun v2 => ?_)
        refine T_if hD (c1 := (47, _, _, _, _)) (c2 := (43, _, _, _, _)) rfl (fun _ => ?_) (fun _ => ?_)
        · refine T_run hD 4 (c' := (5, [(18, 130), (0, x1), (0, x2), (0, 0), (0, w32 (x4 + 1))], [], v2.2, XX)) rfl ?_
          exact T_back0 rfl
        · refine T_run hD 5 (c' := (5, [(18, 130), (0, x1), (0, x2), (0, 1), (0, w32 (x4 + 1))], [], v2.2, XX)) rfl ?_
          exact T_back0 rfl
      · refine T_run hD 5 (c' := (5, [(18, 130), (0, x1), (0, x2), (0, 1), (0, w32 (x4 + 1))], [], m, XX)) rfl ?_
        exact T_back0 rfl
  · refine T_run hD 1 (c' := (56, [(18, 130), (0, x1), (0, x2), (0, x3), (0, x4)], [(0, x3)], m, XX)) rfl ?_
    exact T_gfin hD (fun h => if_pos (decide_eq_true h)) (fun h => h)
def fM_fitsAll (m : aM) (x1 : Int) (x2 : Int) : Option (Int × aM) :=
  fM_fitsAll_5 m x1 x2 1 0
set_option maxRecDepth 100000 in
theorem tM_fitsAll (m : aM) (x1 : Int) (x2 : Int) : ∀ v, fM_fitsAll m x1 x2 = some v → Go PB 5 40 (aEnt d_M_fitsAll [(18, 130), (0, x1), (0, x2)] m XX) (1, (0, v.1), v.2, XX) := by
  intro v hv
  have hD : aMd PB 40 = d_M_fitsAll := rfl
  obtain ⟨r, hr⟩ : ∃ r : aR, r = (1, (0, v.1), v.2, XX) := ⟨_, rfl⟩
  have h9 : aT PB 5 40 r (fun w => r = (1, (0, w.1), w.2, XX)) (fM_fitsAll m x1 x2) (0, [(18, 130), (0, x1), (0, x2), (99, 0), (99, 0)], [], m, XX) := by
    unfold fM_fitsAll
    refine T_run hD 4 (c' := (5, [(18, 130), (0, x1), (0, x2), (0, 1), (0, 0)], [], m, XX)) rfl ?_
    exact tM_fitsAll_5 r m x1 x2 1 0 
  rw [← hr]
  exact h9 v hv hr
abbrev hM_findType_4 (x1 : Int) : (aM × Int × Int) → aC → Prop := fun y c => ∃ (z4 : aV), c = (4, [(18, 130), (0, x1), (0, (y.2.1)), (0, (y.2.2)), z4], [], (y.1), XX)
abbrev hM_findType_12 (x1 : Int) (x3 : Int) : (aM × Int) → aC → Prop := fun y c => ∃ (z4 : aV), c = (12, [(18, 130), (0, x1), (0, (y.2)), (0, x3), z4], [], (y.1), XX)
abbrev hM_findType_56 (x1 : Int) (x2 : Int) : (aM × Int) → aC → Prop := fun y c => ∃ (z4 : aV), c = (56, [(18, 130), (0, x1), (0, x2), (0, (y.2)), z4], [], (y.1), XX)
def fM_findType_12_b (x1 : Int) (x3 : Int) : (aM × Int) → Option ((aM × Int) ⊕ ((aM × Int × Int) ⊕ aM)) := fun (m, x2) =>
  if x2 < 3 then
    (fM_isNone m x3 x1).bind fun v1 =>
    if v1 = 0 then
      (fM_fitsAll m x1 x2).bind fun v2 =>
      if v2.1 = 0 then
        some (Sum.inl (v2.2, w32 (x2 + 1)))
      else
        some (Sum.inr (Sum.inl (v2.2, x2, w32 (x3 + 1))))
    else
      some (Sum.inr (Sum.inl (m, x2, w32 (x3 + 1))))
  else
    some (Sum.inr (Sum.inl (m, x2, w32 (x3 + 1))))
def fM_findType_12 (m : aM) (x1 : Int) (x2 : Int) (x3 : Int) : Option ((aM × Int × Int) ⊕ aM) := aLoop (fM_findType_12_b x1 x3) FU (m, x2)
set_option maxRecDepth 100000 in
theorem tM_findType_12 (r : aR) (m : aM) (x1 : Int) (x2 : Int) (x3 : Int) (z4 : aV) : aT PB 6 39 r (aTurn PB 6 39 r (hM_findType_4 x1) (fun w => r = (0, (0, 0), w, XX))) (fM_findType_12 m x1 x2 x3) (12, [(18, 130), (0, x1), (0, x2), (0, x3), z4], [], m, XX) := by
  have hD : aMd PB 39 = d_M_findType := rfl
  refine T_loop (Hd := (hM_findType_12 x1 x3)) ?_ FU _ _ ⟨z4, rfl⟩
  clear m x2 z4
  intro y c hc
  obtain ⟨m, x2⟩ := y
  obtain ⟨z4, rfl⟩ := hc
  unfold fM_findType_12_b
  try dsimp only
  refine T_run hD 2 (c' := (14, [(18, 130), (0, x1), (0, x2), (0, x3), z4], [(0, 3), (0, x2)], m, XX)) rfl ?_
  refine T_if hD (c1 := (17, _, _, _, _)) (c2 := (41, _, _, _, _)) rfl (fun _ => ?_) (fun _ => ?_)
  · refine T_run hD 3 (c' := (20, [(18, 130), (0, x1), (0, x2), (0, x3), z4], [(0, x1), (0, x3), (18, 130)], m, XX)) rfl ?_
    refine T_call hD (D2 := d_M_isNone) (q2 := 37) (as := [(18, 130), (0, x3), (0, x1)]) (c1 := (23, [(18, 130), (0, x1), (0, x2), (0, x3), z4], [], m, XX)) (mk := fun w => (1, (0, w), m, XX)) (cc := fun v1 => (23, [(18, 130), (0, x1), (0, x2), (0, x3), z4], [(0, v1)], m, XX)) rfl rfl (fun y9 h9y => Go.mono (tM_isNone m x3 x1 y9 h9y) (by decide)) (fun _ => rfl) (fun v1 => ?_)
    refine T_if hD (c1 := (26, _, _, _, _)) (c2 := (41, _, _, _, _)) rfl (fun _ => ?_) (fun _ => ?_)
    · refine T_run hD 3 (c' := (29, [(18, 130), (0, x1), (0, x2), (0, x3), z4], [(0, x2), (0, x1), (18, 130)], m, XX)) rfl ?_
      refine T_call hD (D2 := d_M_fitsAll) (q2 := 40) (as := [(18, 130), (0, x1), (0, x2)]) (c1 := (32, [(18, 130), (0, x1), (0, x2), (0, x3), z4], [], m, XX)) (mk := fun w => (1, (0, w.1), w.2, XX)) (cc := fun v2 => (32, [(18, 130), (0, x1), (0, x2), (0, x3), z4], [(0, v2.1)], v2.2, XX)) rfl rfl (fun y9 h9y => Go.mono (tM_fitsAll m x1 x2 y9 h9y) (by decide)) (fun _ => rfl) (fun v2 => ?_)
      refine T_if hD (c1 := (35, _, _, _, _)) (c2 := (41, _, _, _, _)) rfl (fun _ => ?_) (fun _ => ?_)
      · refine T_run hD 2 (c' := (12, [(18, 130), (0, x1), (0, w32 (x2 + 1)), (0, x3), z4], [], v2.2, XX)) rfl ?_
        exact T_back0 ⟨_, rfl⟩
      · refine T_run hD 2 (c' := (4, [(18, 130), (0, x1), (0, x2), (0, w32 (x3 + 1)), z4], [], v2.2, XX)) rfl ?_
        exact T_back1 ⟨_, rfl⟩
    · refine T_run hD 2 (c' := (4, [(18, 130), (0, x1), (0, x2), (0, w32 (x3 + 1)), z4], [], m, XX)) rfl ?_
      exact T_back1 ⟨_, rfl⟩
  · refine T_run hD 2 (c' := (4, [(18, 130), (0, x1), (0, x2), (0, w32 (x3 + 1)), z4], [], m, XX)) rfl ?_
    exact T_back1 ⟨_, rfl⟩
def fM_findType_97 (m : aM) (x1 : Int) (x2 : Int) (x3 : Int) (s0 : Int) : Option ((aM × Int) ⊕ aM) :=
  if s0 = 0 then
    gd (0 ≤ w32 ((w32 (6 * x3)) + x1) ∧ w32 ((w32 (6 * x3)) + x1) < 96) (
    some (Sum.inl (mup m 137 (w32 ((w32 (6 * x3)) + x1)) 0, w32 (x3 + 1))))
  else
    gd (0 ≤ w32 ((w32 (6 * x3)) + x1) ∧ w32 ((w32 (6 * x3)) + x1) < 96) (
    some (Sum.inl (mup m 137 (w32 ((w32 (6 * x3)) + x1)) (m 130 20), w32 (x3 + 1))))
set_option maxRecDepth 100000 in
theorem tM_findType_97 (r : aR) (m : aM) (x1 : Int) (x2 : Int) (x3 : Int) (s0 : Int) (z4 : aV) : aT PB 6 39 r (aTurn PB 6 39 r (hM_findType_56 x1 x2) (fun w => r = (0, (0, 0), w, XX))) (fM_findType_97 m x1 x2 x3 s0) (97, [(18, 130), (0, x1), (0, x2), (0, x3), z4], [(0, s0)], m, XX) := by
  have hD : aMd PB 39 = d_M_findType := rfl
  unfold fM_findType_97
  refine T_run hD 9 (c' := (111, [(18, 130), (0, x1), (0, x2), (0, x3), (0, s0)], [(0, s0), (0, w32 ((w32 (6 * x3)) + x1)), (32, 137)], m, XX)) rfl ?_
  refine T_if hD (c1 := (121, _, _, _, _)) (c2 := (114, _, _, _, _)) rfl (fun _ => ?_) (fun _ => ?_)
  · refine T_run hD 1 (c' := (122, [(18, 130), (0, x1), (0, x2), (0, x3), (0, s0)], [(1, 0), (0, w32 ((w32 (6 * x3)) + x1)), (32, 137)], m, XX)) rfl ?_
    refine T_gd hD (c1 := (123, [(18, 130), (0, x1), (0, x2), (0, x3), (0, s0)], [], mup m 137 (w32 ((w32 (6 * x3)) + x1)) 0, XX)) rfl (fun g6 => ?_)
    refine T_run hD 2 (c' := (56, [(18, 130), (0, x1), (0, x2), (0, w32 (x3 + 1)), (0, s0)], [], mup m 137 (w32 ((w32 (6 * x3)) + x1)) 0, XX)) rfl ?_
    exact T_back0 ⟨_, rfl⟩
  · refine T_run hD 3 (c' := (122, [(18, 130), (0, x1), (0, x2), (0, x3), (0, s0)], [(1, m 130 20), (0, w32 ((w32 (6 * x3)) + x1)), (32, 137)], m, XX)) rfl ?_
    refine T_gd hD (c1 := (123, [(18, 130), (0, x1), (0, x2), (0, x3), (0, s0)], [], mup m 137 (w32 ((w32 (6 * x3)) + x1)) (m 130 20), XX)) rfl (fun g7 => ?_)
    refine T_run hD 2 (c' := (56, [(18, 130), (0, x1), (0, x2), (0, w32 (x3 + 1)), (0, s0)], [], mup m 137 (w32 ((w32 (6 * x3)) + x1)) (m 130 20), XX)) rfl ?_
    exact T_back0 ⟨_, rfl⟩
def fM_findType_56_b (x1 : Int) (x2 : Int) : (aM × Int) → Option ((aM × Int) ⊕ aM) := fun (m, x3) =>
  if x3 < m 130 5 then
    if x2 < 3 then
      (fM_isNone m x3 x1).bind fun v4 =>
      if v4 = 0 then
        (fM_fits m (w32 ((w32 (6 * x3)) + x1)) x2).bind fun v5 =>
        if v5.1 = 0 then
          fM_findType_97 v5.2 x1 x2 x3 0
        else
          fM_findType_97 v5.2 x1 x2 x3 1
      else
        fM_findType_97 m x1 x2 x3 0
    else
      some (Sum.inr (m))
  else
    some (Sum.inr (m))
def fM_findType_56 (m : aM) (x1 : Int) (x2 : Int) (x3 : Int) : Option aM := aLoop (fM_findType_56_b x1 x2) FU (m, x3)
set_option maxRecDepth 100000 in
theorem tM_findType_56 (r : aR) (m : aM) (x1 : Int) (x2 : Int) (x3 : Int) (z4 : aV) : aT PB 6 39 r (fun w => r = (0, (0, 0), w, XX)) (fM_findType_56 m x1 x2 x3) (56, [(18, 130), (0, x1), (0, x2), (0, x3), z4], [], m, XX) := by
  have hD : aMd PB 39 = d_M_findType := rfl
  refine T_loop (Hd := (hM_findType_56 x1 x2)) ?_ FU _ _ ⟨z4, rfl⟩
  clear m x3 z4
  intro y c hc
  obtain ⟨m, x3⟩ := y
  obtain ⟨z4, rfl⟩ := hc
  unfold fM_findType_56_b
  try dsimp only
  refine T_run hD 3 (c' := (61, [(18, 130), (0, x1), (0, x2), (0, x3), z4], [(0, m 130 5), (0, x3)], m, XX)) rfl ?_
  refine T_if hD (c1 := (64, _, _, _, _)) (c2 := (129, _, _, _, _)) rfl (fun _ => ?_) (fun _ => ?_)
  · refine T_run hD 2 (c' := (66, [(18, 130), (0, x1), (0, x2), (0, x3), z4], [(0, 3), (0, x2)], m, XX)) rfl ?_
    refine T_if hD (c1 := (69, _, _, _, _)) (c2 := (129, _, _, _, _)) rfl (fun _ => ?_) (fun _ => ?_)
    · refine T_run hD 3 (c' := (72, [(18, 130), (0, x1), (0, x2), (0, x3), z4], [(0, x1), (0, x3), (18, 130)], m, XX)) rfl ?_
      refine T_call hD (D2 := d_M_isNone) (q2 := 37) (as := [(18, 130), (0, x3), (0, x1)]) (c1 := (75, [(18, 130), (0, x1), (0, x2), (0, x3), z4], [], m, XX)) (mk := fun w => (1, (0, w), m, XX)) (cc := fun v4 => (75, [(18, 130), (0, x1), (0, x2), (0, x3), z4], [(0, v4)], m, XX)) rfl rfl (fun y9 h9y => Go.mono (tM_isNone m x3 x1 y9 h9y) (by decide)) (fun _ => rfl) (fun v4 => ?_)
      refine T_if hD (c1 := (78, _, _, _, _)) (c2 := (96, _, _, _, _)) rfl (fun _ => ?_) (fun _ => ?_)
      · refine T_run hD 7 (c' := (86, [(18, 130), (0, x1), (0, x2), (0, x3), z4], [(0, x2), (0, w32 ((w32 (6 * x3)) + x1)), (18, 130)], m, XX)) rfl ?_
        refine T_call hD (D2 := d_M_fits) (q2 := 38) (as := [(18, 130), (0, w32 ((w32 (6 * x3)) + x1)), (0, x2)]) (c1 := (89, [(18, 130), (0, x1), (0, x2), (0, x3), z4], [], m, XX)) (mk := fun w => (1, (0, w.1), w.2, XX)) (cc := fun v5 => (89, [(18, 130), (0, x1), (0, x2), (0, x3), z4], [(0, v5.1)], v5.2, XX)) rfl rfl (fun y9 h9y => Go.mono (tM_fits m (w32 ((w32 (6 * x3)) + x1)) x2 y9 h9y) (by decide)) (fun _ => rfl) (fun v5 => ?_)
        refine T_if hD (c1 := (96, _, _, _, _)) (c2 := (92, _, _, _, _)) rfl (fun _ => ?_) (fun _ => ?_)
        · refine T_run hD 1 (c' := (97, [(18, 130), (0, x1), (0, x2), (0, x3), z4], [(0, 0)], v5.2, XX)) rfl ?_
          exact tM_findType_97 r v5.2 x1 x2 x3 0 z4
        · refine T_run hD 2 (c' := (97, [(18, 130), (0, x1), (0, x2), (0, x3), z4], [(0, 1)], v5.2, XX)) rfl ?_
          exact tM_findType_97 r v5.2 x1 x2 x3 1 z4
      · refine T_run hD 1 (c' := (97, [(18, 130), (0, x1), (0, x2), (0, x3), z4], [(0, 0)], m, XX)) rfl ?_
        exact tM_findType_97 r m x1 x2 x3 0 z4
    · exact T_fin hD rfl (fun h => h)
  · exact T_fin hD rfl (fun h => h)
def fM_findType_4_b (x1 : Int) : (aM × Int × Int) → Option ((aM × Int × Int) ⊕ aM) := fun (m, x2, x3) =>
  if x3 < m 130 5 then
    fM_findType_12 m x1 x2 x3
  else
    gd (0 ≤ x1 ∧ x1 < 6) (
    (fM_findType_56 (mup m 133 x1 x2) x1 x2 0).map Sum.inr)
def fM_findType_4 (m : aM) (x1 : Int) (x2 : Int) (x3 : Int) : Option aM := aLoop (fM_findType_4_b x1) FU (m, x2, x3)
set_option maxRecDepth 100000 in
theorem tM_findType_4 (r : aR) (m : aM) (x1 : Int) (x2 : Int) (x3 : Int) (z4 : aV) : aT PB 6 39 r (fun w => r = (0, (0, 0), w, XX)) (fM_findType_4 m x1 x2 x3) (4, [(18, 130), (0, x1), (0, x2), (0, x3), z4], [], m, XX) := by
  have hD : aMd PB 39 = d_M_findType := rfl
  refine T_loop (Hd := (hM_findType_4 x1)) ?_ FU _ _ ⟨z4, rfl⟩
  clear m x2 x3 z4
  intro y c hc
  obtain ⟨m, x2, x3⟩ := y
  obtain ⟨z4, rfl⟩ := hc
  unfold fM_findType_4_b
  try dsimp only
  refine T_run hD 3 (c' := (9, [(18, 130), (0, x1), (0, x2), (0, x3), z4], [(0, m 130 5), (0, x3)], m, XX)) rfl ?_
  refine T_if hD (c1 := (12, _, _, _, _)) (c2 := (47, _, _, _, _)) rfl (fun _ => ?_) (fun _ => ?_)
  · exact tM_findType_12 r m x1 x2 x3 z4
  · refine T_run hD 4 (c' := (53, [(18, 130), (0, x1), (0, x2), (0, x3), z4], [(0, x2), (0, x1), (31, 133)], m, XX)) rfl ?_
    refine T_gd hD (c1 := (54, [(18, 130), (0, x1), (0, x2), (0, x3), z4], [], mup m 133 x1 x2, XX)) rfl (fun g3 => ?_)
    refine T_run hD 2 (c' := (56, [(18, 130), (0, x1), (0, x2), (0, 0), z4], [], mup m 133 x1 x2, XX)) rfl ?_
    exact T_map (tM_findType_56 r (mup m 133 x1 x2) x1 x2 0 z4)
def fM_findType (m : aM) (x1 : Int) : Option aM :=
  fM_findType_4 m x1 0 0
set_option maxRecDepth 100000 in
theorem tM_findType (m : aM) (x1 : Int) : ∀ v, fM_findType m x1 = some v → Go PB 6 39 (aEnt d_M_findType [(18, 130), (0, x1)] m XX) (0, (0, 0), v, XX) := by
  intro v hv
  have hD : aMd PB 39 = d_M_findType := rfl
  obtain ⟨r, hr⟩ : ∃ r : aR, r = (0, (0, 0), v, XX) := ⟨_, rfl⟩
  have h9 : aT PB 6 39 r (fun w => r = (0, (0, 0), w, XX)) (fM_findType m x1) (0, [(18, 130), (0, x1), (99, 0), (99, 0), (99, 0)], [], m, XX) := by
    unfold fM_findType
    refine T_run hD 4 (c' := (4, [(18, 130), (0, x1), (0, 0), (0, 0), (99, 0)], [], m, XX)) rfl ?_
    exact tM_findType_4 r m x1 0 0 (99, 0)
  rw [← hr]
  exact h9 v hv hr
abbrev hM_load_92 : (aM × Int) → aC → Prop := fun y c => ∃ (z2 : aV), c = (92, [(18, 130), (0, (y.2)), z2], [], (y.1), XX)
abbrev hM_load_130 : (aM × Int) → aC → Prop := fun y c => ∃ (z2 : aV), c = (130, [(18, 130), (0, (y.2)), z2], [], (y.1), XX)
abbrev hM_load_140 (x1 : Int) : (aM × Int) → aC → Prop := fun y c => c = (140, [(18, 130), (0, x1), (0, (y.2))], [], (y.1), XX)
abbrev hM_load_182 : (aM × Int) → aC → Prop := fun y c => ∃ (z2 : aV), c = (182, [(18, 130), (0, (y.2)), z2], [], (y.1), XX)
def fM_load_140_b (x1 : Int) : (aM × Int) → Option ((aM × Int) ⊕ ((aM × Int) ⊕ (Int × aM))) := fun (m, x2) =>
  if x2 < m 130 4 then
    gd (0 ≤ w32 (x1 + 1) ∧ w32 (x1 + 1) < 243) (
    (fM_keep m (w32 ((w32 (6 * x1)) + x2)) (w32 ((m 141 (w32 (x1 + 1))) + x2))).bind fun v6 =>
    some (Sum.inl (v6, w32 (x2 + 1))))
  else
    some (Sum.inr (Sum.inl (m, w32 (x1 + 1))))
def fM_load_140 (m : aM) (x1 : Int) (x2 : Int) : Option ((aM × Int) ⊕ (Int × aM)) := aLoop (fM_load_140_b x1) FU (m, x2)
set_option maxRecDepth 100000 in
theorem tM_load_140 (r : aR) (m : aM) (x1 : Int) (x2 : Int) : aT PB 7 41 r (aTurn PB 7 41 r (hM_load_130 ) (fun w => r = (1, (0, w.1), w.2, XX))) (fM_load_140 m x1 x2) (140, [(18, 130), (0, x1), (0, x2)], [], m, XX) := by
  have hD : aMd PB 41 = d_M_load := rfl
  refine T_loop (Hd := (hM_load_140 x1)) ?_ FU _ _ rfl
  clear m x2
  intro y c hc
  obtain ⟨m, x2⟩ := y
  obtain rfl := hc
  unfold fM_load_140_b
  try dsimp only
  refine T_run hD 3 (c' := (145, [(18, 130), (0, x1), (0, x2)], [(0, m 130 4), (0, x2)], m, XX)) rfl ?_
  refine T_if hD (c1 := (148, _, _, _, _)) (c2 := (174, _, _, _, _)) rfl (fun _ => ?_) (fun _ => ?_)
  · refine T_run hD 11 (c' := (162, [(18, 130), (0, x1), (0, x2)], [(0, w32 (x1 + 1)), (31, 141), (0, w32 ((w32 (6 * x1)) + x2)), (18, 130)], m, XX)) rfl ?_
    refine T_gd hD (c1 := (163, [(18, 130), (0, x1), (0, x2)], [(0, m 141 (w32 (x1 + 1))), (0, w32 ((w32 (6 * x1)) + x2)), (18, 130)], m, XX)) rfl (fun g5 => ?_)
    refine T_run hD 2 (c' := (165, [(18, 130), (0, x1), (0, x2)], [(0, w32 ((m 141 (w32 (x1 + 1))) + x2)), (0, w32 ((w32 (6 * x1)) + x2)), (18, 130)], m, XX)) rfl ?_
    refine T_call hD (D2 := d_M_keep) (q2 := 36) (as := [(18, 130), (0, w32 ((w32 (6 * x1)) + x2)), (0, w32 ((m 141 (w32 (x1 + 1))) + x2))]) (c1 := (168, [(18, 130), (0, x1), (0, x2)], [], m, XX)) (mk := fun w => (0, (0, 0), w, XX)) (cc := fun v6 => (168, [(18, 130), (0, x1), (0, x2)], [], v6, XX)) rfl rfl (fun y9 h9y => Go.mono (tM_keep m (w32 ((w32 (6 * x1)) + x2)) (w32 ((m 141 (w32 (x1 + 1))) + x2)) y9 h9y) (by decide)) (fun _ => rfl) (fun v6 => ?_)
    refine T_run hD 2 (c' := (140, [(18, 130), (0, x1), (0, w32 (x2 + 1))], [], v6, XX)) rfl ?_
    exact T_back0 rfl
  · refine T_run hD 2 (c' := (130, [(18, 130), (0, w32 (x1 + 1)), (0, x2)], [], m, XX)) rfl ?_
    exact T_back1 ⟨_, rfl⟩
def fM_load_182_b : (aM × Int) → Option ((aM × Int) ⊕ (Int × aM)) := fun (m, x1) =>
  if x1 < m 130 4 then
    (fM_findType m x1).bind fun v7 =>
    some (Sum.inl (v7, w32 (x1 + 1)))
  else
    some (Sum.inr ((m 130 5, m)))
def fM_load_182 (m : aM) (x1 : Int) : Option (Int × aM) := aLoop (fM_load_182_b ) FU (m, x1)
set_option maxRecDepth 100000 in
theorem tM_load_182 (r : aR) (m : aM) (x1 : Int) (z2 : aV) : aT PB 7 41 r (fun w => r = (1, (0, w.1), w.2, XX)) (fM_load_182 m x1) (182, [(18, 130), (0, x1), z2], [], m, XX) := by
  have hD : aMd PB 41 = d_M_load := rfl
  refine T_loop (Hd := (hM_load_182 )) ?_ FU _ _ ⟨z2, rfl⟩
  clear m x1 z2
  intro y c hc
  obtain ⟨m, x1⟩ := y
  obtain ⟨z2, rfl⟩ := hc
  unfold fM_load_182_b
  try dsimp only
  refine T_run hD 3 (c' := (187, [(18, 130), (0, x1), z2], [(0, m 130 4), (0, x1)], m, XX)) rfl ?_
  refine T_if hD (c1 := (190, _, _, _, _)) (c2 := (201, _, _, _, _)) rfl (fun _ => ?_) (fun _ => ?_)
  · refine T_run hD 2 (c' := (192, [(18, 130), (0, x1), z2], [(0, x1), (18, 130)], m, XX)) rfl ?_
    refine T_call hD (D2 := d_M_findType) (q2 := 39) (as := [(18, 130), (0, x1)]) (c1 := (195, [(18, 130), (0, x1), z2], [], m, XX)) (mk := fun w => (0, (0, 0), w, XX)) (cc := fun v7 => (195, [(18, 130), (0, x1), z2], [], v7, XX)) rfl rfl (fun y9 h9y => Go.mono (tM_findType m x1 y9 h9y) (by decide)) (fun _ => rfl) (fun v7 => ?_)
    refine T_run hD 2 (c' := (182, [(18, 130), (0, w32 (x1 + 1)), z2], [], v7, XX)) rfl ?_
    exact T_back0 ⟨_, rfl⟩
  · refine T_run hD 2 (c' := (205, [(18, 130), (0, x1), z2], [(0, m 130 5)], m, XX)) rfl ?_
    exact T_fin hD rfl (fun h => h)
def fM_load_130_b : (aM × Int) → Option ((aM × Int) ⊕ (Int × aM)) := fun (m, x1) =>
  if x1 < m 130 5 then
    fM_load_140 m x1 0
  else
    (fM_load_182 m 0).map Sum.inr
def fM_load_130 (m : aM) (x1 : Int) : Option (Int × aM) := aLoop (fM_load_130_b ) FU (m, x1)
set_option maxRecDepth 100000 in
theorem tM_load_130 (r : aR) (m : aM) (x1 : Int) (z2 : aV) : aT PB 7 41 r (fun w => r = (1, (0, w.1), w.2, XX)) (fM_load_130 m x1) (130, [(18, 130), (0, x1), z2], [], m, XX) := by
  have hD : aMd PB 41 = d_M_load := rfl
  refine T_loop (Hd := (hM_load_130 )) ?_ FU _ _ ⟨z2, rfl⟩
  clear m x1 z2
  intro y c hc
  obtain ⟨m, x1⟩ := y
  obtain ⟨z2, rfl⟩ := hc
  unfold fM_load_130_b
  try dsimp only
  refine T_run hD 3 (c' := (135, [(18, 130), (0, x1), z2], [(0, m 130 5), (0, x1)], m, XX)) rfl ?_
  refine T_if hD (c1 := (138, _, _, _, _)) (c2 := (180, _, _, _, _)) rfl (fun _ => ?_) (fun _ => ?_)
  · refine T_run hD 2 (c' := (140, [(18, 130), (0, x1), (0, 0)], [], m, XX)) rfl ?_
    exact tM_load_140 r m x1 0 
  · refine T_run hD 2 (c' := (182, [(18, 130), (0, 0), z2], [], m, XX)) rfl ?_
    exact T_map (tM_load_182 r m 0 z2)
def fM_load_92_b : (aM × Int) → Option ((aM × Int) ⊕ (Int × aM)) := fun (m, x1) =>
  if x1 < m 130 4 then
    gd (0 ≤ x1 ∧ x1 < 242) (
    (fM_word m (m 138 x1) (m 139 x1)).bind fun v3 =>
    gd (0 ≤ x1 ∧ x1 < 6) (
    some (Sum.inl (mup m 132 x1 v3, w32 (x1 + 1)))))
  else
    (fM_load_130 m 0).map Sum.inr
def fM_load_92 (m : aM) (x1 : Int) : Option (Int × aM) := aLoop (fM_load_92_b ) FU (m, x1)
set_option maxRecDepth 100000 in
theorem tM_load_92 (r : aR) (m : aM) (x1 : Int) (z2 : aV) : aT PB 7 41 r (fun w => r = (1, (0, w.1), w.2, XX)) (fM_load_92 m x1) (92, [(18, 130), (0, x1), z2], [], m, XX) := by
  have hD : aMd PB 41 = d_M_load := rfl
  refine T_loop (Hd := (hM_load_92 )) ?_ FU _ _ ⟨z2, rfl⟩
  clear m x1 z2
  intro y c hc
  obtain ⟨m, x1⟩ := y
  obtain ⟨z2, rfl⟩ := hc
  unfold fM_load_92_b
  try dsimp only
  refine T_run hD 3 (c' := (97, [(18, 130), (0, x1), z2], [(0, m 130 4), (0, x1)], m, XX)) rfl ?_
  refine T_if hD (c1 := (100, _, _, _, _)) (c2 := (128, _, _, _, _)) rfl (fun _ => ?_) (fun _ => ?_)
  · refine T_run hD 7 (c' := (111, [(18, 130), (0, x1), z2], [(0, x1), (31, 138), (18, 130), (0, x1), (32, 132)], m, XX)) rfl ?_
    refine T_gd hD (c1 := (112, [(18, 130), (0, x1), z2], [(0, m 138 x1), (18, 130), (0, x1), (32, 132)], m, XX)) rfl (fun g2 => ?_)
    refine T_run hD 3 (c' := (117, [(18, 130), (0, x1), z2], [(0, x1), (31, 139), (0, m 138 x1), (18, 130), (0, x1), (32, 132)], m, XX)) rfl ?_
    refine T_gk hD (c1 := (118, [(18, 130), (0, x1), z2], [(0, m 139 x1), (0, m 138 x1), (18, 130), (0, x1), (32, 132)], m, XX)) (P := 0 ≤ x1 ∧ x1 < 242) rfl g2 ?_
    refine T_call hD (D2 := d_M_word) (q2 := 33) (as := [(18, 130), (0, m 138 x1), (0, m 139 x1)]) (c1 := (121, [(18, 130), (0, x1), z2], [(0, x1), (32, 132)], m, XX)) (mk := fun w => (1, (1, w), m, XX)) (cc := fun v3 => (121, [(18, 130), (0, x1), z2], [(1, v3), (0, x1), (32, 132)], m, XX)) rfl rfl (fun y9 h9y => Go.mono (tM_word m (m 138 x1) (m 139 x1) y9 h9y) (by decide)) (fun _ => rfl) (fun v3 => ?_)
    refine T_gd hD (c1 := (122, [(18, 130), (0, x1), z2], [], mup m 132 x1 v3, XX)) rfl (fun g4 => ?_)
    refine T_run hD 2 (c' := (92, [(18, 130), (0, w32 (x1 + 1)), z2], [], mup m 132 x1 v3, XX)) rfl ?_
    exact T_back0 ⟨_, rfl⟩
  · refine T_run hD 2 (c' := (130, [(18, 130), (0, 0), z2], [], m, XX)) rfl ?_
    exact T_map (tM_load_130 r m 0 z2)
def fM_load_48 (m : aM) (s1 : Int) : Option (Int × aM) :=
  if 0 < s1 then
    some ((0, mup m 130 0 s1))
  else
    fM_load_92 (mup (mup (mup (mup (mup m 130 0 s1) 130 4 (m 141 1)) 130 5 (w32 ((m 130 17) - 1))) 130 8 0) 130 37 (-1)) 0
set_option maxRecDepth 100000 in
theorem tM_load_48 (r : aR) (m : aM) (s1 : Int) (z1 : aV) (z2 : aV) : aT PB 7 41 r (fun w => r = (1, (0, w.1), w.2, XX)) (fM_load_48 m s1) (48, [(18, 130), z1, z2], [(0, s1), (18, 130)], m, XX) := by
  have hD : aMd PB 41 = d_M_load := rfl
  unfold fM_load_48
  refine T_run hD 3 (c' := (55, [(18, 130), z1, z2], [(0, s1)], mup m 130 0 s1, XX)) rfl ?_
  refine T_if hD (c1 := (58, _, _, _, _)) (c2 := (60, _, _, _, _)) rfl (fun _ => ?_) (fun _ => ?_)
  · refine T_run hD 1 (c' := (59, [(18, 130), z1, z2], [(0, 0)], mup m 130 0 s1, XX)) rfl ?_
    exact T_fin hD rfl (fun h => h)
  · refine T_run hD 20 (c' := (92, [(18, 130), (0, 0), z2], [], mup (mup (mup (mup (mup m 130 0 s1) 130 4 (m 141 1)) 130 5 (w32 ((m 130 17) - 1))) 130 8 0) 130 37 (-1), XX)) rfl ?_
    exact tM_load_92 r (mup (mup (mup (mup (mup m 130 0 s1) 130 4 (m 141 1)) 130 5 (w32 ((m 130 17) - 1))) 130 8 0) 130 37 (-1)) 0 z2
def fM_load (m : aM) : Option (Int × aM) :=
  (fM_cutText m).bind fun v1 =>
  if v1.1 = 0 then
    fM_load_48 v1.2 1
  else
    (fM_isEven v1.2).bind fun v8 =>
    if v8 = 0 then
      fM_load_48 v1.2 2
    else
      (fM_areNames v1.2).bind fun v9 =>
      if v9 = 0 then
        fM_load_48 v1.2 3
      else
        if 17 < v1.2 130 17 then
          fM_load_48 v1.2 4
        else
          fM_load_48 v1.2 0
set_option maxRecDepth 100000 in
theorem tM_load (m : aM) : ∀ v, fM_load m = some v → Go PB 7 41 (aEnt d_M_load [(18, 130)] m XX) (1, (0, v.1), v.2, XX) := by
  intro v hv
  have hD : aMd PB 41 = d_M_load := rfl
  obtain ⟨r, hr⟩ : ∃ r : aR, r = (1, (0, v.1), v.2, XX) := ⟨_, rfl⟩
  have h9 : aT PB 7 41 r (fun w => r = (1, (0, w.1), w.2, XX)) (fM_load m) (0, [(18, 130), (99, 0), (99, 0)], [], m, XX) := by
    unfold fM_load
    refine T_run hD 2 (c' := (2, [(18, 130), (99, 0), (99, 0)], [(18, 130), (18, 130)], m, XX)) rfl ?_
    refine T_call hD (D2 := d_M_cutText) (q2 := 31) (as := [(18, 130)]) (c1 := (5, [(18, 130), (99, 0), (99, 0)], [(18, 130)], m, XX)) (mk := fun w => (1, (0, w.1), w.2, XX)) (cc := fun v1 => (5, [(18, 130), (99, 0), (99, 0)], [(0, v1.1), (18, 130)], v1.2, XX)) rfl rfl (fun y9 h9y => Go.mono (tM_cutText m y9 h9y) (by decide)) (fun _ => rfl) (fun v1 => ?_)
    refine T_if hD (c1 := (8, _, _, _, _)) (c2 := (12, _, _, _, _)) rfl (fun _ => ?_) (fun _ => ?_)
    · refine T_run hD 2 (c' := (48, [(18, 130), (99, 0), (99, 0)], [(0, 1), (18, 130)], v1.2, XX)) rfl ?_
      exact tM_load_48 r v1.2 1 (99, 0) (99, 0)
    · refine T_run hD 1 (c' := (13, [(18, 130), (99, 0), (99, 0)], [(18, 130), (18, 130)], v1.2, XX)) rfl ?_
      refine T_call hD (D2 := d_M_isEven) (q2 := 32) (as := [(18, 130)]) (c1 := (16, [(18, 130), (99, 0), (99, 0)], [(18, 130)], v1.2, XX)) (mk := fun w => (1, (0, w), v1.2, XX)) (cc := fun v8 => (16, [(18, 130), (99, 0), (99, 0)], [(0, v8), (18, 130)], v1.2, XX)) rfl rfl (fun y9 h9y => Go.mono (tM_isEven v1.2 y9 h9y) (by decide)) (fun _ => rfl) (fun v8 => ?_)
      refine T_if hD (c1 := (19, _, _, _, _)) (c2 := (23, _, _, _, _)) rfl (fun _ => ?_) (fun _ => ?_)
      · refine T_run hD 2 (c' := (48, [(18, 130), (99, 0), (99, 0)], [(0, 2), (18, 130)], v1.2, XX)) rfl ?_
        exact tM_load_48 r v1.2 2 (99, 0) (99, 0)
      · refine T_run hD 1 (c' := (24, [(18, 130), (99, 0), (99, 0)], [(18, 130), (18, 130)], v1.2, XX)) rfl ?_
        refine T_call hD (D2 := d_M_areNames) (q2 := 35) (as := [(18, 130)]) (c1 := (27, [(18, 130), (99, 0), (99, 0)], [(18, 130)], v1.2, XX)) (mk := fun w => (1, (0, w), v1.2, XX)) (cc := fun v9 => (27, [(18, 130), (99, 0), (99, 0)], [(0, v9), (18, 130)], v1.2, XX)) rfl rfl (fun y9 h9y => Go.mono (tM_areNames v1.2 y9 h9y) (by decide)) (fun _ => rfl) (fun v9 => ?_)
        refine T_if hD (c1 := (30, _, _, _, _)) (c2 := (34, _, _, _, _)) rfl (fun _ => ?_) (fun _ => ?_)
        · refine T_run hD 2 (c' := (48, [(18, 130), (99, 0), (99, 0)], [(0, 3), (18, 130)], v1.2, XX)) rfl ?_
          exact tM_load_48 r v1.2 3 (99, 0) (99, 0)
        · refine T_run hD 3 (c' := (40, [(18, 130), (99, 0), (99, 0)], [(0, 17), (0, v1.2 130 17), (18, 130)], v1.2, XX)) rfl ?_
          refine T_if hD (c1 := (43, _, _, _, _)) (c2 := (47, _, _, _, _)) rfl (fun _ => ?_) (fun _ => ?_)
          · refine T_run hD 2 (c' := (48, [(18, 130), (99, 0), (99, 0)], [(0, 4), (18, 130)], v1.2, XX)) rfl ?_
            exact tM_load_48 r v1.2 4 (99, 0) (99, 0)
          · refine T_run hD 1 (c' := (48, [(18, 130), (99, 0), (99, 0)], [(0, 0), (18, 130)], v1.2, XX)) rfl ?_
            exact tM_load_48 r v1.2 0 (99, 0) (99, 0)
  rw [← hr]
  exact h9 v hv hr
def fM_columns (m : aM) : (Int × aM) :=
  (m 130 4, mup m 130 0 0)
set_option maxRecDepth 100000 in
theorem tM_columns (m : aM) : Go PB 1 42 (aEnt d_M_columns [(18, 130)] m XX) (1, (0, (fM_columns m).1), (fM_columns m).2, XX) := by
  have hD : aMd PB 42 = d_M_columns := rfl
  show aU PB 1 42 (fun w => (1, (0, w.1), w.2, XX)) (fM_columns m) (0, [(18, 130)], [], m, XX)
  unfold fM_columns
  refine U_run hD 5 (c' := (9, [(18, 130)], [(0, m 130 4)], mup m 130 0 0, XX)) rfl ?_
  exact Go.fin hD rfl
def fM_isColumn (m : aM) (x1 : Int) : Int :=
  if x1 < 0 then
    0
  else
    if x1 < m 130 4 then
      1
    else
      0
set_option maxRecDepth 100000 in
theorem tM_isColumn (m : aM) (x1 : Int) : Go PB 1 43 (aEnt d_M_isColumn [(18, 130), (0, x1)] m XX) (1, (0, (fM_isColumn m x1)), m, XX) := by
  have hD : aMd PB 43 = d_M_isColumn := rfl
  show aU PB 1 43 (fun w => (1, (0, w), m, XX)) (fM_isColumn m x1) (0, [(18, 130), (0, x1)], [], m, XX)
  unfold fM_isColumn
  refine U_run hD 1 (c' := (1, [(18, 130), (0, x1)], [(0, x1)], m, XX)) rfl ?_
  refine U_if hD (c1 := (16, _, _, _, _)) (c2 := (4, _, _, _, _)) rfl (fun _ => ?_) (fun _ => ?_)
  · refine U_run hD 1 (c' := (17, [(18, 130), (0, x1)], [(0, 0)], m, XX)) rfl ?_
    exact Go.fin hD rfl
  · refine U_run hD 3 (c' := (9, [(18, 130), (0, x1)], [(0, m 130 4), (0, x1)], m, XX)) rfl ?_
    refine U_if hD (c1 := (12, _, _, _, _)) (c2 := (16, _, _, _, _)) rfl (fun _ => ?_) (fun _ => ?_)
    · refine U_run hD 2 (c' := (17, [(18, 130), (0, x1)], [(0, 1)], m, XX)) rfl ?_
      exact Go.fin hD rfl
    · refine U_run hD 1 (c' := (17, [(18, 130), (0, x1)], [(0, 0)], m, XX)) rfl ?_
      exact Go.fin hD rfl
def fM_type_14 (m : aM) (x1 : Int) (s1 : Int) : Option (Int × aM) :=
  if 0 < s1 then
    some ((0, mup m 130 0 s1))
  else
    gd (0 ≤ x1 ∧ x1 < 6) (
    some ((m 133 x1, mup m 130 0 s1)))
set_option maxRecDepth 100000 in
theorem tM_type_14 (r : aR) (m : aM) (x1 : Int) (s1 : Int) : aT PB 2 44 r (fun w => r = (1, (0, w.1), w.2, XX)) (fM_type_14 m x1 s1) (14, [(18, 130), (0, x1)], [(0, s1), (18, 130)], m, XX) := by
  have hD : aMd PB 44 = d_M_type := rfl
  unfold fM_type_14
  refine T_run hD 3 (c' := (21, [(18, 130), (0, x1)], [(0, s1)], mup m 130 0 s1, XX)) rfl ?_
  refine T_if hD (c1 := (24, _, _, _, _)) (c2 := (28, _, _, _, _)) rfl (fun _ => ?_) (fun _ => ?_)
  · refine T_run hD 2 (c' := (34, [(18, 130), (0, x1)], [(0, 0)], mup m 130 0 s1, XX)) rfl ?_
    exact T_fin hD rfl (fun h => h)
  · refine T_run hD 3 (c' := (33, [(18, 130), (0, x1)], [(0, x1), (31, 133)], mup m 130 0 s1, XX)) rfl ?_
    refine T_gd hD (c1 := (34, [(18, 130), (0, x1)], [(0, m 133 x1)], mup m 130 0 s1, XX)) rfl (fun g1 => ?_)
    exact T_fin hD rfl (fun h => h)
def fM_type (m : aM) (x1 : Int) : Option (Int × aM) :=
  if fM_isColumn m x1 = 0 then
    fM_type_14 m x1 1
  else
    fM_type_14 m x1 0
set_option maxRecDepth 100000 in
theorem tM_type (m : aM) (x1 : Int) : ∀ v, fM_type m x1 = some v → Go PB 2 44 (aEnt d_M_type [(18, 130), (0, x1)] m XX) (1, (0, v.1), v.2, XX) := by
  intro v hv
  have hD : aMd PB 44 = d_M_type := rfl
  obtain ⟨r, hr⟩ : ∃ r : aR, r = (1, (0, v.1), v.2, XX) := ⟨_, rfl⟩
  have h9 : aT PB 2 44 r (fun w => r = (1, (0, w.1), w.2, XX)) (fM_type m x1) (0, [(18, 130), (0, x1)], [], m, XX) := by
    unfold fM_type
    refine T_run hD 3 (c' := (3, [(18, 130), (0, x1)], [(0, x1), (18, 130), (18, 130)], m, XX)) rfl ?_
    refine T_call0 hD (D2 := d_M_isColumn) (q2 := 43) (as := [(18, 130), (0, x1)]) (c1 := (6, [(18, 130), (0, x1)], [(18, 130)], m, XX)) (r2 := (1, (0, fM_isColumn m x1), m, XX)) (c2 := (6, [(18, 130), (0, x1)], [(0, fM_isColumn m x1), (18, 130)], m, XX)) rfl rfl (Go.mono (tM_isColumn m x1) (by decide)) rfl ?_
    refine T_if hD (c1 := (13, _, _, _, _)) (c2 := (9, _, _, _, _)) rfl (fun _ => ?_) (fun _ => ?_)
    · refine T_run hD 1 (c' := (14, [(18, 130), (0, x1)], [(0, 1), (18, 130)], m, XX)) rfl ?_
      exact tM_type_14 r m x1 1 
    · refine T_run hD 2 (c' := (14, [(18, 130), (0, x1)], [(0, 0), (18, 130)], m, XX)) rfl ?_
      exact tM_type_14 r m x1 0 
  rw [← hr]
  exact h9 v hv hr
def fM_isCell (m : aM) (x1 : Int) (x2 : Int) : Int :=
  if x1 < 0 then
    0
  else
    if x1 < m 130 5 then
      if fM_isColumn m x2 = 0 then
        0
      else
        1
    else
      0
set_option maxRecDepth 100000 in
theorem tM_isCell (m : aM) (x1 : Int) (x2 : Int) : Go PB 2 45 (aEnt d_M_isCell [(18, 130), (0, x1), (0, x2)] m XX) (1, (0, (fM_isCell m x1 x2)), m, XX) := by
  have hD : aMd PB 45 = d_M_isCell := rfl
  show aU PB 2 45 (fun w => (1, (0, w), m, XX)) (fM_isCell m x1 x2) (0, [(18, 130), (0, x1), (0, x2)], [], m, XX)
  unfold fM_isCell
  refine U_run hD 1 (c' := (1, [(18, 130), (0, x1), (0, x2)], [(0, x1)], m, XX)) rfl ?_
  refine U_if hD (c1 := (24, _, _, _, _)) (c2 := (4, _, _, _, _)) rfl (fun _ => ?_) (fun _ => ?_)
  · refine U_run hD 1 (c' := (25, [(18, 130), (0, x1), (0, x2)], [(0, 0)], m, XX)) rfl ?_
    exact Go.fin hD rfl
  · refine U_run hD 3 (c' := (9, [(18, 130), (0, x1), (0, x2)], [(0, m 130 5), (0, x1)], m, XX)) rfl ?_
    refine U_if hD (c1 := (12, _, _, _, _)) (c2 := (24, _, _, _, _)) rfl (fun _ => ?_) (fun _ => ?_)
    · refine U_run hD 2 (c' := (14, [(18, 130), (0, x1), (0, x2)], [(0, x2), (18, 130)], m, XX)) rfl ?_
      refine U_call0 hD (D2 := d_M_isColumn) (q2 := 43) (as := [(18, 130), (0, x2)]) (c1 := (17, [(18, 130), (0, x1), (0, x2)], [], m, XX)) (r2 := (1, (0, fM_isColumn m x2), m, XX)) (c2 := (17, [(18, 130), (0, x1), (0, x2)], [(0, fM_isColumn m x2)], m, XX)) rfl rfl (Go.mono (tM_isColumn m x2) (by decide)) rfl ?_
      refine U_if hD (c1 := (24, _, _, _, _)) (c2 := (20, _, _, _, _)) rfl (fun _ => ?_) (fun _ => ?_)
      · refine U_run hD 1 (c' := (25, [(18, 130), (0, x1), (0, x2)], [(0, 0)], m, XX)) rfl ?_
        exact Go.fin hD rfl
      · refine U_run hD 2 (c' := (25, [(18, 130), (0, x1), (0, x2)], [(0, 1)], m, XX)) rfl ?_
        exact Go.fin hD rfl
    · refine U_run hD 1 (c' := (25, [(18, 130), (0, x1), (0, x2)], [(0, 0)], m, XX)) rfl ?_
      exact Go.fin hD rfl
def fM_isMissing_15 (m : aM) (x1 : Int) (x2 : Int) (s1 : Int) : Option (Int × aM) :=
  if s1 = 0 then
    (fM_isNone (mup m 130 0 s1) x1 x2).bind fun v1 =>
    if v1 = 0 then
      some ((0, mup m 130 0 s1))
    else
      some ((1, mup m 130 0 s1))
  else
    some ((0, mup m 130 0 s1))
set_option maxRecDepth 100000 in
theorem tM_isMissing_15 (r : aR) (m : aM) (x1 : Int) (x2 : Int) (s1 : Int) : aT PB 3 46 r (fun w => r = (1, (0, w.1), w.2, XX)) (fM_isMissing_15 m x1 x2 s1) (15, [(18, 130), (0, x1), (0, x2)], [(0, s1), (18, 130)], m, XX) := by
  have hD : aMd PB 46 = d_M_isMissing := rfl
  unfold fM_isMissing_15
  refine T_run hD 3 (c' := (22, [(18, 130), (0, x1), (0, x2)], [(0, s1)], mup m 130 0 s1, XX)) rfl ?_
  refine T_if hD (c1 := (25, _, _, _, _)) (c2 := (38, _, _, _, _)) rfl (fun _ => ?_) (fun _ => ?_)
  · refine T_run hD 3 (c' := (28, [(18, 130), (0, x1), (0, x2)], [(0, x2), (0, x1), (18, 130)], mup m 130 0 s1, XX)) rfl ?_
    refine T_call hD (D2 := d_M_isNone) (q2 := 37) (as := [(18, 130), (0, x1), (0, x2)]) (c1 := (31, [(18, 130), (0, x1), (0, x2)], [], mup m 130 0 s1, XX)) (mk := fun w => (1, (0, w), mup m 130 0 s1, XX)) (cc := fun v1 => (31, [(18, 130), (0, x1), (0, x2)], [(0, v1)], mup m 130 0 s1, XX)) rfl rfl (fun y9 h9y => Go.mono (tM_isNone (mup m 130 0 s1) x1 x2 y9 h9y) (by decide)) (fun _ => rfl) (fun v1 => ?_)
    refine T_if hD (c1 := (38, _, _, _, _)) (c2 := (34, _, _, _, _)) rfl (fun _ => ?_) (fun _ => ?_)
    · refine T_run hD 1 (c' := (39, [(18, 130), (0, x1), (0, x2)], [(0, 0)], mup m 130 0 s1, XX)) rfl ?_
      exact T_fin hD rfl (fun h => h)
    · refine T_run hD 2 (c' := (39, [(18, 130), (0, x1), (0, x2)], [(0, 1)], mup m 130 0 s1, XX)) rfl ?_
      exact T_fin hD rfl (fun h => h)
  · refine T_run hD 1 (c' := (39, [(18, 130), (0, x1), (0, x2)], [(0, 0)], mup m 130 0 s1, XX)) rfl ?_
    exact T_fin hD rfl (fun h => h)
def fM_isMissing (m : aM) (x1 : Int) (x2 : Int) : Option (Int × aM) :=
  if fM_isCell m x1 x2 = 0 then
    fM_isMissing_15 m x1 x2 1
  else
    fM_isMissing_15 m x1 x2 0
set_option maxRecDepth 100000 in
theorem tM_isMissing (m : aM) (x1 : Int) (x2 : Int) : ∀ v, fM_isMissing m x1 x2 = some v → Go PB 3 46 (aEnt d_M_isMissing [(18, 130), (0, x1), (0, x2)] m XX) (1, (0, v.1), v.2, XX) := by
  intro v hv
  have hD : aMd PB 46 = d_M_isMissing := rfl
  obtain ⟨r, hr⟩ : ∃ r : aR, r = (1, (0, v.1), v.2, XX) := ⟨_, rfl⟩
  have h9 : aT PB 3 46 r (fun w => r = (1, (0, w.1), w.2, XX)) (fM_isMissing m x1 x2) (0, [(18, 130), (0, x1), (0, x2)], [], m, XX) := by
    unfold fM_isMissing
    refine T_run hD 4 (c' := (4, [(18, 130), (0, x1), (0, x2)], [(0, x2), (0, x1), (18, 130), (18, 130)], m, XX)) rfl ?_
    refine T_call0 hD (D2 := d_M_isCell) (q2 := 45) (as := [(18, 130), (0, x1), (0, x2)]) (c1 := (7, [(18, 130), (0, x1), (0, x2)], [(18, 130)], m, XX)) (r2 := (1, (0, fM_isCell m x1 x2), m, XX)) (c2 := (7, [(18, 130), (0, x1), (0, x2)], [(0, fM_isCell m x1 x2), (18, 130)], m, XX)) rfl rfl (Go.mono (tM_isCell m x1 x2) (by decide)) rfl ?_
    refine T_if hD (c1 := (14, _, _, _, _)) (c2 := (10, _, _, _, _)) rfl (fun _ => ?_) (fun _ => ?_)
    · refine T_run hD 1 (c' := (15, [(18, 130), (0, x1), (0, x2)], [(0, 1), (18, 130)], m, XX)) rfl ?_
      exact tM_isMissing_15 r m x1 x2 1 
    · refine T_run hD 2 (c' := (15, [(18, 130), (0, x1), (0, x2)], [(0, 0), (18, 130)], m, XX)) rfl ?_
      exact tM_isMissing_15 r m x1 x2 0 
  rw [← hr]
  exact h9 v hv hr
def fM_value_42 (m : aM) (x1 : Int) (x2 : Int) (s1 : Int) : Option (Int × aM) :=
  if 0 < s1 then
    some ((0, mup m 130 0 s1))
  else
    gd (0 ≤ w32 ((w32 (6 * x1)) + x2) ∧ w32 ((w32 (6 * x1)) + x2) < 96) (
    some ((m 137 (w32 ((w32 (6 * x1)) + x2)), mup m 130 0 s1)))
set_option maxRecDepth 100000 in
theorem tM_value_42 (r : aR) (m : aM) (x1 : Int) (x2 : Int) (s1 : Int) : aT PB 3 47 r (fun w => r = (1, (1, w.1), w.2, XX)) (fM_value_42 m x1 x2 s1) (42, [(18, 130), (0, x1), (0, x2)], [(0, s1), (18, 130)], m, XX) := by
  have hD : aMd PB 47 = d_M_value := rfl
  unfold fM_value_42
  refine T_run hD 3 (c' := (49, [(18, 130), (0, x1), (0, x2)], [(0, s1)], mup m 130 0 s1, XX)) rfl ?_
  refine T_if hD (c1 := (52, _, _, _, _)) (c2 := (56, _, _, _, _)) rfl (fun _ => ?_) (fun _ => ?_)
  · refine T_run hD 2 (c' := (67, [(18, 130), (0, x1), (0, x2)], [(1, 0)], mup m 130 0 s1, XX)) rfl ?_
    exact T_fin hD rfl (fun h => h)
  · refine T_run hD 7 (c' := (66, [(18, 130), (0, x1), (0, x2)], [(0, w32 ((w32 (6 * x1)) + x2)), (32, 137)], mup m 130 0 s1, XX)) rfl ?_
    refine T_gd hD (c1 := (67, [(18, 130), (0, x1), (0, x2)], [(1, m 137 (w32 ((w32 (6 * x1)) + x2)))], mup m 130 0 s1, XX)) rfl (fun g1 => ?_)
    exact T_fin hD rfl (fun h => h)
def fM_value (m : aM) (x1 : Int) (x2 : Int) : Option (Int × aM) :=
  if fM_isCell m x1 x2 = 0 then
    fM_value_42 m x1 x2 1
  else
    gd (0 ≤ x2 ∧ x2 < 6) (
    if m 133 x2 = 3 then
      fM_value_42 m x1 x2 2
    else
      (fM_isNone m x1 x2).bind fun v3 =>
      if v3 = 0 then
        fM_value_42 m x1 x2 0
      else
        fM_value_42 m x1 x2 3)
set_option maxRecDepth 100000 in
theorem tM_value (m : aM) (x1 : Int) (x2 : Int) : ∀ v, fM_value m x1 x2 = some v → Go PB 3 47 (aEnt d_M_value [(18, 130), (0, x1), (0, x2)] m XX) (1, (1, v.1), v.2, XX) := by
  intro v hv
  have hD : aMd PB 47 = d_M_value := rfl
  obtain ⟨r, hr⟩ : ∃ r : aR, r = (1, (1, v.1), v.2, XX) := ⟨_, rfl⟩
  have h9 : aT PB 3 47 r (fun w => r = (1, (1, w.1), w.2, XX)) (fM_value m x1 x2) (0, [(18, 130), (0, x1), (0, x2)], [], m, XX) := by
    unfold fM_value
    refine T_run hD 4 (c' := (4, [(18, 130), (0, x1), (0, x2)], [(0, x2), (0, x1), (18, 130), (18, 130)], m, XX)) rfl ?_
    refine T_call0 hD (D2 := d_M_isCell) (q2 := 45) (as := [(18, 130), (0, x1), (0, x2)]) (c1 := (7, [(18, 130), (0, x1), (0, x2)], [(18, 130)], m, XX)) (r2 := (1, (0, fM_isCell m x1 x2), m, XX)) (c2 := (7, [(18, 130), (0, x1), (0, x2)], [(0, fM_isCell m x1 x2), (18, 130)], m, XX)) rfl rfl (Go.mono (tM_isCell m x1 x2) (by decide)) rfl ?_
    refine T_if hD (c1 := (10, _, _, _, _)) (c2 := (14, _, _, _, _)) rfl (fun _ => ?_) (fun _ => ?_)
    · refine T_run hD 2 (c' := (42, [(18, 130), (0, x1), (0, x2)], [(0, 1), (18, 130)], m, XX)) rfl ?_
      exact tM_value_42 r m x1 x2 1 
    · refine T_run hD 3 (c' := (19, [(18, 130), (0, x1), (0, x2)], [(0, x2), (31, 133), (18, 130)], m, XX)) rfl ?_
      refine T_gd hD (c1 := (20, [(18, 130), (0, x1), (0, x2)], [(0, m 133 x2), (18, 130)], m, XX)) rfl (fun g2 => ?_)
      refine T_run hD 1 (c' := (21, [(18, 130), (0, x1), (0, x2)], [(0, 3), (0, m 133 x2), (18, 130)], m, XX)) rfl ?_
      refine T_if hD (c1 := (24, _, _, _, _)) (c2 := (28, _, _, _, _)) rfl (fun _ => ?_) (fun _ => ?_)
      · refine T_run hD 2 (c' := (42, [(18, 130), (0, x1), (0, x2)], [(0, 2), (18, 130)], m, XX)) rfl ?_
        exact tM_value_42 r m x1 x2 2 
      · refine T_run hD 3 (c' := (31, [(18, 130), (0, x1), (0, x2)], [(0, x2), (0, x1), (18, 130), (18, 130)], m, XX)) rfl ?_
        refine T_call hD (D2 := d_M_isNone) (q2 := 37) (as := [(18, 130), (0, x1), (0, x2)]) (c1 := (34, [(18, 130), (0, x1), (0, x2)], [(18, 130)], m, XX)) (mk := fun w => (1, (0, w), m, XX)) (cc := fun v3 => (34, [(18, 130), (0, x1), (0, x2)], [(0, v3), (18, 130)], m, XX)) rfl rfl (fun y9 h9y => Go.mono (tM_isNone m x1 x2 y9 h9y) (by decide)) (fun _ => rfl) (fun v3 => ?_)
        refine T_if hD (c1 := (41, _, _, _, _)) (c2 := (37, _, _, _, _)) rfl (fun _ => ?_) (fun _ => ?_)
        · refine T_run hD 1 (c' := (42, [(18, 130), (0, x1), (0, x2)], [(0, 0), (18, 130)], m, XX)) rfl ?_
          exact tM_value_42 r m x1 x2 0 
        · refine T_run hD 2 (c' := (42, [(18, 130), (0, x1), (0, x2)], [(0, 3), (18, 130)], m, XX)) rfl ?_
          exact tM_value_42 r m x1 x2 3 
  rw [← hr]
  exact h9 v hv hr
def fM_passMark_100 (m : aM) (x4 : Int) (s1 : Int) : Option aM :=
  if x4 = 0 then
    some (mup (mup m 130 22 s1) 130 21 (w32 ((m 130 21) + 1)))
  else
    some (mup (mup m 130 22 s1) 130 21 (w32 ((m 130 21) + 2)))
set_option maxRecDepth 100000 in
theorem tM_passMark_100 (r : aR) (m : aM) (x4 : Int) (s1 : Int) (z1 : aV) (z2 : aV) (z3 : aV) : aT PB 1 49 r (fun w => r = (0, (0, 0), w, XX)) (fM_passMark_100 m x4 s1) (100, [(18, 130), z1, z2, z3, (0, x4)], [(0, s1), (18, 130)], m, XX) := by
  have hD : aMd PB 49 = d_M_passMark := rfl
  unfold fM_passMark_100
  refine T_run hD 3 (c' := (106, [(18, 130), z1, z2, z3, (0, x4)], [(0, x4), (18, 130)], mup m 130 22 s1, XX)) rfl ?_
  refine T_if hD (c1 := (118, _, _, _, _)) (c2 := (109, _, _, _, _)) rfl (fun _ => ?_) (fun _ => ?_)
  · refine T_run hD 5 (c' := (127, [(18, 130), z1, z2, z3, (0, x4)], [], mup (mup m 130 22 s1) 130 21 (w32 ((m 130 21) + 1)), XX)) rfl ?_
    exact T_fin hD rfl (fun h => h)
  · refine T_run hD 6 (c' := (127, [(18, 130), z1, z2, z3, (0, x4)], [], mup (mup m 130 22 s1) 130 21 (w32 ((m 130 21) + 2)), XX)) rfl ?_
    exact T_fin hD rfl (fun h => h)
def fM_passMark_61 (m : aM) (x1 : Int) (s0 : Int) : Option aM :=
  if x1 = 40 then
    fM_passMark_100 m s0 5
  else
    if x1 = 41 then
      fM_passMark_100 m s0 5
    else
      if x1 = 61 then
        fM_passMark_100 m s0 5
      else
        if x1 = 60 then
          fM_passMark_100 m s0 5
        else
          if x1 = 62 then
            fM_passMark_100 m s0 5
          else
            fM_passMark_100 m s0 6
set_option maxRecDepth 100000 in
theorem tM_passMark_61 (r : aR) (m : aM) (x1 : Int) (s0 : Int) (z2 : aV) (z3 : aV) (z4 : aV) : aT PB 1 49 r (fun w => r = (0, (0, 0), w, XX)) (fM_passMark_61 m x1 s0) (61, [(18, 130), (0, x1), z2, z3, z4], [(0, s0)], m, XX) := by
  have hD : aMd PB 49 = d_M_passMark := rfl
  unfold fM_passMark_61
  refine T_run hD 4 (c' := (67, [(18, 130), (0, x1), z2, aJ z3, (0, s0)], [(0, 40), (0, x1), (18, 130)], m, XX)) rfl ?_
  refine T_if hD (c1 := (94, _, _, _, _)) (c2 := (70, _, _, _, _)) rfl (fun _ => ?_) (fun _ => ?_)
  · refine T_run hD 2 (c' := (100, [(18, 130), (0, x1), z2, aJ z3, (0, s0)], [(0, 5), (18, 130)], m, XX)) rfl ?_
    exact tM_passMark_100 r m s0 5 (0, x1) z2 (aJ z3)
  · refine T_run hD 2 (c' := (73, [(18, 130), (0, x1), z2, aJ z3, (0, s0)], [(0, 41), (0, x1), (18, 130)], m, XX)) rfl ?_
    refine T_if hD (c1 := (94, _, _, _, _)) (c2 := (76, _, _, _, _)) rfl (fun _ => ?_) (fun _ => ?_)
    · refine T_run hD 2 (c' := (100, [(18, 130), (0, x1), z2, aJ z3, (0, s0)], [(0, 5), (18, 130)], m, XX)) rfl ?_
      exact tM_passMark_100 r m s0 5 (0, x1) z2 (aJ z3)
    · refine T_run hD 2 (c' := (79, [(18, 130), (0, x1), z2, aJ z3, (0, s0)], [(0, 61), (0, x1), (18, 130)], m, XX)) rfl ?_
      refine T_if hD (c1 := (94, _, _, _, _)) (c2 := (82, _, _, _, _)) rfl (fun _ => ?_) (fun _ => ?_)
      · refine T_run hD 2 (c' := (100, [(18, 130), (0, x1), z2, aJ z3, (0, s0)], [(0, 5), (18, 130)], m, XX)) rfl ?_
        exact tM_passMark_100 r m s0 5 (0, x1) z2 (aJ z3)
      · refine T_run hD 2 (c' := (85, [(18, 130), (0, x1), z2, aJ z3, (0, s0)], [(0, 60), (0, x1), (18, 130)], m, XX)) rfl ?_
        refine T_if hD (c1 := (94, _, _, _, _)) (c2 := (88, _, _, _, _)) rfl (fun _ => ?_) (fun _ => ?_)
        · refine T_run hD 2 (c' := (100, [(18, 130), (0, x1), z2, aJ z3, (0, s0)], [(0, 5), (18, 130)], m, XX)) rfl ?_
          exact tM_passMark_100 r m s0 5 (0, x1) z2 (aJ z3)
        · refine T_run hD 2 (c' := (91, [(18, 130), (0, x1), z2, aJ z3, (0, s0)], [(0, 62), (0, x1), (18, 130)], m, XX)) rfl ?_
          refine T_if hD (c1 := (94, _, _, _, _)) (c2 := (98, _, _, _, _)) rfl (fun _ => ?_) (fun _ => ?_)
          · refine T_run hD 2 (c' := (100, [(18, 130), (0, x1), z2, aJ z3, (0, s0)], [(0, 5), (18, 130)], m, XX)) rfl ?_
            exact tM_passMark_100 r m s0 5 (0, x1) z2 (aJ z3)
          · refine T_run hD 1 (c' := (100, [(18, 130), (0, x1), z2, aJ z3, (0, s0)], [(0, 6), (18, 130)], m, XX)) rfl ?_
            exact tM_passMark_100 r m s0 6 (0, x1) z2 (aJ z3)
def fM_passMark_44 (m : aM) (x1 : Int) (x3 : Int) : Option aM :=
  if x1 = 62 then
    if x3 = 61 then
      fM_passMark_61 m x1 1
    else
      fM_passMark_61 m x1 0
  else
    fM_passMark_61 m x1 0
set_option maxRecDepth 100000 in
theorem tM_passMark_44 (r : aR) (m : aM) (x1 : Int) (x3 : Int) (z2 : aV) (z4 : aV) : aT PB 1 49 r (fun w => r = (0, (0, 0), w, XX)) (fM_passMark_44 m x1 x3) (44, [(18, 130), (0, x1), z2, (0, x3), z4], [], m, XX) := by
  have hD : aMd PB 49 = d_M_passMark := rfl
  unfold fM_passMark_44
  refine T_run hD 2 (c' := (47, [(18, 130), (0, x1), z2, (0, x3), z4], [(0, 62), (0, x1)], m, XX)) rfl ?_
  refine T_if hD (c1 := (50, _, _, _, _)) (c2 := (60, _, _, _, _)) rfl (fun _ => ?_) (fun _ => ?_)
  · refine T_run hD 2 (c' := (53, [(18, 130), (0, x1), z2, (0, x3), z4], [(0, 61), (0, x3)], m, XX)) rfl ?_
    refine T_if hD (c1 := (56, _, _, _, _)) (c2 := (60, _, _, _, _)) rfl (fun _ => ?_) (fun _ => ?_)
    · refine T_run hD 2 (c' := (61, [(18, 130), (0, x1), z2, (0, x3), z4], [(0, 1)], m, XX)) rfl ?_
      exact tM_passMark_61 r m x1 1 z2 (0, x3) z4
    · refine T_run hD 1 (c' := (61, [(18, 130), (0, x1), z2, (0, x3), z4], [(0, 0)], m, XX)) rfl ?_
      exact tM_passMark_61 r m x1 0 z2 (0, x3) z4
  · refine T_run hD 1 (c' := (61, [(18, 130), (0, x1), z2, (0, x3), z4], [(0, 0)], m, XX)) rfl ?_
    exact tM_passMark_61 r m x1 0 z2 (0, x3) z4
def fM_passMark_25 (m : aM) (x1 : Int) (s0 : Int) : Option aM :=
  if x1 = 60 then
    if s0 = 62 then
      fM_passMark_61 m x1 1
    else
      if s0 = 61 then
        fM_passMark_61 m x1 1
      else
        fM_passMark_44 m x1 s0
  else
    fM_passMark_44 m x1 s0
set_option maxRecDepth 100000 in
theorem tM_passMark_25 (r : aR) (m : aM) (x1 : Int) (s0 : Int) (z2 : aV) (z3 : aV) (z4 : aV) : aT PB 1 49 r (fun w => r = (0, (0, 0), w, XX)) (fM_passMark_25 m x1 s0) (25, [(18, 130), (0, x1), z2, z3, z4], [(0, s0)], m, XX) := by
  have hD : aMd PB 49 = d_M_passMark := rfl
  unfold fM_passMark_25
  refine T_run hD 3 (c' := (29, [(18, 130), (0, x1), aJ z2, (0, s0), z4], [(0, 60), (0, x1)], m, XX)) rfl ?_
  refine T_if hD (c1 := (32, _, _, _, _)) (c2 := (44, _, _, _, _)) rfl (fun _ => ?_) (fun _ => ?_)
  · refine T_run hD 2 (c' := (35, [(18, 130), (0, x1), aJ z2, (0, s0), z4], [(0, 62), (0, s0)], m, XX)) rfl ?_
    refine T_if hD (c1 := (56, _, _, _, _)) (c2 := (38, _, _, _, _)) rfl (fun _ => ?_) (fun _ => ?_)
    · refine T_run hD 2 (c' := (61, [(18, 130), (0, x1), aJ z2, (0, s0), z4], [(0, 1)], m, XX)) rfl ?_
      exact tM_passMark_61 r m x1 1 (aJ z2) (0, s0) z4
    · refine T_run hD 2 (c' := (41, [(18, 130), (0, x1), aJ z2, (0, s0), z4], [(0, 61), (0, s0)], m, XX)) rfl ?_
      refine T_if hD (c1 := (56, _, _, _, _)) (c2 := (44, _, _, _, _)) rfl (fun _ => ?_) (fun _ => ?_)
      · refine T_run hD 2 (c' := (61, [(18, 130), (0, x1), aJ z2, (0, s0), z4], [(0, 1)], m, XX)) rfl ?_
        exact tM_passMark_61 r m x1 1 (aJ z2) (0, s0) z4
      · exact tM_passMark_44 r m x1 s0 (aJ z2) z4
  · exact tM_passMark_44 r m x1 s0 (aJ z2) z4
def fM_passMark (m : aM) (x1 : Int) (x2 : Int) : Option aM :=
  if w32 ((m 130 21) + 1) < x2 then
    gd (0 ≤ w32 ((m 130 21) + 1) ∧ w32 ((m 130 21) + 1) < 600) (
    fM_passMark_25 m x1 (m 131 (w32 ((m 130 21) + 1))))
  else
    fM_passMark_25 m x1 0
set_option maxRecDepth 100000 in
theorem tM_passMark (m : aM) (x1 : Int) (x2 : Int) : ∀ v, fM_passMark m x1 x2 = some v → Go PB 1 49 (aEnt d_M_passMark [(18, 130), (0, x1), (0, x2)] m XX) (0, (0, 0), v, XX) := by
  intro v hv
  have hD : aMd PB 49 = d_M_passMark := rfl
  obtain ⟨r, hr⟩ : ∃ r : aR, r = (0, (0, 0), v, XX) := ⟨_, rfl⟩
  have h9 : aT PB 1 49 r (fun w => r = (0, (0, 0), w, XX)) (fM_passMark m x1 x2) (0, [(18, 130), (0, x1), (0, x2), (99, 0), (99, 0)], [], m, XX) := by
    unfold fM_passMark
    refine T_run hD 5 (c' := (7, [(18, 130), (0, x1), (0, x2), (99, 0), (99, 0)], [(0, x2), (0, w32 ((m 130 21) + 1))], m, XX)) rfl ?_
    refine T_if hD (c1 := (10, _, _, _, _)) (c2 := (24, _, _, _, _)) rfl (fun _ => ?_) (fun _ => ?_)
    · refine T_run hD 6 (c' := (20, [(18, 130), (0, x1), (0, x2), (99, 0), (99, 0)], [(0, w32 ((m 130 21) + 1)), (31, 131)], m, XX)) rfl ?_
      refine T_gd hD (c1 := (21, [(18, 130), (0, x1), (0, x2), (99, 0), (99, 0)], [(0, m 131 (w32 ((m 130 21) + 1)))], m, XX)) rfl (fun g1 => ?_)
      refine T_run hD 1 (c' := (25, [(18, 130), (0, x1), (0, x2), (99, 0), (99, 0)], [(0, m 131 (w32 ((m 130 21) + 1)))], m, XX)) rfl ?_
      exact tM_passMark_25 r m x1 (m 131 (w32 ((m 130 21) + 1))) (0, x2) (99, 0) (99, 0)
    · refine T_run hD 1 (c' := (25, [(18, 130), (0, x1), (0, x2), (99, 0), (99, 0)], [(0, 0)], m, XX)) rfl ?_
      exact tM_passMark_25 r m x1 0 (0, x2) (99, 0) (99, 0)
  rw [← hr]
  exact h9 v hv hr
abbrev hM_next_9 (x1 : Int) : (aM) → aC → Prop := fun y c => ∃ (z2 : aV), c = (9, [(18, 130), (0, x1), z2], [], (y), XX)
abbrev hM_next_91 (x1 : Int) : (aM) → aC → Prop := fun y c => ∃ (z2 : aV), c = (91, [(18, 130), (0, x1), z2], [], (y), XX)
abbrev hM_next_140 (x1 : Int) : (aM) → aC → Prop := fun y c => ∃ (z2 : aV), c = (140, [(18, 130), (0, x1), z2], [], (y), XX)
abbrev hM_next_253 (x1 : Int) : (aM) → aC → Prop := fun y c => ∃ (z2 : aV), c = (253, [(18, 130), (0, x1), z2], [], (y), XX)
def fM_next_190 (m : aM) : Option aM :=
  (fM_isWhole m (m 130 23) (m 130 21)).bind fun v4 =>
  if v4.1 = 0 then
    (fM_isDate v4.2 (v4.2 130 23) (v4.2 130 21)).bind fun v5 =>
    if v5.1 = 0 then
      some (mup (mup v5.2 130 22 6) 130 24 (v5.2 130 21))
    else
      some (mup (mup v5.2 130 22 3) 130 24 (v5.2 130 21))
  else
    some (mup (mup v4.2 130 22 2) 130 24 (v4.2 130 21))
set_option maxRecDepth 100000 in
theorem tM_next_190 (r : aR) (m : aM) (z1 : aV) (z2 : aV) : aT PB 4 48 r (fun w => r = (0, (0, 0), w, XX)) (fM_next_190 m) (190, [(18, 130), z1, z2], [], m, XX) := by
  have hD : aMd PB 48 = d_M_next := rfl
  unfold fM_next_190
  refine T_run hD 6 (c' := (200, [(18, 130), z1, z2], [(0, m 130 21), (0, m 130 23), (18, 130), (18, 130)], m, XX)) rfl ?_
  refine T_call hD (D2 := d_M_isWhole) (q2 := 26) (as := [(18, 130), (0, m 130 23), (0, m 130 21)]) (c1 := (203, [(18, 130), z1, z2], [(18, 130)], m, XX)) (mk := fun w => (1, (0, w.1), w.2, XX)) (cc := fun v4 => (203, [(18, 130), z1, z2], [(0, v4.1), (18, 130)], v4.2, XX)) rfl rfl (fun y9 h9y => Go.mono (tM_isWhole m (m 130 23) (m 130 21) y9 h9y) (by decide)) (fun _ => rfl) (fun v4 => ?_)
  refine T_if hD (c1 := (210, _, _, _, _)) (c2 := (206, _, _, _, _)) rfl (fun _ => ?_) (fun _ => ?_)
  · refine T_run hD 5 (c' := (219, [(18, 130), z1, z2], [(0, v4.2 130 21), (0, v4.2 130 23), (18, 130), (18, 130)], v4.2, XX)) rfl ?_
    refine T_call hD (D2 := d_M_isDate) (q2 := 28) (as := [(18, 130), (0, v4.2 130 23), (0, v4.2 130 21)]) (c1 := (222, [(18, 130), z1, z2], [(18, 130)], v4.2, XX)) (mk := fun w => (1, (0, w.1), w.2, XX)) (cc := fun v5 => (222, [(18, 130), z1, z2], [(0, v5.1), (18, 130)], v5.2, XX)) rfl rfl (fun y9 h9y => Go.mono (tM_isDate v4.2 (v4.2 130 23) (v4.2 130 21) y9 h9y) (by decide)) (fun _ => rfl) (fun v5 => ?_)
    refine T_if hD (c1 := (229, _, _, _, _)) (c2 := (225, _, _, _, _)) rfl (fun _ => ?_) (fun _ => ?_)
    · refine T_run hD 7 (c' := (341, [(18, 130), z1, z2], [], mup (mup v5.2 130 22 6) 130 24 (v5.2 130 21), XX)) rfl ?_
      exact T_fin hD rfl (fun h => h)
    · refine T_run hD 8 (c' := (341, [(18, 130), z1, z2], [], mup (mup v5.2 130 22 3) 130 24 (v5.2 130 21), XX)) rfl ?_
      exact T_fin hD rfl (fun h => h)
  · refine T_run hD 8 (c' := (341, [(18, 130), z1, z2], [], mup (mup v4.2 130 22 2) 130 24 (v4.2 130 21), XX)) rfl ?_
    exact T_fin hD rfl (fun h => h)
def fM_next_140_b (x1 : Int) : (aM) → Option ((aM) ⊕ aM) := fun (m) =>
  if m 130 21 < x1 then
    gd (0 ≤ m 130 21 ∧ m 130 21 < 600) (
    if fM_isDigit (m 131 (m 130 21)) = 0 then
      if m 131 (m 130 21) = 45 then
        some (Sum.inl (mup m 130 21 (w32 ((m 130 21) + 1))))
      else
        (fM_next_190 m).map Sum.inr
    else
      some (Sum.inl (mup m 130 21 (w32 ((m 130 21) + 1)))))
  else
    (fM_next_190 m).map Sum.inr
def fM_next_140 (m : aM) (x1 : Int) : Option aM := aLoop (fM_next_140_b x1) FU (m)
set_option maxRecDepth 100000 in
theorem tM_next_140 (r : aR) (m : aM) (x1 : Int) (z2 : aV) : aT PB 4 48 r (fun w => r = (0, (0, 0), w, XX)) (fM_next_140 m x1) (140, [(18, 130), (0, x1), z2], [], m, XX) := by
  have hD : aMd PB 48 = d_M_next := rfl
  refine T_loop (Hd := (hM_next_140 x1)) ?_ FU _ _ ⟨z2, rfl⟩
  clear m z2
  intro m c hc
  obtain ⟨z2, rfl⟩ := hc
  unfold fM_next_140_b
  try dsimp only
  refine T_run hD 3 (c' := (145, [(18, 130), (0, x1), z2], [(0, x1), (0, m 130 21)], m, XX)) rfl ?_
  refine T_if hD (c1 := (148, _, _, _, _)) (c2 := (190, _, _, _, _)) rfl (fun _ => ?_) (fun _ => ?_)
  · refine T_run hD 4 (c' := (156, [(18, 130), (0, x1), z2], [(0, m 130 21), (31, 131)], m, XX)) rfl ?_
    refine T_gd hD (c1 := (157, [(18, 130), (0, x1), z2], [(0, m 131 (m 130 21))], m, XX)) rfl (fun g3 => ?_)
    refine T_call0 hD (D2 := d_M_isDigit) (q2 := 24) (as := [(0, m 131 (m 130 21))]) (c1 := (160, [(18, 130), (0, x1), z2], [], m, XX)) (r2 := (1, (0, fM_isDigit (m 131 (m 130 21))), m, XX)) (c2 := (160, [(18, 130), (0, x1), z2], [(0, fM_isDigit (m 131 (m 130 21)))], m, XX)) rfl rfl (Go.mono (tM_isDigit m (m 131 (m 130 21))) (by decide)) rfl ?_
    refine T_if hD (c1 := (163, _, _, _, _)) (c2 := (177, _, _, _, _)) rfl (fun _ => ?_) (fun _ => ?_)
    · refine T_run hD 4 (c' := (171, [(18, 130), (0, x1), z2], [(0, m 130 21), (31, 131)], m, XX)) rfl ?_
      refine T_gk hD (c1 := (172, [(18, 130), (0, x1), z2], [(0, m 131 (m 130 21))], m, XX)) (P := 0 ≤ m 130 21 ∧ m 130 21 < 600) rfl g3 ?_
      refine T_run hD 1 (c' := (174, [(18, 130), (0, x1), z2], [(0, 45), (0, m 131 (m 130 21))], m, XX)) rfl ?_
      refine T_if hD (c1 := (177, _, _, _, _)) (c2 := (190, _, _, _, _)) rfl (fun _ => ?_) (fun _ => ?_)
      · refine T_run hD 7 (c' := (140, [(18, 130), (0, x1), z2], [], mup m 130 21 (w32 ((m 130 21) + 1)), XX)) rfl ?_
        exact T_back0 ⟨_, rfl⟩
      · exact T_map (tM_next_190 r m  (0, x1) z2)
    · refine T_run hD 7 (c' := (140, [(18, 130), (0, x1), z2], [], mup m 130 21 (w32 ((m 130 21) + 1)), XX)) rfl ?_
      exact T_back0 ⟨_, rfl⟩
  · exact T_map (tM_next_190 r m  (0, x1) z2)
def fM_next_288 (m : aM) (x1 : Int) : Option aM :=
  if m 130 21 < x1 then
    some (mup (mup (mup m 130 22 4) 130 21 (w32 ((m 130 21) + 1))) 130 24 (w32 ((m 130 21) + 1)))
  else
    some (mup (mup (mup m 130 22 6) 130 21 (w32 ((m 130 21) + 1))) 130 24 (w32 ((m 130 21) + 1)))
set_option maxRecDepth 100000 in
theorem tM_next_288 (r : aR) (m : aM) (x1 : Int) (z2 : aV) : aT PB 4 48 r (fun w => r = (0, (0, 0), w, XX)) (fM_next_288 m x1) (288, [(18, 130), (0, x1), z2], [], m, XX) := by
  have hD : aMd PB 48 = d_M_next := rfl
  unfold fM_next_288
  refine T_run hD 4 (c' := (294, [(18, 130), (0, x1), z2], [(0, x1), (0, m 130 21), (18, 130)], m, XX)) rfl ?_
  refine T_if hD (c1 := (297, _, _, _, _)) (c2 := (301, _, _, _, _)) rfl (fun _ => ?_) (fun _ => ?_)
  · refine T_run hD 14 (c' := (341, [(18, 130), (0, x1), z2], [], mup (mup (mup m 130 22 4) 130 21 (w32 ((m 130 21) + 1))) 130 24 (w32 ((m 130 21) + 1)), XX)) rfl ?_
    exact T_fin hD rfl (fun h => h)
  · refine T_run hD 13 (c' := (341, [(18, 130), (0, x1), z2], [], mup (mup (mup m 130 22 6) 130 21 (w32 ((m 130 21) + 1))) 130 24 (w32 ((m 130 21) + 1)), XX)) rfl ?_
    exact T_fin hD rfl (fun h => h)
def fM_next_253_b (x1 : Int) : (aM) → Option ((aM) ⊕ aM) := fun (m) =>
  if m 130 21 < x1 then
    gd (0 ≤ m 130 21 ∧ m 130 21 < 600) (
    if m 131 (m 130 21) = 39 then
      (fM_next_288 m x1).map Sum.inr
    else
      some (Sum.inl (mup m 130 21 (w32 ((m 130 21) + 1)))))
  else
    (fM_next_288 m x1).map Sum.inr
def fM_next_253 (m : aM) (x1 : Int) : Option aM := aLoop (fM_next_253_b x1) FU (m)
set_option maxRecDepth 100000 in
theorem tM_next_253 (r : aR) (m : aM) (x1 : Int) (z2 : aV) : aT PB 4 48 r (fun w => r = (0, (0, 0), w, XX)) (fM_next_253 m x1) (253, [(18, 130), (0, x1), z2], [], m, XX) := by
  have hD : aMd PB 48 = d_M_next := rfl
  refine T_loop (Hd := (hM_next_253 x1)) ?_ FU _ _ ⟨z2, rfl⟩
  clear m z2
  intro m c hc
  obtain ⟨z2, rfl⟩ := hc
  unfold fM_next_253_b
  try dsimp only
  refine T_run hD 3 (c' := (258, [(18, 130), (0, x1), z2], [(0, x1), (0, m 130 21)], m, XX)) rfl ?_
  refine T_if hD (c1 := (261, _, _, _, _)) (c2 := (288, _, _, _, _)) rfl (fun _ => ?_) (fun _ => ?_)
  · refine T_run hD 4 (c' := (269, [(18, 130), (0, x1), z2], [(0, m 130 21), (31, 131)], m, XX)) rfl ?_
    refine T_gd hD (c1 := (270, [(18, 130), (0, x1), z2], [(0, m 131 (m 130 21))], m, XX)) rfl (fun g6 => ?_)
    refine T_run hD 1 (c' := (272, [(18, 130), (0, x1), z2], [(0, 39), (0, m 131 (m 130 21))], m, XX)) rfl ?_
    refine T_if hD (c1 := (288, _, _, _, _)) (c2 := (275, _, _, _, _)) rfl (fun _ => ?_) (fun _ => ?_)
    · exact T_map (tM_next_288 r m x1 z2)
    · refine T_run hD 7 (c' := (253, [(18, 130), (0, x1), z2], [], mup m 130 21 (w32 ((m 130 21) + 1)), XX)) rfl ?_
      exact T_back0 ⟨_, rfl⟩
  · exact T_map (tM_next_288 r m x1 z2)
def fM_next_91_b (x1 : Int) : (aM) → Option ((aM) ⊕ aM) := fun (m) =>
  if m 130 21 < x1 then
    gd (0 ≤ m 130 21 ∧ m 130 21 < 600) (
    if fM_isLetter (m 131 (m 130 21)) = 0 then
      some (Sum.inr (mup m 130 24 (m 130 21)))
    else
      some (Sum.inl (mup m 130 21 (w32 ((m 130 21) + 1)))))
  else
    some (Sum.inr (mup m 130 24 (m 130 21)))
def fM_next_91 (m : aM) (x1 : Int) : Option aM := aLoop (fM_next_91_b x1) FU (m)
set_option maxRecDepth 100000 in
theorem tM_next_91 (r : aR) (m : aM) (x1 : Int) (z2 : aV) : aT PB 4 48 r (fun w => r = (0, (0, 0), w, XX)) (fM_next_91 m x1) (91, [(18, 130), (0, x1), z2], [], m, XX) := by
  have hD : aMd PB 48 = d_M_next := rfl
  refine T_loop (Hd := (hM_next_91 x1)) ?_ FU _ _ ⟨z2, rfl⟩
  clear m z2
  intro m c hc
  obtain ⟨z2, rfl⟩ := hc
  unfold fM_next_91_b
  try dsimp only
  refine T_run hD 3 (c' := (96, [(18, 130), (0, x1), z2], [(0, x1), (0, m 130 21)], m, XX)) rfl ?_
  refine T_if hD (c1 := (99, _, _, _, _)) (c2 := (333, _, _, _, _)) rfl (fun _ => ?_) (fun _ => ?_)
  · refine T_run hD 4 (c' := (107, [(18, 130), (0, x1), z2], [(0, m 130 21), (31, 131)], m, XX)) rfl ?_
    refine T_gd hD (c1 := (108, [(18, 130), (0, x1), z2], [(0, m 131 (m 130 21))], m, XX)) rfl (fun g8 => ?_)
    refine T_call0 hD (D2 := d_M_isLetter) (q2 := 25) (as := [(0, m 131 (m 130 21))]) (c1 := (111, [(18, 130), (0, x1), z2], [], m, XX)) (r2 := (1, (0, fM_isLetter (m 131 (m 130 21))), m, XX)) (c2 := (111, [(18, 130), (0, x1), z2], [(0, fM_isLetter (m 131 (m 130 21)))], m, XX)) rfl rfl (Go.mono (tM_isLetter m (m 131 (m 130 21))) (by decide)) rfl ?_
    refine T_if hD (c1 := (333, _, _, _, _)) (c2 := (114, _, _, _, _)) rfl (fun _ => ?_) (fun _ => ?_)
    · refine T_run hD 4 (c' := (341, [(18, 130), (0, x1), z2], [], mup m 130 24 (m 130 21), XX)) rfl ?_
      exact T_fin hD rfl (fun h => h)
    · refine T_run hD 7 (c' := (91, [(18, 130), (0, x1), z2], [], mup m 130 21 (w32 ((m 130 21) + 1)), XX)) rfl ?_
      exact T_back0 ⟨_, rfl⟩
  · refine T_run hD 4 (c' := (341, [(18, 130), (0, x1), z2], [], mup m 130 24 (m 130 21), XX)) rfl ?_
    exact T_fin hD rfl (fun h => h)
def fM_next_73 (m : aM) (x1 : Int) (s0 : Int) : Option aM :=
  if fM_isLetter s0 = 0 then
    if fM_isDigit s0 = 0 then
      if s0 = 45 then
        fM_next_140 (mup m 130 22 0) x1
      else
        if s0 = 39 then
          fM_next_253 (mup (mup m 130 22 0) 130 21 (w32 ((m 130 21) + 1))) x1
        else
          if m 130 21 < x1 then
            (fM_passMark (mup m 130 22 0) s0 x1).bind fun v7 =>
            some (mup v7 130 24 (v7 130 21))
          else
            some (mup (mup m 130 22 0) 130 24 (m 130 21))
    else
      fM_next_140 (mup m 130 22 0) x1
  else
    fM_next_91 (mup (mup m 130 22 0) 130 22 1) x1
set_option maxRecDepth 100000 in
theorem tM_next_73 (r : aR) (m : aM) (x1 : Int) (s0 : Int) (z2 : aV) : aT PB 4 48 r (fun w => r = (0, (0, 0), w, XX)) (fM_next_73 m x1 s0) (73, [(18, 130), (0, x1), z2], [(0, s0)], m, XX) := by
  have hD : aMd PB 48 = d_M_next := rfl
  unfold fM_next_73
  refine T_run hD 5 (c' := (80, [(18, 130), (0, x1), (0, s0)], [(0, s0)], mup m 130 22 0, XX)) rfl ?_
  refine T_call0 hD (D2 := d_M_isLetter) (q2 := 25) (as := [(0, s0)]) (c1 := (83, [(18, 130), (0, x1), (0, s0)], [], mup m 130 22 0, XX)) (r2 := (1, (0, fM_isLetter s0), mup m 130 22 0, XX)) (c2 := (83, [(18, 130), (0, x1), (0, s0)], [(0, fM_isLetter s0)], mup m 130 22 0, XX)) rfl rfl (Go.mono (tM_isLetter (mup m 130 22 0) s0) (by decide)) rfl ?_
  refine T_if hD (c1 := (127, _, _, _, _)) (c2 := (86, _, _, _, _)) rfl (fun _ => ?_) (fun _ => ?_)
  · refine T_run hD 1 (c' := (128, [(18, 130), (0, x1), (0, s0)], [(0, s0)], mup m 130 22 0, XX)) rfl ?_
    refine T_call0 hD (D2 := d_M_isDigit) (q2 := 24) (as := [(0, s0)]) (c1 := (131, [(18, 130), (0, x1), (0, s0)], [], mup m 130 22 0, XX)) (r2 := (1, (0, fM_isDigit s0), mup m 130 22 0, XX)) (c2 := (131, [(18, 130), (0, x1), (0, s0)], [(0, fM_isDigit s0)], mup m 130 22 0, XX)) rfl rfl (Go.mono (tM_isDigit (mup m 130 22 0) s0) (by decide)) rfl ?_
    refine T_if hD (c1 := (134, _, _, _, _)) (c2 := (140, _, _, _, _)) rfl (fun _ => ?_) (fun _ => ?_)
    · refine T_run hD 2 (c' := (137, [(18, 130), (0, x1), (0, s0)], [(0, 45), (0, s0)], mup m 130 22 0, XX)) rfl ?_
      refine T_if hD (c1 := (140, _, _, _, _)) (c2 := (237, _, _, _, _)) rfl (fun _ => ?_) (fun _ => ?_)
      · exact tM_next_140 r (mup m 130 22 0) x1 (0, s0)
      · refine T_run hD 2 (c' := (240, [(18, 130), (0, x1), (0, s0)], [(0, 39), (0, s0)], mup m 130 22 0, XX)) rfl ?_
        refine T_if hD (c1 := (243, _, _, _, _)) (c2 := (319, _, _, _, _)) rfl (fun _ => ?_) (fun _ => ?_)
        · refine T_run hD 6 (c' := (253, [(18, 130), (0, x1), (0, s0)], [], mup (mup m 130 22 0) 130 21 (w32 ((m 130 21) + 1)), XX)) rfl ?_
          exact tM_next_253 r (mup (mup m 130 22 0) 130 21 (w32 ((m 130 21) + 1))) x1 (0, s0)
        · refine T_run hD 3 (c' := (324, [(18, 130), (0, x1), (0, s0)], [(0, x1), (0, m 130 21)], mup m 130 22 0, XX)) rfl ?_
          refine T_if hD (c1 := (327, _, _, _, _)) (c2 := (333, _, _, _, _)) rfl (fun _ => ?_) (fun _ => ?_)
          · refine T_run hD 3 (c' := (330, [(18, 130), (0, x1), (0, s0)], [(0, x1), (0, s0), (18, 130)], mup m 130 22 0, XX)) rfl ?_
            refine T_call hD (D2 := d_M_passMark) (q2 := 49) (as := [(18, 130), (0, s0), (0, x1)]) (c1 := (333, [(18, 130), (0, x1), (0, s0)], [], mup m 130 22 0, XX)) (mk := fun w => (0, (0, 0), w, XX)) (cc := fun v7 => (333, [(18, 130), (0, x1), (0, s0)], [], v7, XX)) rfl rfl (fun y9 h9y => Go.mono (tM_passMark (mup m 130 22 0) s0 x1 y9 h9y) (by decide)) (fun _ => rfl) (fun v7 => ?_)
            refine T_run hD 4 (c' := (341, [(18, 130), (0, x1), (0, s0)], [], mup v7 130 24 (v7 130 21), XX)) rfl ?_
            exact T_fin hD rfl (fun h => h)
          · refine T_run hD 4 (c' := (341, [(18, 130), (0, x1), (0, s0)], [], mup (mup m 130 22 0) 130 24 (m 130 21), XX)) rfl ?_
            exact T_fin hD rfl (fun h => h)
    · exact tM_next_140 r (mup m 130 22 0) x1 (0, s0)
  · refine T_run hD 3 (c' := (91, [(18, 130), (0, x1), (0, s0)], [], mup (mup m 130 22 0) 130 22 1, XX)) rfl ?_
    exact tM_next_91 r (mup (mup m 130 22 0) 130 22 1) x1 (0, s0)
def fM_next_44 (m : aM) (x1 : Int) : Option aM :=
  if m 130 21 < x1 then
    gd (0 ≤ m 130 21 ∧ m 130 21 < 600) (
    fM_next_73 (mup m 130 23 (m 130 21)) x1 (m 131 (m 130 21)))
  else
    fM_next_73 (mup m 130 23 (m 130 21)) x1 0
set_option maxRecDepth 100000 in
theorem tM_next_44 (r : aR) (m : aM) (x1 : Int) (z2 : aV) : aT PB 4 48 r (fun w => r = (0, (0, 0), w, XX)) (fM_next_44 m x1) (44, [(18, 130), (0, x1), z2], [], m, XX) := by
  have hD : aMd PB 48 = d_M_next := rfl
  unfold fM_next_44
  refine T_run hD 7 (c' := (57, [(18, 130), (0, x1), z2], [(0, x1), (0, m 130 21)], mup m 130 23 (m 130 21), XX)) rfl ?_
  refine T_if hD (c1 := (60, _, _, _, _)) (c2 := (72, _, _, _, _)) rfl (fun _ => ?_) (fun _ => ?_)
  · refine T_run hD 4 (c' := (68, [(18, 130), (0, x1), z2], [(0, m 130 21), (31, 131)], mup m 130 23 (m 130 21), XX)) rfl ?_
    refine T_gd hD (c1 := (69, [(18, 130), (0, x1), z2], [(0, m 131 (m 130 21))], mup m 130 23 (m 130 21), XX)) rfl (fun g2 => ?_)
    refine T_run hD 1 (c' := (73, [(18, 130), (0, x1), z2], [(0, m 131 (m 130 21))], mup m 130 23 (m 130 21), XX)) rfl ?_
    exact tM_next_73 r (mup m 130 23 (m 130 21)) x1 (m 131 (m 130 21)) z2
  · refine T_run hD 1 (c' := (73, [(18, 130), (0, x1), z2], [(0, 0)], mup m 130 23 (m 130 21), XX)) rfl ?_
    exact tM_next_73 r (mup m 130 23 (m 130 21)) x1 0 z2
def fM_next_9_b (x1 : Int) : (aM) → Option ((aM) ⊕ aM) := fun (m) =>
  if m 130 21 < x1 then
    gd (0 ≤ m 130 21 ∧ m 130 21 < 600) (
    if m 131 (m 130 21) = 32 then
      some (Sum.inl (mup m 130 21 (w32 ((m 130 21) + 1))))
    else
      (fM_next_44 m x1).map Sum.inr)
  else
    (fM_next_44 m x1).map Sum.inr
def fM_next_9 (m : aM) (x1 : Int) : Option aM := aLoop (fM_next_9_b x1) FU (m)
set_option maxRecDepth 100000 in
theorem tM_next_9 (r : aR) (m : aM) (x1 : Int) (z2 : aV) : aT PB 4 48 r (fun w => r = (0, (0, 0), w, XX)) (fM_next_9 m x1) (9, [(18, 130), (0, x1), z2], [], m, XX) := by
  have hD : aMd PB 48 = d_M_next := rfl
  refine T_loop (Hd := (hM_next_9 x1)) ?_ FU _ _ ⟨z2, rfl⟩
  clear m z2
  intro m c hc
  obtain ⟨z2, rfl⟩ := hc
  unfold fM_next_9_b
  try dsimp only
  refine T_run hD 3 (c' := (14, [(18, 130), (0, x1), z2], [(0, x1), (0, m 130 21)], m, XX)) rfl ?_
  refine T_if hD (c1 := (17, _, _, _, _)) (c2 := (44, _, _, _, _)) rfl (fun _ => ?_) (fun _ => ?_)
  · refine T_run hD 4 (c' := (25, [(18, 130), (0, x1), z2], [(0, m 130 21), (31, 131)], m, XX)) rfl ?_
    refine T_gd hD (c1 := (26, [(18, 130), (0, x1), z2], [(0, m 131 (m 130 21))], m, XX)) rfl (fun g1 => ?_)
    refine T_run hD 1 (c' := (28, [(18, 130), (0, x1), z2], [(0, 32), (0, m 131 (m 130 21))], m, XX)) rfl ?_
    refine T_if hD (c1 := (31, _, _, _, _)) (c2 := (44, _, _, _, _)) rfl (fun _ => ?_) (fun _ => ?_)
    · refine T_run hD 7 (c' := (9, [(18, 130), (0, x1), z2], [], mup m 130 21 (w32 ((m 130 21) + 1)), XX)) rfl ?_
      exact T_back0 ⟨_, rfl⟩
    · exact T_map (tM_next_44 r m x1 z2)
  · exact T_map (tM_next_44 r m x1 z2)
def fM_next (m : aM) : Option aM :=
  fM_next_9 m (w32 (240 + (m 130 3)))
set_option maxRecDepth 100000 in
theorem tM_next (m : aM) : ∀ v, fM_next m = some v → Go PB 4 48 (aEnt d_M_next [(18, 130)] m XX) (0, (0, 0), v, XX) := by
  intro v hv
  have hD : aMd PB 48 = d_M_next := rfl
  obtain ⟨r, hr⟩ : ∃ r : aR, r = (0, (0, 0), v, XX) := ⟨_, rfl⟩
  have h9 : aT PB 4 48 r (fun w => r = (0, (0, 0), w, XX)) (fM_next m) (0, [(18, 130), (99, 0), (99, 0)], [], m, XX) := by
    unfold fM_next
    refine T_run hD 5 (c' := (9, [(18, 130), (0, w32 (240 + (m 130 3))), (99, 0)], [], m, XX)) rfl ?_
    exact tM_next_9 r m (w32 (240 + (m 130 3))) (99, 0)
  rw [← hr]
  exact h9 v hv hr
def fM_isWord (m : aM) (x1 : Int) : Option Int :=
  if m 130 22 = 1 then
    (fM_word m (m 130 23) (m 130 24)).bind fun v1 =>
    if cmp3 v1 x1 = 0 then
      some (1)
    else
      some (0)
  else
    some (0)
set_option maxRecDepth 100000 in
theorem tM_isWord (m : aM) (x1 : Int) : ∀ v, fM_isWord m x1 = some v → Go PB 2 50 (aEnt d_M_isWord [(18, 130), (1, x1)] m XX) (1, (0, v), m, XX) := by
  intro v hv
  have hD : aMd PB 50 = d_M_isWord := rfl
  obtain ⟨r, hr⟩ : ∃ r : aR, r = (1, (0, v), m, XX) := ⟨_, rfl⟩
  have h9 : aT PB 2 50 r (fun w => r = (1, (0, w), m, XX)) (fM_isWord m x1) (0, [(18, 130), (1, x1), (99, 0)], [], m, XX) := by
    unfold fM_isWord
    refine T_run hD 3 (c' := (5, [(18, 130), (1, x1), (99, 0)], [(0, 1), (0, m 130 22)], m, XX)) rfl ?_
    refine T_if hD (c1 := (8, _, _, _, _)) (c2 := (29, _, _, _, _)) rfl (fun _ => ?_) (fun _ => ?_)
    · refine T_run hD 5 (c' := (17, [(18, 130), (1, x1), (99, 0)], [(0, m 130 24), (0, m 130 23), (18, 130)], m, XX)) rfl ?_
      refine T_call hD (D2 := d_M_word) (q2 := 33) (as := [(18, 130), (0, m 130 23), (0, m 130 24)]) (c1 := (20, [(18, 130), (1, x1), (99, 0)], [], m, XX)) (mk := fun w => (1, (1, w), m, XX)) (cc := fun v1 => (20, [(18, 130), (1, x1), (99, 0)], [(1, v1)], m, XX)) rfl rfl (fun y9 h9y => Go.mono (tM_word m (m 130 23) (m 130 24) y9 h9y) (by decide)) (fun _ => rfl) (fun v1 => ?_)
      refine T_run hD 2 (c' := (22, [(18, 130), (1, x1), (99, 0)], [(0, cmp3 v1 x1)], m, XX)) rfl ?_
      refine T_if hD (c1 := (25, _, _, _, _)) (c2 := (29, _, _, _, _)) rfl (fun _ => ?_) (fun _ => ?_)
      · refine T_run hD 2 (c' := (30, [(18, 130), (1, x1), (99, 0)], [(0, 1)], m, XX)) rfl ?_
        exact T_fin hD rfl (fun h => h)
      · refine T_run hD 1 (c' := (30, [(18, 130), (1, x1), (99, 0)], [(0, 0)], m, XX)) rfl ?_
        exact T_fin hD rfl (fun h => h)
    · refine T_run hD 1 (c' := (30, [(18, 130), (1, x1), (99, 0)], [(0, 0)], m, XX)) rfl ?_
      exact T_fin hD rfl (fun h => h)
  rw [← hr]
  exact h9 v hv hr
def fM_isSign (m : aM) (x1 : Int) : Option Int :=
  if m 130 22 = 5 then
    if m 130 24 = w32 ((m 130 23) + 1) then
      gd (0 ≤ m 130 23 ∧ m 130 23 < 600) (
      if m 131 (m 130 23) = x1 then
        some (1)
      else
        some (0))
    else
      some (0)
  else
    some (0)
set_option maxRecDepth 100000 in
theorem tM_isSign (m : aM) (x1 : Int) : ∀ v, fM_isSign m x1 = some v → Go PB 1 51 (aEnt d_M_isSign [(18, 130), (0, x1)] m XX) (1, (0, v), m, XX) := by
  intro v hv
  have hD : aMd PB 51 = d_M_isSign := rfl
  obtain ⟨r, hr⟩ : ∃ r : aR, r = (1, (0, v), m, XX) := ⟨_, rfl⟩
  have h9 : aT PB 1 51 r (fun w => r = (1, (0, w), m, XX)) (fM_isSign m x1) (0, [(18, 130), (0, x1)], [], m, XX) := by
    unfold fM_isSign
    refine T_run hD 3 (c' := (5, [(18, 130), (0, x1)], [(0, 5), (0, m 130 22)], m, XX)) rfl ?_
    refine T_if hD (c1 := (8, _, _, _, _)) (c2 := (38, _, _, _, _)) rfl (fun _ => ?_) (fun _ => ?_)
    · refine T_run hD 6 (c' := (18, [(18, 130), (0, x1)], [(0, w32 ((m 130 23) + 1)), (0, m 130 24)], m, XX)) rfl ?_
      refine T_if hD (c1 := (21, _, _, _, _)) (c2 := (38, _, _, _, _)) rfl (fun _ => ?_) (fun _ => ?_)
      · refine T_run hD 4 (c' := (29, [(18, 130), (0, x1)], [(0, m 130 23), (31, 131)], m, XX)) rfl ?_
        refine T_gd hD (c1 := (30, [(18, 130), (0, x1)], [(0, m 131 (m 130 23))], m, XX)) rfl (fun g1 => ?_)
        refine T_run hD 1 (c' := (31, [(18, 130), (0, x1)], [(0, x1), (0, m 131 (m 130 23))], m, XX)) rfl ?_
        refine T_if hD (c1 := (34, _, _, _, _)) (c2 := (38, _, _, _, _)) rfl (fun _ => ?_) (fun _ => ?_)
        · refine T_run hD 2 (c' := (39, [(18, 130), (0, x1)], [(0, 1)], m, XX)) rfl ?_
          exact T_fin hD rfl (fun h => h)
        · refine T_run hD 1 (c' := (39, [(18, 130), (0, x1)], [(0, 0)], m, XX)) rfl ?_
          exact T_fin hD rfl (fun h => h)
      · refine T_run hD 1 (c' := (39, [(18, 130), (0, x1)], [(0, 0)], m, XX)) rfl ?_
        exact T_fin hD rfl (fun h => h)
    · refine T_run hD 1 (c' := (39, [(18, 130), (0, x1)], [(0, 0)], m, XX)) rfl ?_
      exact T_fin hD rfl (fun h => h)
  rw [← hr]
  exact h9 v hv hr
def fM_wrong (m : aM) : (Int × aM) :=
  if m 130 25 < 0 then
    if m 130 22 = 0 then
      (0, mup m 130 25 (m 130 3))
    else
      (0, mup m 130 25 (w32 ((m 130 23) - 240)))
  else
    (0, m)
set_option maxRecDepth 100000 in
theorem tM_wrong (m : aM) : Go PB 1 52 (aEnt d_M_wrong [(18, 130)] m XX) (1, (0, (fM_wrong m).1), (fM_wrong m).2, XX) := by
  have hD : aMd PB 52 = d_M_wrong := rfl
  show aU PB 1 52 (fun w => (1, (0, w.1), w.2, XX)) (fM_wrong m) (0, [(18, 130)], [], m, XX)
  unfold fM_wrong
  refine U_run hD 2 (c' := (4, [(18, 130)], [(0, m 130 25)], m, XX)) rfl ?_
  refine U_if hD (c1 := (7, _, _, _, _)) (c2 := (33, _, _, _, _)) rfl (fun _ => ?_) (fun _ => ?_)
  · refine U_run hD 3 (c' := (12, [(18, 130)], [(0, m 130 22), (18, 130)], m, XX)) rfl ?_
    refine U_if hD (c1 := (15, _, _, _, _)) (c2 := (22, _, _, _, _)) rfl (fun _ => ?_) (fun _ => ?_)
    · refine U_run hD 5 (c' := (34, [(18, 130)], [(0, 0)], mup m 130 25 (m 130 3), XX)) rfl ?_
      exact Go.fin hD rfl
    · refine U_run hD 6 (c' := (34, [(18, 130)], [(0, 0)], mup m 130 25 (w32 ((m 130 23) - 240)), XX)) rfl ?_
      exact Go.fin hD rfl
  · refine U_run hD 1 (c' := (34, [(18, 130)], [(0, 0)], m, XX)) rfl ?_
    exact Go.fin hD rfl
abbrev hM_named_32 (m : aM) (x2 : Int) : (Int × Int) → aC → Prop := fun y c => ∃ (z3 : aV), c = (32, [(18, 130), (0, (y.1)), (1, x2), z3, (0, (y.2))], [], m, XX)
def fM_named_32_b (m : aM) (x2 : Int) : (Int × Int) → Option ((Int × Int) ⊕ Int) := fun (x1, x4) =>
  if x4 < m 130 4 then
    gd (0 ≤ x4 ∧ x4 < 6) (
    if cmp3 (m 132 x4) x2 = 0 then
      some (Sum.inl (x4, w32 (x4 + 1)))
    else
      some (Sum.inl (x1, w32 (x4 + 1))))
  else
    some (Sum.inr (x1))
def fM_named_32 (m : aM) (x1 : Int) (x2 : Int) (x4 : Int) : Option Int := aLoop (fM_named_32_b m x2) FU (x1, x4)
set_option maxRecDepth 100000 in
theorem tM_named_32 (r : aR) (m : aM) (x1 : Int) (x2 : Int) (x4 : Int) (z3 : aV) : aT PB 2 53 r (fun w => r = (1, (0, w), m, XX)) (fM_named_32 m x1 x2 x4) (32, [(18, 130), (0, x1), (1, x2), z3, (0, x4)], [], m, XX) := by
  have hD : aMd PB 53 = d_M_named := rfl
  refine T_loop (Hd := (hM_named_32 m x2)) ?_ FU _ _ ⟨z3, rfl⟩
  clear x1 x4 z3
  intro y c hc
  obtain ⟨x1, x4⟩ := y
  obtain ⟨z3, rfl⟩ := hc
  unfold fM_named_32_b
  try dsimp only
  refine T_run hD 3 (c' := (38, [(18, 130), (0, x1), (1, x2), z3, (0, x4)], [(0, m 130 4), (0, x4)], m, XX)) rfl ?_
  refine T_if hD (c1 := (41, _, _, _, _)) (c2 := (66, _, _, _, _)) rfl (fun _ => ?_) (fun _ => ?_)
  · refine T_run hD 3 (c' := (47, [(18, 130), (0, x1), (1, x2), z3, (0, x4)], [(0, x4), (32, 132)], m, XX)) rfl ?_
    refine T_gd hD (c1 := (48, [(18, 130), (0, x1), (1, x2), z3, (0, x4)], [(1, m 132 x4)], m, XX)) rfl (fun g2 => ?_)
    refine T_run hD 2 (c' := (50, [(18, 130), (0, x1), (1, x2), z3, (0, x4)], [(0, cmp3 (m 132 x4) x2)], m, XX)) rfl ?_
    refine T_if hD (c1 := (53, _, _, _, _)) (c2 := (58, _, _, _, _)) rfl (fun _ => ?_) (fun _ => ?_)
    · refine T_run hD 5 (c' := (32, [(18, 130), (0, x4), (1, x2), aJ z3, (0, w32 (x4 + 1))], [], m, XX)) rfl ?_
      exact T_back0 ⟨_, rfl⟩
    · refine T_run hD 4 (c' := (32, [(18, 130), (0, x1), (1, x2), aJ z3, (0, w32 (x4 + 1))], [], m, XX)) rfl ?_
      exact T_back0 ⟨_, rfl⟩
  · refine T_run hD 1 (c' := (67, [(18, 130), (0, x1), (1, x2), z3, (0, x4)], [(0, x1)], m, XX)) rfl ?_
    exact T_fin hD rfl (fun h => h)
def fM_named (m : aM) : Option Int :=
  if m 130 22 = 1 then
    (fM_word m (m 130 23) (m 130 24)).bind fun v1 =>
    fM_named_32 m (-1) v1 0
  else
    fM_named_32 m (-1) (-2) 0
set_option maxRecDepth 100000 in
theorem tM_named (m : aM) : ∀ v, fM_named m = some v → Go PB 2 53 (aEnt d_M_named [(18, 130)] m XX) (1, (0, v), m, XX) := by
  intro v hv
  have hD : aMd PB 53 = d_M_named := rfl
  obtain ⟨r, hr⟩ : ∃ r : aR, r = (1, (0, v), m, XX) := ⟨_, rfl⟩
  have h9 : aT PB 2 53 r (fun w => r = (1, (0, w), m, XX)) (fM_named m) (0, [(18, 130), (99, 0), (99, 0), (99, 0), (99, 0)], [], m, XX) := by
    unfold fM_named
    refine T_run hD 5 (c' := (7, [(18, 130), (0, (-1)), (99, 0), (99, 0), (99, 0)], [(0, 1), (0, m 130 22)], m, XX)) rfl ?_
    refine T_if hD (c1 := (10, _, _, _, _)) (c2 := (25, _, _, _, _)) rfl (fun _ => ?_) (fun _ => ?_)
    · refine T_run hD 5 (c' := (19, [(18, 130), (0, (-1)), (99, 0), (99, 0), (99, 0)], [(0, m 130 24), (0, m 130 23), (18, 130)], m, XX)) rfl ?_
      refine T_call hD (D2 := d_M_word) (q2 := 33) (as := [(18, 130), (0, m 130 23), (0, m 130 24)]) (c1 := (22, [(18, 130), (0, (-1)), (99, 0), (99, 0), (99, 0)], [], m, XX)) (mk := fun w => (1, (1, w), m, XX)) (cc := fun v1 => (22, [(18, 130), (0, (-1)), (99, 0), (99, 0), (99, 0)], [(1, v1)], m, XX)) rfl rfl (fun y9 h9y => Go.mono (tM_word m (m 130 23) (m 130 24) y9 h9y) (by decide)) (fun _ => rfl) (fun v1 => ?_)
      refine T_run hD 4 (c' := (32, [(18, 130), (0, (-1)), (1, v1), (99, 0), (0, 0)], [], m, XX)) rfl ?_
      exact tM_named_32 r m (-1) v1 0 (99, 0)
    · refine T_run hD 4 (c' := (32, [(18, 130), (0, (-1)), (1, (-2)), (99, 0), (0, 0)], [], m, XX)) rfl ?_
      exact tM_named_32 r m (-1) (-2) 0 (99, 0)
  rw [← hr]
  exact h9 v hv hr
def fM_passWord (m : aM) (x1 : Int) : Option (Int × aM) :=
  (fM_isWord m x1).bind fun v1 =>
  if v1 = 0 then
    gd ((fM_wrong m).1 = 0 ∨ (fM_wrong m).1 = 1) (some (((fM_wrong m).1, (fM_wrong m).2)))
  else
    (fM_next m).bind fun v2 =>
    some ((1, v2))
set_option maxRecDepth 100000 in
theorem tM_passWord (m : aM) (x1 : Int) : ∀ v, fM_passWord m x1 = some v → Go PB 5 54 (aEnt d_M_passWord [(18, 130), (1, x1)] m XX) (1, (0, v.1), v.2, XX) := by
  intro v hv
  have hD : aMd PB 54 = d_M_passWord := rfl
  obtain ⟨r, hr⟩ : ∃ r : aR, r = (1, (0, v.1), v.2, XX) := ⟨_, rfl⟩
  have h9 : aT PB 5 54 r (fun w => r = (1, (0, w.1), w.2, XX)) (fM_passWord m x1) (0, [(18, 130), (1, x1), (99, 0)], [], m, XX) := by
    unfold fM_passWord
    refine T_run hD 2 (c' := (2, [(18, 130), (1, x1), (99, 0)], [(1, x1), (18, 130)], m, XX)) rfl ?_
    refine T_call hD (D2 := d_M_isWord) (q2 := 50) (as := [(18, 130), (1, x1)]) (c1 := (5, [(18, 130), (1, x1), (99, 0)], [], m, XX)) (mk := fun w => (1, (0, w), m, XX)) (cc := fun v1 => (5, [(18, 130), (1, x1), (99, 0)], [(0, v1)], m, XX)) rfl rfl (fun y9 h9y => Go.mono (tM_isWord m x1 y9 h9y) (by decide)) (fun _ => rfl) (fun v1 => ?_)
    refine T_if hD (c1 := (8, _, _, _, _)) (c2 := (13, _, _, _, _)) rfl (fun _ => ?_) (fun _ => ?_)
    · refine T_run hD 1 (c' := (9, [(18, 130), (1, x1), (99, 0)], [(18, 130)], m, XX)) rfl ?_
      refine T_call0 hD (D2 := d_M_wrong) (q2 := 52) (as := [(18, 130)]) (c1 := (12, [(18, 130), (1, x1), (99, 0)], [], m, XX)) (r2 := (1, (0, (fM_wrong m).1), (fM_wrong m).2, XX)) (c2 := (12, [(18, 130), (1, x1), (99, 0)], [(0, (fM_wrong m).1)], (fM_wrong m).2, XX)) rfl rfl (Go.mono (tM_wrong m) (by decide)) rfl ?_
      exact T_gfin hD (fun h => if_pos (decide_eq_true h)) (fun h => h)
    · refine T_run hD 1 (c' := (14, [(18, 130), (1, x1), (99, 0)], [(18, 130)], m, XX)) rfl ?_
      refine T_call hD (D2 := d_M_next) (q2 := 48) (as := [(18, 130)]) (c1 := (17, [(18, 130), (1, x1), (99, 0)], [], m, XX)) (mk := fun w => (0, (0, 0), w, XX)) (cc := fun v2 => (17, [(18, 130), (1, x1), (99, 0)], [], v2, XX)) rfl rfl (fun y9 h9y => Go.mono (tM_next m y9 h9y) (by decide)) (fun _ => rfl) (fun v2 => ?_)
      refine T_run hD 1 (c' := (18, [(18, 130), (1, x1), (99, 0)], [(0, 1)], v2, XX)) rfl ?_
      exact T_fin hD rfl (fun h => h)
  rw [← hr]
  exact h9 v hv hr
def fM_passSign (m : aM) (x1 : Int) : Option (Int × aM) :=
  (fM_isSign m x1).bind fun v1 =>
  if v1 = 0 then
    gd ((fM_wrong m).1 = 0 ∨ (fM_wrong m).1 = 1) (some (((fM_wrong m).1, (fM_wrong m).2)))
  else
    (fM_next m).bind fun v2 =>
    some ((1, v2))
set_option maxRecDepth 100000 in
theorem tM_passSign (m : aM) (x1 : Int) : ∀ v, fM_passSign m x1 = some v → Go PB 5 55 (aEnt d_M_passSign [(18, 130), (0, x1)] m XX) (1, (0, v.1), v.2, XX) := by
  intro v hv
  have hD : aMd PB 55 = d_M_passSign := rfl
  obtain ⟨r, hr⟩ : ∃ r : aR, r = (1, (0, v.1), v.2, XX) := ⟨_, rfl⟩
  have h9 : aT PB 5 55 r (fun w => r = (1, (0, w.1), w.2, XX)) (fM_passSign m x1) (0, [(18, 130), (0, x1)], [], m, XX) := by
    unfold fM_passSign
    refine T_run hD 2 (c' := (2, [(18, 130), (0, x1)], [(0, x1), (18, 130)], m, XX)) rfl ?_
    refine T_call hD (D2 := d_M_isSign) (q2 := 51) (as := [(18, 130), (0, x1)]) (c1 := (5, [(18, 130), (0, x1)], [], m, XX)) (mk := fun w => (1, (0, w), m, XX)) (cc := fun v1 => (5, [(18, 130), (0, x1)], [(0, v1)], m, XX)) rfl rfl (fun y9 h9y => Go.mono (tM_isSign m x1 y9 h9y) (by decide)) (fun _ => rfl) (fun v1 => ?_)
    refine T_if hD (c1 := (8, _, _, _, _)) (c2 := (13, _, _, _, _)) rfl (fun _ => ?_) (fun _ => ?_)
    · refine T_run hD 1 (c' := (9, [(18, 130), (0, x1)], [(18, 130)], m, XX)) rfl ?_
      refine T_call0 hD (D2 := d_M_wrong) (q2 := 52) (as := [(18, 130)]) (c1 := (12, [(18, 130), (0, x1)], [], m, XX)) (r2 := (1, (0, (fM_wrong m).1), (fM_wrong m).2, XX)) (c2 := (12, [(18, 130), (0, x1)], [(0, (fM_wrong m).1)], (fM_wrong m).2, XX)) rfl rfl (Go.mono (tM_wrong m) (by decide)) rfl ?_
      exact T_gfin hD (fun h => if_pos (decide_eq_true h)) (fun h => h)
    · refine T_run hD 1 (c' := (14, [(18, 130), (0, x1)], [(18, 130)], m, XX)) rfl ?_
      refine T_call hD (D2 := d_M_next) (q2 := 48) (as := [(18, 130)]) (c1 := (17, [(18, 130), (0, x1)], [], m, XX)) (mk := fun w => (0, (0, 0), w, XX)) (cc := fun v2 => (17, [(18, 130), (0, x1)], [], v2, XX)) rfl rfl (fun y9 h9y => Go.mono (tM_next m y9 h9y) (by decide)) (fun _ => rfl) (fun v2 => ?_)
      refine T_run hD 1 (c' := (18, [(18, 130), (0, x1)], [(0, 1)], v2, XX)) rfl ?_
      exact T_fin hD rfl (fun h => h)
  rw [← hr]
  exact h9 v hv hr
def fM_addStep (m : aM) (x1 : Int) : Option aM :=
  gd (0 ≤ m 130 26 ∧ m 130 26 < 100) (
  some (mup (mup m 142 (m 130 26) x1) 130 26 (w32 ((m 130 26) + 1))))
set_option maxRecDepth 100000 in
theorem tM_addStep (m : aM) (x1 : Int) : ∀ v, fM_addStep m x1 = some v → Go PB 1 56 (aEnt d_M_addStep [(18, 130), (0, x1)] m XX) (0, (0, 0), v, XX) := by
  intro v hv
  have hD : aMd PB 56 = d_M_addStep := rfl
  obtain ⟨r, hr⟩ : ∃ r : aR, r = (0, (0, 0), v, XX) := ⟨_, rfl⟩
  have h9 : aT PB 1 56 r (fun w => r = (0, (0, 0), w, XX)) (fM_addStep m x1) (0, [(18, 130), (0, x1)], [], m, XX) := by
    unfold fM_addStep
    refine T_run hD 5 (c' := (9, [(18, 130), (0, x1)], [(0, x1), (0, m 130 26), (31, 142)], m, XX)) rfl ?_
    refine T_gd hD (c1 := (10, [(18, 130), (0, x1)], [], mup m 142 (m 130 26) x1, XX)) rfl (fun g1 => ?_)
    refine T_run hD 6 (c' := (20, [(18, 130), (0, x1)], [], mup (mup m 142 (m 130 26) x1) 130 26 (w32 ((m 130 26) + 1)), XX)) rfl ?_
    exact T_fin hD rfl (fun h => h)
  rw [← hr]
  exact h9 v hv hr
def fM_sortOf (x0 : Int) : Int :=
  if x0 < 2 then
    0
  else
    w32 (x0 - 1)
set_option maxRecDepth 100000 in
theorem tM_sortOf (m : aM) (x0 : Int) : Go PB 1 57 (aEnt d_M_sortOf [(0, x0)] m XX) (1, (0, (fM_sortOf x0)), m, XX) := by
  have hD : aMd PB 57 = d_M_sortOf := rfl
  show aU PB 1 57 (fun w => (1, (0, w), m, XX)) (fM_sortOf x0) (0, [(0, x0)], [], m, XX)
  unfold fM_sortOf
  refine U_run hD 2 (c' := (2, [(0, x0)], [(0, 2), (0, x0)], m, XX)) rfl ?_
  refine U_if hD (c1 := (5, _, _, _, _)) (c2 := (9, _, _, _, _)) rfl (fun _ => ?_) (fun _ => ?_)
  · refine U_run hD 2 (c' := (12, [(0, x0)], [(0, 0)], m, XX)) rfl ?_
    exact Go.fin hD rfl
  · refine U_run hD 3 (c' := (12, [(0, x0)], [(0, w32 (x0 - 1))], m, XX)) rfl ?_
    exact Go.fin hD rfl
def fM_operator_58 (m : aM) (x1 : Int) (x2 : Int) (s0 : Int) : Option Int :=
  if x1 = 61 then
    some (0)
  else
    if x1 = 60 then
      if x2 = 0 then
        some (2)
      else
        if s0 = 62 then
          some (1)
        else
          some (3)
    else
      if x1 = 62 then
        if x2 = 0 then
          some (4)
        else
          some (5)
      else
        some ((-1))
set_option maxRecDepth 100000 in
theorem tM_operator_58 (r : aR) (m : aM) (x1 : Int) (x2 : Int) (s0 : Int) (z0 : aV) (z3 : aV) : aT PB 1 58 r (fun w => r = (1, (0, w), m, XX)) (fM_operator_58 m x1 x2 s0) (58, [z0, (0, x1), (0, x2), z3], [(0, s0)], m, XX) := by
  have hD : aMd PB 58 = d_M_operator := rfl
  unfold fM_operator_58
  refine T_run hD 3 (c' := (62, [z0, (0, x1), (0, x2), (0, s0)], [(0, 61), (0, x1)], m, XX)) rfl ?_
  refine T_if hD (c1 := (65, _, _, _, _)) (c2 := (69, _, _, _, _)) rfl (fun _ => ?_) (fun _ => ?_)
  · refine T_run hD 2 (c' := (116, [z0, (0, x1), (0, x2), (0, s0)], [(0, 0)], m, XX)) rfl ?_
    exact T_fin hD rfl (fun h => h)
  · refine T_run hD 2 (c' := (72, [z0, (0, x1), (0, x2), (0, s0)], [(0, 60), (0, x1)], m, XX)) rfl ?_
    refine T_if hD (c1 := (75, _, _, _, _)) (c2 := (97, _, _, _, _)) rfl (fun _ => ?_) (fun _ => ?_)
    · refine T_run hD 1 (c' := (76, [z0, (0, x1), (0, x2), (0, s0)], [(0, x2)], m, XX)) rfl ?_
      refine T_if hD (c1 := (79, _, _, _, _)) (c2 := (83, _, _, _, _)) rfl (fun _ => ?_) (fun _ => ?_)
      · refine T_run hD 2 (c' := (116, [z0, (0, x1), (0, x2), (0, s0)], [(0, 2)], m, XX)) rfl ?_
        exact T_fin hD rfl (fun h => h)
      · refine T_run hD 2 (c' := (86, [z0, (0, x1), (0, x2), (0, s0)], [(0, 62), (0, s0)], m, XX)) rfl ?_
        refine T_if hD (c1 := (89, _, _, _, _)) (c2 := (93, _, _, _, _)) rfl (fun _ => ?_) (fun _ => ?_)
        · refine T_run hD 2 (c' := (116, [z0, (0, x1), (0, x2), (0, s0)], [(0, 1)], m, XX)) rfl ?_
          exact T_fin hD rfl (fun h => h)
        · refine T_run hD 2 (c' := (116, [z0, (0, x1), (0, x2), (0, s0)], [(0, 3)], m, XX)) rfl ?_
          exact T_fin hD rfl (fun h => h)
    · refine T_run hD 2 (c' := (100, [z0, (0, x1), (0, x2), (0, s0)], [(0, 62), (0, x1)], m, XX)) rfl ?_
      refine T_if hD (c1 := (103, _, _, _, _)) (c2 := (115, _, _, _, _)) rfl (fun _ => ?_) (fun _ => ?_)
      · refine T_run hD 1 (c' := (104, [z0, (0, x1), (0, x2), (0, s0)], [(0, x2)], m, XX)) rfl ?_
        refine T_if hD (c1 := (111, _, _, _, _)) (c2 := (107, _, _, _, _)) rfl (fun _ => ?_) (fun _ => ?_)
        · refine T_run hD 2 (c' := (116, [z0, (0, x1), (0, x2), (0, s0)], [(0, 4)], m, XX)) rfl ?_
          exact T_fin hD rfl (fun h => h)
        · refine T_run hD 2 (c' := (116, [z0, (0, x1), (0, x2), (0, s0)], [(0, 5)], m, XX)) rfl ?_
          exact T_fin hD rfl (fun h => h)
      · refine T_run hD 1 (c' := (116, [z0, (0, x1), (0, x2), (0, s0)], [(0, (-1))], m, XX)) rfl ?_
        exact T_fin hD rfl (fun h => h)
def fM_operator_38 (m : aM) (x1 : Int) (s0 : Int) : Option Int :=
  if s0 = 0 then
    fM_operator_58 m x1 s0 0
  else
    gd (0 ≤ w32 ((m 130 23) + 1) ∧ w32 ((m 130 23) + 1) < 600) (
    fM_operator_58 m x1 s0 (m 131 (w32 ((m 130 23) + 1))))
set_option maxRecDepth 100000 in
theorem tM_operator_38 (r : aR) (m : aM) (x1 : Int) (s0 : Int) (z2 : aV) (z3 : aV) : aT PB 1 58 r (fun w => r = (1, (0, w), m, XX)) (fM_operator_38 m x1 s0) (38, [(18, 130), (0, x1), z2, z3], [(0, s0)], m, XX) := by
  have hD : aMd PB 58 = d_M_operator := rfl
  unfold fM_operator_38
  refine T_run hD 2 (c' := (40, [(18, 130), (0, x1), (0, s0), z3], [(0, s0)], m, XX)) rfl ?_
  refine T_if hD (c1 := (57, _, _, _, _)) (c2 := (43, _, _, _, _)) rfl (fun _ => ?_) (fun _ => ?_)
  · refine T_run hD 1 (c' := (58, [(18, 130), (0, x1), (0, s0), z3], [(0, 0)], m, XX)) rfl ?_
    exact tM_operator_58 r m x1 s0 0 (18, 130) z3
  · refine T_run hD 6 (c' := (53, [(18, 130), (0, x1), (0, s0), z3], [(0, w32 ((m 130 23) + 1)), (31, 131)], m, XX)) rfl ?_
    refine T_gd hD (c1 := (54, [(18, 130), (0, x1), (0, s0), z3], [(0, m 131 (w32 ((m 130 23) + 1)))], m, XX)) rfl (fun g2 => ?_)
    refine T_run hD 1 (c' := (58, [(18, 130), (0, x1), (0, s0), z3], [(0, m 131 (w32 ((m 130 23) + 1)))], m, XX)) rfl ?_
    exact tM_operator_58 r m x1 s0 (m 131 (w32 ((m 130 23) + 1))) (18, 130) z3
def fM_operator (m : aM) : Option Int :=
  if m 130 22 = 5 then
    gd (0 ≤ m 130 23 ∧ m 130 23 < 600) (
    if w32 ((m 130 24) - (m 130 23)) = 2 then
      fM_operator_38 m (m 131 (m 130 23)) 1
    else
      fM_operator_38 m (m 131 (m 130 23)) 0)
  else
    some ((-1))
set_option maxRecDepth 100000 in
theorem tM_operator (m : aM) : ∀ v, fM_operator m = some v → Go PB 1 58 (aEnt d_M_operator [(18, 130)] m XX) (1, (0, v), m, XX) := by
  intro v hv
  have hD : aMd PB 58 = d_M_operator := rfl
  obtain ⟨r, hr⟩ : ∃ r : aR, r = (1, (0, v), m, XX) := ⟨_, rfl⟩
  have h9 : aT PB 1 58 r (fun w => r = (1, (0, w), m, XX)) (fM_operator m) (0, [(18, 130), (99, 0), (99, 0), (99, 0)], [], m, XX) := by
    unfold fM_operator
    refine T_run hD 3 (c' := (5, [(18, 130), (99, 0), (99, 0), (99, 0)], [(0, 5), (0, m 130 22)], m, XX)) rfl ?_
    refine T_if hD (c1 := (10, _, _, _, _)) (c2 := (8, _, _, _, _)) rfl (fun _ => ?_) (fun _ => ?_)
    · refine T_run hD 4 (c' := (18, [(18, 130), (99, 0), (99, 0), (99, 0)], [(0, m 130 23), (31, 131)], m, XX)) rfl ?_
      refine T_gd hD (c1 := (19, [(18, 130), (99, 0), (99, 0), (99, 0)], [(0, m 131 (m 130 23))], m, XX)) rfl (fun g1 => ?_)
      refine T_run hD 7 (c' := (30, [(18, 130), (0, m 131 (m 130 23)), (99, 0), (99, 0)], [(0, 2), (0, w32 ((m 130 24) - (m 130 23)))], m, XX)) rfl ?_
      refine T_if hD (c1 := (33, _, _, _, _)) (c2 := (37, _, _, _, _)) rfl (fun _ => ?_) (fun _ => ?_)
      · refine T_run hD 2 (c' := (38, [(18, 130), (0, m 131 (m 130 23)), (99, 0), (99, 0)], [(0, 1)], m, XX)) rfl ?_
        exact tM_operator_38 r m (m 131 (m 130 23)) 1 (99, 0) (99, 0)
      · refine T_run hD 1 (c' := (38, [(18, 130), (0, m 131 (m 130 23)), (99, 0), (99, 0)], [(0, 0)], m, XX)) rfl ?_
        exact tM_operator_38 r m (m 131 (m 130 23)) 0 (99, 0) (99, 0)
    · refine T_run hD 1 (c' := (9, [(18, 130), (99, 0), (99, 0), (99, 0)], [(0, (-1))], m, XX)) rfl ?_
      exact T_fin hD rfl (fun h => h)
  rw [← hr]
  exact h9 v hv hr
def fM_comparison_138 (m : aM) (x1 : Int) (x2 : Int) (x3 : Int) (s0 : Int) : Option (Int × aM) :=
  gd (0 ≤ x1 ∧ x1 < 6) (
  if s0 = fM_sortOf (m 133 x1) then
    gd (0 ≤ m 130 26 ∧ m 130 26 < 100) (
    (fM_addStep (mup (mup (mup (mup (mup m 144 (m 130 26) x2) 145 (m 130 26) x3) 146 (m 130 26) (w32 ((m 130 23) + 1))) 147 (m 130 26) (w32 ((m 130 24) - 1))) 148 (m 130 26) (m 130 20)) 0).bind fun v10 =>
    (fM_next v10).bind fun v11 =>
    some ((1, v11)))
  else
    gd ((fM_wrong m).1 = 0 ∨ (fM_wrong m).1 = 1) (some (((fM_wrong m).1, (fM_wrong m).2))))
set_option maxRecDepth 100000 in
theorem tM_comparison_138 (r : aR) (m : aM) (x1 : Int) (x2 : Int) (x3 : Int) (s0 : Int) (z4 : aV) : aT PB 6 59 r (fun w => r = (1, (0, w.1), w.2, XX)) (fM_comparison_138 m x1 x2 x3 s0) (138, [(18, 130), (0, x1), (0, x2), (0, x3), z4], [(0, s0)], m, XX) := by
  have hD : aMd PB 59 = d_M_comparison := rfl
  unfold fM_comparison_138
  refine T_run hD 5 (c' := (147, [(18, 130), (0, x1), (0, x2), (0, x3), (0, s0)], [(0, x1), (31, 133), (0, s0)], m, XX)) rfl ?_
  refine T_gd hD (c1 := (148, [(18, 130), (0, x1), (0, x2), (0, x3), (0, s0)], [(0, m 133 x1), (0, s0)], m, XX)) rfl (fun g8 => ?_)
  refine T_call0 hD (D2 := d_M_sortOf) (q2 := 57) (as := [(0, m 133 x1)]) (c1 := (151, [(18, 130), (0, x1), (0, x2), (0, x3), (0, s0)], [(0, s0)], m, XX)) (r2 := (1, (0, fM_sortOf (m 133 x1)), m, XX)) (c2 := (151, [(18, 130), (0, x1), (0, x2), (0, x3), (0, s0)], [(0, fM_sortOf (m 133 x1)), (0, s0)], m, XX)) rfl rfl (Go.mono (tM_sortOf m (m 133 x1)) (by decide)) rfl ?_
  refine T_if hD (c1 := (159, _, _, _, _)) (c2 := (154, _, _, _, _)) rfl (fun _ => ?_) (fun _ => ?_)
  · refine T_run hD 5 (c' := (168, [(18, 130), (0, x1), (0, x2), (0, x3), (0, s0)], [(0, x2), (0, m 130 26), (31, 144)], m, XX)) rfl ?_
    refine T_gd hD (c1 := (169, [(18, 130), (0, x1), (0, x2), (0, x3), (0, s0)], [], mup m 144 (m 130 26) x2, XX)) rfl (fun g9 => ?_)
    refine T_run hD 5 (c' := (178, [(18, 130), (0, x1), (0, x2), (0, x3), (0, s0)], [(0, x3), (0, m 130 26), (31, 145)], mup m 144 (m 130 26) x2, XX)) rfl ?_
    refine T_gk hD (c1 := (179, [(18, 130), (0, x1), (0, x2), (0, x3), (0, s0)], [], mup (mup m 144 (m 130 26) x2) 145 (m 130 26) x3, XX)) (P := 0 ≤ m 130 26 ∧ m 130 26 < 100) rfl g9 ?_
    refine T_run hD 8 (c' := (193, [(18, 130), (0, x1), (0, x2), (0, x3), (0, s0)], [(0, w32 ((m 130 23) + 1)), (0, m 130 26), (31, 146)], mup (mup m 144 (m 130 26) x2) 145 (m 130 26) x3, XX)) rfl ?_
    refine T_gk hD (c1 := (194, [(18, 130), (0, x1), (0, x2), (0, x3), (0, s0)], [], mup (mup (mup m 144 (m 130 26) x2) 145 (m 130 26) x3) 146 (m 130 26) (w32 ((m 130 23) + 1)), XX)) (P := 0 ≤ m 130 26 ∧ m 130 26 < 100) rfl g9 ?_
    refine T_run hD 8 (c' := (208, [(18, 130), (0, x1), (0, x2), (0, x3), (0, s0)], [(0, w32 ((m 130 24) - 1)), (0, m 130 26), (31, 147)], mup (mup (mup m 144 (m 130 26) x2) 145 (m 130 26) x3) 146 (m 130 26) (w32 ((m 130 23) + 1)), XX)) rfl ?_
    refine T_gk hD (c1 := (209, [(18, 130), (0, x1), (0, x2), (0, x3), (0, s0)], [], mup (mup (mup (mup m 144 (m 130 26) x2) 145 (m 130 26) x3) 146 (m 130 26) (w32 ((m 130 23) + 1))) 147 (m 130 26) (w32 ((m 130 24) - 1)), XX)) (P := 0 ≤ m 130 26 ∧ m 130 26 < 100) rfl g9 ?_
    refine T_run hD 6 (c' := (221, [(18, 130), (0, x1), (0, x2), (0, x3), (0, s0)], [(1, m 130 20), (0, m 130 26), (32, 148)], mup (mup (mup (mup m 144 (m 130 26) x2) 145 (m 130 26) x3) 146 (m 130 26) (w32 ((m 130 23) + 1))) 147 (m 130 26) (w32 ((m 130 24) - 1)), XX)) rfl ?_
    refine T_gk hD (c1 := (222, [(18, 130), (0, x1), (0, x2), (0, x3), (0, s0)], [], mup (mup (mup (mup (mup m 144 (m 130 26) x2) 145 (m 130 26) x3) 146 (m 130 26) (w32 ((m 130 23) + 1))) 147 (m 130 26) (w32 ((m 130 24) - 1))) 148 (m 130 26) (m 130 20), XX)) (P := 0 ≤ m 130 26 ∧ m 130 26 < 100) rfl g9 ?_
    refine T_run hD 2 (c' := (224, [(18, 130), (0, x1), (0, x2), (0, x3), (0, s0)], [(0, 0), (18, 130)], mup (mup (mup (mup (mup m 144 (m 130 26) x2) 145 (m 130 26) x3) 146 (m 130 26) (w32 ((m 130 23) + 1))) 147 (m 130 26) (w32 ((m 130 24) - 1))) 148 (m 130 26) (m 130 20), XX)) rfl ?_
    refine T_call hD (D2 := d_M_addStep) (q2 := 56) (as := [(18, 130), (0, 0)]) (c1 := (227, [(18, 130), (0, x1), (0, x2), (0, x3), (0, s0)], [], mup (mup (mup (mup (mup m 144 (m 130 26) x2) 145 (m 130 26) x3) 146 (m 130 26) (w32 ((m 130 23) + 1))) 147 (m 130 26) (w32 ((m 130 24) - 1))) 148 (m 130 26) (m 130 20), XX)) (mk := fun w => (0, (0, 0), w, XX)) (cc := fun v10 => (227, [(18, 130), (0, x1), (0, x2), (0, x3), (0, s0)], [], v10, XX)) rfl rfl (fun y9 h9y => Go.mono (tM_addStep (mup (mup (mup (mup (mup m 144 (m 130 26) x2) 145 (m 130 26) x3) 146 (m 130 26) (w32 ((m 130 23) + 1))) 147 (m 130 26) (w32 ((m 130 24) - 1))) 148 (m 130 26) (m 130 20)) 0 y9 h9y) (by decide)) (fun _ => rfl) (fun v10 => ?_)
    refine T_run hD 1 (c' := (228, [(18, 130), (0, x1), (0, x2), (0, x3), (0, s0)], [(18, 130)], v10, XX)) rfl ?_
    refine T_call hD (D2 := d_M_next) (q2 := 48) (as := [(18, 130)]) (c1 := (231, [(18, 130), (0, x1), (0, x2), (0, x3), (0, s0)], [], v10, XX)) (mk := fun w => (0, (0, 0), w, XX)) (cc := fun v11 => (231, [(18, 130), (0, x1), (0, x2), (0, x3), (0, s0)], [], v11, XX)) rfl rfl (fun y9 h9y => Go.mono (tM_next v10 y9 h9y) (by decide)) (fun _ => rfl) (fun v11 => ?_)
    refine T_run hD 1 (c' := (232, [(18, 130), (0, x1), (0, x2), (0, x3), (0, s0)], [(0, 1)], v11, XX)) rfl ?_
    exact T_fin hD rfl (fun h => h)
  · refine T_run hD 1 (c' := (155, [(18, 130), (0, x1), (0, x2), (0, x3), (0, s0)], [(18, 130)], m, XX)) rfl ?_
    refine T_call0 hD (D2 := d_M_wrong) (q2 := 52) (as := [(18, 130)]) (c1 := (158, [(18, 130), (0, x1), (0, x2), (0, x3), (0, s0)], [], m, XX)) (r2 := (1, (0, (fM_wrong m).1), (fM_wrong m).2, XX)) (c2 := (158, [(18, 130), (0, x1), (0, x2), (0, x3), (0, s0)], [(0, (fM_wrong m).1)], (fM_wrong m).2, XX)) rfl rfl (Go.mono (tM_wrong m) (by decide)) rfl ?_
    exact T_gfin hD (fun h => if_pos (decide_eq_true h)) (fun h => h)
def fM_comparison (m : aM) : Option (Int × aM) :=
  (fM_named m).bind fun v1 =>
  if v1 < 0 then
    gd ((fM_wrong m).1 = 0 ∨ (fM_wrong m).1 = 1) (some (((fM_wrong m).1, (fM_wrong m).2)))
  else
    (fM_next m).bind fun v2 =>
    gd (0 ≤ v2 130 26 ∧ v2 130 26 < 100) (
    (fM_isWord (mup v2 143 (v2 130 26) v1) 29545).bind fun v4 =>
    if v4 = 0 then
      (fM_operator (mup v2 143 (v2 130 26) v1)).bind fun v5 =>
      if v5 < 0 then
        gd ((fM_wrong (mup v2 143 (v2 130 26) v1)).1 = 0 ∨ (fM_wrong (mup v2 143 (v2 130 26) v1)).1 = 1) (some (((fM_wrong (mup v2 143 (v2 130 26) v1)).1, (fM_wrong (mup v2 143 (v2 130 26) v1)).2)))
      else
        (fM_next (mup v2 143 (v2 130 26) v1)).bind fun v6 =>
        (fM_named v6).bind fun v7 =>
        if v7 < 0 then
          if v6 130 22 = 2 then
            fM_comparison_138 v6 v1 v5 v7 0
          else
            if v6 130 22 = 3 then
              fM_comparison_138 v6 v1 v5 v7 1
            else
              if v6 130 22 = 4 then
                fM_comparison_138 v6 v1 v5 v7 2
              else
                fM_comparison_138 v6 v1 v5 v7 9
        else
          gd (0 ≤ v7 ∧ v7 < 6) (
          fM_comparison_138 v6 v1 v5 v7 (fM_sortOf (v6 133 v7)))
    else
      (fM_next (mup v2 143 (v2 130 26) v1)).bind fun v13 =>
      (fM_passWord v13 1819047278).bind fun v14 =>
      if v14.1 = 0 then
        some ((0, v14.2))
      else
        (fM_addStep v14.2 1).bind fun v15 =>
        some ((1, v15)))
set_option maxRecDepth 100000 in
theorem tM_comparison (m : aM) : ∀ v, fM_comparison m = some v → Go PB 6 59 (aEnt d_M_comparison [(18, 130)] m XX) (1, (0, v.1), v.2, XX) := by
  intro v hv
  have hD : aMd PB 59 = d_M_comparison := rfl
  obtain ⟨r, hr⟩ : ∃ r : aR, r = (1, (0, v.1), v.2, XX) := ⟨_, rfl⟩
  have h9 : aT PB 6 59 r (fun w => r = (1, (0, w.1), w.2, XX)) (fM_comparison m) (0, [(18, 130), (99, 0), (99, 0), (99, 0), (99, 0)], [], m, XX) := by
    unfold fM_comparison
    refine T_run hD 1 (c' := (1, [(18, 130), (99, 0), (99, 0), (99, 0), (99, 0)], [(18, 130)], m, XX)) rfl ?_
    refine T_call hD (D2 := d_M_named) (q2 := 53) (as := [(18, 130)]) (c1 := (4, [(18, 130), (99, 0), (99, 0), (99, 0), (99, 0)], [], m, XX)) (mk := fun w => (1, (0, w), m, XX)) (cc := fun v1 => (4, [(18, 130), (99, 0), (99, 0), (99, 0), (99, 0)], [(0, v1)], m, XX)) rfl rfl (fun y9 h9y => Go.mono (tM_named m y9 h9y) (by decide)) (fun _ => rfl) (fun v1 => ?_)
    refine T_run hD 2 (c' := (6, [(18, 130), (0, v1), (99, 0), (99, 0), (99, 0)], [(0, v1)], m, XX)) rfl ?_
    refine T_if hD (c1 := (9, _, _, _, _)) (c2 := (14, _, _, _, _)) rfl (fun _ => ?_) (fun _ => ?_)
    · refine T_run hD 1 (c' := (10, [(18, 130), (0, v1), (99, 0), (99, 0), (99, 0)], [(18, 130)], m, XX)) rfl ?_
      refine T_call0 hD (D2 := d_M_wrong) (q2 := 52) (as := [(18, 130)]) (c1 := (13, [(18, 130), (0, v1), (99, 0), (99, 0), (99, 0)], [], m, XX)) (r2 := (1, (0, (fM_wrong m).1), (fM_wrong m).2, XX)) (c2 := (13, [(18, 130), (0, v1), (99, 0), (99, 0), (99, 0)], [(0, (fM_wrong m).1)], (fM_wrong m).2, XX)) rfl rfl (Go.mono (tM_wrong m) (by decide)) rfl ?_
      exact T_gfin hD (fun h => if_pos (decide_eq_true h)) (fun h => h)
    · refine T_run hD 1 (c' := (15, [(18, 130), (0, v1), (99, 0), (99, 0), (99, 0)], [(18, 130)], m, XX)) rfl ?_
      refine T_call hD (D2 := d_M_next) (q2 := 48) (as := [(18, 130)]) (c1 := (18, [(18, 130), (0, v1), (99, 0), (99, 0), (99, 0)], [], m, XX)) (mk := fun w => (0, (0, 0), w, XX)) (cc := fun v2 => (18, [(18, 130), (0, v1), (99, 0), (99, 0), (99, 0)], [], v2, XX)) rfl rfl (fun y9 h9y => Go.mono (tM_next m y9 h9y) (by decide)) (fun _ => rfl) (fun v2 => ?_)
      refine T_run hD 5 (c' := (27, [(18, 130), (0, v1), (99, 0), (99, 0), (99, 0)], [(0, v1), (0, v2 130 26), (31, 143)], v2, XX)) rfl ?_
      refine T_gd hD (c1 := (28, [(18, 130), (0, v1), (99, 0), (99, 0), (99, 0)], [], mup v2 143 (v2 130 26) v1, XX)) rfl (fun g3 => ?_)
      refine T_run hD 2 (c' := (32, [(18, 130), (0, v1), (99, 0), (99, 0), (99, 0)], [(1, 29545), (18, 130)], mup v2 143 (v2 130 26) v1, XX)) rfl ?_
      refine T_call hD (D2 := d_M_isWord) (q2 := 50) (as := [(18, 130), (1, 29545)]) (c1 := (35, [(18, 130), (0, v1), (99, 0), (99, 0), (99, 0)], [], mup v2 143 (v2 130 26) v1, XX)) (mk := fun w => (1, (0, w), mup v2 143 (v2 130 26) v1, XX)) (cc := fun v4 => (35, [(18, 130), (0, v1), (99, 0), (99, 0), (99, 0)], [(0, v4)], mup v2 143 (v2 130 26) v1, XX)) rfl rfl (fun y9 h9y => Go.mono (tM_isWord (mup v2 143 (v2 130 26) v1) 29545 y9 h9y) (by decide)) (fun _ => rfl) (fun v4 => ?_)
      refine T_if hD (c1 := (61, _, _, _, _)) (c2 := (38, _, _, _, _)) rfl (fun _ => ?_) (fun _ => ?_)
      · refine T_run hD 1 (c' := (62, [(18, 130), (0, v1), (99, 0), (99, 0), (99, 0)], [(18, 130)], mup v2 143 (v2 130 26) v1, XX)) rfl ?_
        refine T_call hD (D2 := d_M_operator) (q2 := 58) (as := [(18, 130)]) (c1 := (65, [(18, 130), (0, v1), (99, 0), (99, 0), (99, 0)], [], mup v2 143 (v2 130 26) v1, XX)) (mk := fun w => (1, (0, w), mup v2 143 (v2 130 26) v1, XX)) (cc := fun v5 => (65, [(18, 130), (0, v1), (99, 0), (99, 0), (99, 0)], [(0, v5)], mup v2 143 (v2 130 26) v1, XX)) rfl rfl (fun y9 h9y => Go.mono (tM_operator (mup v2 143 (v2 130 26) v1) y9 h9y) (by decide)) (fun _ => rfl) (fun v5 => ?_)
        refine T_run hD 2 (c' := (67, [(18, 130), (0, v1), (0, v5), (99, 0), (99, 0)], [(0, v5)], mup v2 143 (v2 130 26) v1, XX)) rfl ?_
        refine T_if hD (c1 := (70, _, _, _, _)) (c2 := (75, _, _, _, _)) rfl (fun _ => ?_) (fun _ => ?_)
        · refine T_run hD 1 (c' := (71, [(18, 130), (0, v1), (0, v5), (99, 0), (99, 0)], [(18, 130)], mup v2 143 (v2 130 26) v1, XX)) rfl ?_
          refine T_call0 hD (D2 := d_M_wrong) (q2 := 52) (as := [(18, 130)]) (c1 := (74, [(18, 130), (0, v1), (0, v5), (99, 0), (99, 0)], [], mup v2 143 (v2 130 26) v1, XX)) (r2 := (1, (0, (fM_wrong (mup v2 143 (v2 130 26) v1)).1), (fM_wrong (mup v2 143 (v2 130 26) v1)).2, XX)) (c2 := (74, [(18, 130), (0, v1), (0, v5), (99, 0), (99, 0)], [(0, (fM_wrong (mup v2 143 (v2 130 26) v1)).1)], (fM_wrong (mup v2 143 (v2 130 26) v1)).2, XX)) rfl rfl (Go.mono (tM_wrong (mup v2 143 (v2 130 26) v1)) (by decide)) rfl ?_
          exact T_gfin hD (fun h => if_pos (decide_eq_true h)) (fun h => h)
        · refine T_run hD 1 (c' := (76, [(18, 130), (0, v1), (0, v5), (99, 0), (99, 0)], [(18, 130)], mup v2 143 (v2 130 26) v1, XX)) rfl ?_
          refine T_call hD (D2 := d_M_next) (q2 := 48) (as := [(18, 130)]) (c1 := (79, [(18, 130), (0, v1), (0, v5), (99, 0), (99, 0)], [], mup v2 143 (v2 130 26) v1, XX)) (mk := fun w => (0, (0, 0), w, XX)) (cc := fun v6 => (79, [(18, 130), (0, v1), (0, v5), (99, 0), (99, 0)], [], v6, XX)) rfl rfl (fun y9 h9y => Go.mono (tM_next (mup v2 143 (v2 130 26) v1) y9 h9y) (by decide)) (fun _ => rfl) (fun v6 => ?_)
          refine T_run hD 1 (c' := (80, [(18, 130), (0, v1), (0, v5), (99, 0), (99, 0)], [(18, 130)], v6, XX)) rfl ?_
          refine T_call hD (D2 := d_M_named) (q2 := 53) (as := [(18, 130)]) (c1 := (83, [(18, 130), (0, v1), (0, v5), (99, 0), (99, 0)], [], v6, XX)) (mk := fun w => (1, (0, w), v6, XX)) (cc := fun v7 => (83, [(18, 130), (0, v1), (0, v5), (99, 0), (99, 0)], [(0, v7)], v6, XX)) rfl rfl (fun y9 h9y => Go.mono (tM_named v6 y9 h9y) (by decide)) (fun _ => rfl) (fun v7 => ?_)
          refine T_run hD 2 (c' := (85, [(18, 130), (0, v1), (0, v5), (0, v7), (99, 0)], [(0, v7)], v6, XX)) rfl ?_
          refine T_if hD (c1 := (100, _, _, _, _)) (c2 := (88, _, _, _, _)) rfl (fun _ => ?_) (fun _ => ?_)
          · refine T_run hD 3 (c' := (105, [(18, 130), (0, v1), (0, v5), (0, v7), (99, 0)], [(0, 2), (0, v6 130 22)], v6, XX)) rfl ?_
            refine T_if hD (c1 := (108, _, _, _, _)) (c2 := (112, _, _, _, _)) rfl (fun _ => ?_) (fun _ => ?_)
            · refine T_run hD 2 (c' := (138, [(18, 130), (0, v1), (0, v5), (0, v7), (99, 0)], [(0, 0)], v6, XX)) rfl ?_
              exact tM_comparison_138 r v6 v1 v5 v7 0 (99, 0)
            · refine T_run hD 3 (c' := (117, [(18, 130), (0, v1), (0, v5), (0, v7), (99, 0)], [(0, 3), (0, v6 130 22)], v6, XX)) rfl ?_
              refine T_if hD (c1 := (120, _, _, _, _)) (c2 := (124, _, _, _, _)) rfl (fun _ => ?_) (fun _ => ?_)
              · refine T_run hD 2 (c' := (138, [(18, 130), (0, v1), (0, v5), (0, v7), (99, 0)], [(0, 1)], v6, XX)) rfl ?_
                exact tM_comparison_138 r v6 v1 v5 v7 1 (99, 0)
              · refine T_run hD 3 (c' := (129, [(18, 130), (0, v1), (0, v5), (0, v7), (99, 0)], [(0, 4), (0, v6 130 22)], v6, XX)) rfl ?_
                refine T_if hD (c1 := (132, _, _, _, _)) (c2 := (136, _, _, _, _)) rfl (fun _ => ?_) (fun _ => ?_)
                · refine T_run hD 2 (c' := (138, [(18, 130), (0, v1), (0, v5), (0, v7), (99, 0)], [(0, 2)], v6, XX)) rfl ?_
                  exact tM_comparison_138 r v6 v1 v5 v7 2 (99, 0)
                · refine T_run hD 1 (c' := (138, [(18, 130), (0, v1), (0, v5), (0, v7), (99, 0)], [(0, 9)], v6, XX)) rfl ?_
                  exact tM_comparison_138 r v6 v1 v5 v7 9 (99, 0)
          · refine T_run hD 3 (c' := (93, [(18, 130), (0, v1), (0, v5), (0, v7), (99, 0)], [(0, v7), (31, 133)], v6, XX)) rfl ?_
            refine T_gd hD (c1 := (94, [(18, 130), (0, v1), (0, v5), (0, v7), (99, 0)], [(0, v6 133 v7)], v6, XX)) rfl (fun g12 => ?_)
            refine T_call0 hD (D2 := d_M_sortOf) (q2 := 57) (as := [(0, v6 133 v7)]) (c1 := (97, [(18, 130), (0, v1), (0, v5), (0, v7), (99, 0)], [], v6, XX)) (r2 := (1, (0, fM_sortOf (v6 133 v7)), v6, XX)) (c2 := (97, [(18, 130), (0, v1), (0, v5), (0, v7), (99, 0)], [(0, fM_sortOf (v6 133 v7))], v6, XX)) rfl rfl (Go.mono (tM_sortOf v6 (v6 133 v7)) (by decide)) rfl ?_
            refine T_run hD 1 (c' := (138, [(18, 130), (0, v1), (0, v5), (0, v7), (99, 0)], [(0, fM_sortOf (v6 133 v7))], v6, XX)) rfl ?_
            exact tM_comparison_138 r v6 v1 v5 v7 (fM_sortOf (v6 133 v7)) (99, 0)
      · refine T_run hD 1 (c' := (39, [(18, 130), (0, v1), (99, 0), (99, 0), (99, 0)], [(18, 130)], mup v2 143 (v2 130 26) v1, XX)) rfl ?_
        refine T_call hD (D2 := d_M_next) (q2 := 48) (as := [(18, 130)]) (c1 := (42, [(18, 130), (0, v1), (99, 0), (99, 0), (99, 0)], [], mup v2 143 (v2 130 26) v1, XX)) (mk := fun w => (0, (0, 0), w, XX)) (cc := fun v13 => (42, [(18, 130), (0, v1), (99, 0), (99, 0), (99, 0)], [], v13, XX)) rfl rfl (fun y9 h9y => Go.mono (tM_next (mup v2 143 (v2 130 26) v1) y9 h9y) (by decide)) (fun _ => rfl) (fun v13 => ?_)
        refine T_run hD 2 (c' := (46, [(18, 130), (0, v1), (99, 0), (99, 0), (99, 0)], [(1, 1819047278), (18, 130)], v13, XX)) rfl ?_
        refine T_call hD (D2 := d_M_passWord) (q2 := 54) (as := [(18, 130), (1, 1819047278)]) (c1 := (49, [(18, 130), (0, v1), (99, 0), (99, 0), (99, 0)], [], v13, XX)) (mk := fun w => (1, (0, w.1), w.2, XX)) (cc := fun v14 => (49, [(18, 130), (0, v1), (99, 0), (99, 0), (99, 0)], [(0, v14.1)], v14.2, XX)) rfl rfl (fun y9 h9y => Go.mono (tM_passWord v13 1819047278 y9 h9y) (by decide)) (fun _ => rfl) (fun v14 => ?_)
        refine T_if hD (c1 := (52, _, _, _, _)) (c2 := (54, _, _, _, _)) rfl (fun _ => ?_) (fun _ => ?_)
        · refine T_run hD 1 (c' := (53, [(18, 130), (0, v1), (99, 0), (99, 0), (99, 0)], [(0, 0)], v14.2, XX)) rfl ?_
          exact T_fin hD rfl (fun h => h)
        · refine T_run hD 2 (c' := (56, [(18, 130), (0, v1), (99, 0), (99, 0), (99, 0)], [(0, 1), (18, 130)], v14.2, XX)) rfl ?_
          refine T_call hD (D2 := d_M_addStep) (q2 := 56) (as := [(18, 130), (0, 1)]) (c1 := (59, [(18, 130), (0, v1), (99, 0), (99, 0), (99, 0)], [], v14.2, XX)) (mk := fun w => (0, (0, 0), w, XX)) (cc := fun v15 => (59, [(18, 130), (0, v1), (99, 0), (99, 0), (99, 0)], [], v15, XX)) rfl rfl (fun y9 h9y => Go.mono (tM_addStep v14.2 1 y9 h9y) (by decide)) (fun _ => rfl) (fun v15 => ?_)
          refine T_run hD 1 (c' := (60, [(18, 130), (0, v1), (99, 0), (99, 0), (99, 0)], [(0, 1)], v15, XX)) rfl ?_
          exact T_fin hD rfl (fun h => h)
  rw [← hr]
  exact h9 v hv hr
abbrev hM_depth_4 (m : aM) : (Int × Int) → aC → Prop := fun y c => c = (4, [(18, 130), (0, (y.1)), (0, (y.2))], [], m, XX)
def fM_depth_4_b (m : aM) : (Int × Int) → Option ((Int × Int) ⊕ Int) := fun (x1, x2) =>
  if x2 < m 130 34 then
    gd (0 ≤ x2 ∧ x2 < 100) (
    if m 149 x2 = 2 then
      some (Sum.inl (w32 (x1 + 1), w32 (x2 + 1)))
    else
      if m 149 x2 = 5 then
        some (Sum.inl (w32 (x1 + 1), w32 (x2 + 1)))
      else
        some (Sum.inl (x1, w32 (x2 + 1))))
  else
    some (Sum.inr (x1))
def fM_depth_4 (m : aM) (x1 : Int) (x2 : Int) : Option Int := aLoop (fM_depth_4_b m) FU (x1, x2)
set_option maxRecDepth 100000 in
theorem tM_depth_4 (r : aR) (m : aM) (x1 : Int) (x2 : Int) : aT PB 1 60 r (fun w => r = (1, (0, w), m, XX)) (fM_depth_4 m x1 x2) (4, [(18, 130), (0, x1), (0, x2)], [], m, XX) := by
  have hD : aMd PB 60 = d_M_depth := rfl
  refine T_loop (Hd := (hM_depth_4 m)) ?_ FU _ _ rfl
  clear x1 x2
  intro y c hc
  obtain ⟨x1, x2⟩ := y
  obtain rfl := hc
  unfold fM_depth_4_b
  try dsimp only
  refine T_run hD 3 (c' := (9, [(18, 130), (0, x1), (0, x2)], [(0, m 130 34), (0, x2)], m, XX)) rfl ?_
  refine T_if hD (c1 := (12, _, _, _, _)) (c2 := (46, _, _, _, _)) rfl (fun _ => ?_) (fun _ => ?_)
  · refine T_run hD 3 (c' := (17, [(18, 130), (0, x1), (0, x2)], [(0, x2), (31, 149)], m, XX)) rfl ?_
    refine T_gd hD (c1 := (18, [(18, 130), (0, x1), (0, x2)], [(0, m 149 x2)], m, XX)) rfl (fun g1 => ?_)
    refine T_run hD 1 (c' := (19, [(18, 130), (0, x1), (0, x2)], [(0, 2), (0, m 149 x2)], m, XX)) rfl ?_
    refine T_if hD (c1 := (32, _, _, _, _)) (c2 := (22, _, _, _, _)) rfl (fun _ => ?_) (fun _ => ?_)
    · refine T_run hD 7 (c' := (4, [(18, 130), (0, w32 (x1 + 1)), (0, w32 (x2 + 1))], [], m, XX)) rfl ?_
      exact T_back0 rfl
    · refine T_run hD 3 (c' := (27, [(18, 130), (0, x1), (0, x2)], [(0, x2), (31, 149)], m, XX)) rfl ?_
      refine T_gk hD (c1 := (28, [(18, 130), (0, x1), (0, x2)], [(0, m 149 x2)], m, XX)) (P := 0 ≤ x2 ∧ x2 < 100) rfl g1 ?_
      refine T_run hD 1 (c' := (29, [(18, 130), (0, x1), (0, x2)], [(0, 5), (0, m 149 x2)], m, XX)) rfl ?_
      refine T_if hD (c1 := (32, _, _, _, _)) (c2 := (38, _, _, _, _)) rfl (fun _ => ?_) (fun _ => ?_)
      · refine T_run hD 7 (c' := (4, [(18, 130), (0, w32 (x1 + 1)), (0, w32 (x2 + 1))], [], m, XX)) rfl ?_
        exact T_back0 rfl
      · refine T_run hD 4 (c' := (4, [(18, 130), (0, x1), (0, w32 (x2 + 1))], [], m, XX)) rfl ?_
        exact T_back0 rfl
  · refine T_run hD 1 (c' := (47, [(18, 130), (0, x1), (0, x2)], [(0, x1)], m, XX)) rfl ?_
    exact T_fin hD rfl (fun h => h)
def fM_depth (m : aM) : Option Int :=
  fM_depth_4 m 0 0
set_option maxRecDepth 100000 in
theorem tM_depth (m : aM) : ∀ v, fM_depth m = some v → Go PB 1 60 (aEnt d_M_depth [(18, 130)] m XX) (1, (0, v), m, XX) := by
  intro v hv
  have hD : aMd PB 60 = d_M_depth := rfl
  obtain ⟨r, hr⟩ : ∃ r : aR, r = (1, (0, v), m, XX) := ⟨_, rfl⟩
  have h9 : aT PB 1 60 r (fun w => r = (1, (0, w), m, XX)) (fM_depth m) (0, [(18, 130), (99, 0), (99, 0)], [], m, XX) := by
    unfold fM_depth
    refine T_run hD 4 (c' := (4, [(18, 130), (0, 0), (0, 0)], [], m, XX)) rfl ?_
    exact tM_depth_4 r m 0 0 
  rw [← hr]
  exact h9 v hv hr
abbrev hM_release_0 (x1 : Int) (x2 : Int) : (aM) → aC → Prop := fun y c => c = (0, [(18, 130), (0, x1), (0, x2)], [], (y), XX)
def fM_release_0_b (x1 : Int) (x2 : Int) : (aM) → Option ((aM) ⊕ aM) := fun (m) =>
  if 0 < m 130 34 then
    gd (0 ≤ w32 ((m 130 34) - 1) ∧ w32 ((m 130 34) - 1) < 100) (
    if m 149 (w32 ((m 130 34) - 1)) < x1 then
      some (Sum.inr (m))
    else
      if x2 < m 149 (w32 ((m 130 34) - 1)) then
        some (Sum.inr (m))
      else
        (fM_addStep (mup m 130 34 (w32 ((m 130 34) - 1))) (m 149 (w32 ((m 130 34) - 1)))).bind fun v4 =>
        some (Sum.inl (v4)))
  else
    some (Sum.inr (m))
def fM_release_0 (m : aM) (x1 : Int) (x2 : Int) : Option aM := aLoop (fM_release_0_b x1 x2) FU (m)
set_option maxRecDepth 100000 in
theorem tM_release_0 (r : aR) (m : aM) (x1 : Int) (x2 : Int) : aT PB 2 61 r (fun w => r = (0, (0, 0), w, XX)) (fM_release_0 m x1 x2) (0, [(18, 130), (0, x1), (0, x2)], [], m, XX) := by
  have hD : aMd PB 61 = d_M_release := rfl
  refine T_loop (Hd := (hM_release_0 x1 x2)) ?_ FU _ _ rfl
  clear m
  intro m c hc
  obtain rfl := hc
  unfold fM_release_0_b
  try dsimp only
  refine T_run hD 2 (c' := (4, [(18, 130), (0, x1), (0, x2)], [(0, m 130 34)], m, XX)) rfl ?_
  refine T_if hD (c1 := (7, _, _, _, _)) (c2 := (63, _, _, _, _)) rfl (fun _ => ?_) (fun _ => ?_)
  · refine T_run hD 6 (c' := (17, [(18, 130), (0, x1), (0, x2)], [(0, w32 ((m 130 34) - 1)), (31, 149)], m, XX)) rfl ?_
    refine T_gd hD (c1 := (18, [(18, 130), (0, x1), (0, x2)], [(0, m 149 (w32 ((m 130 34) - 1)))], m, XX)) rfl (fun g3 => ?_)
    refine T_run hD 1 (c' := (19, [(18, 130), (0, x1), (0, x2)], [(0, x1), (0, m 149 (w32 ((m 130 34) - 1)))], m, XX)) rfl ?_
    refine T_if hD (c1 := (63, _, _, _, _)) (c2 := (22, _, _, _, _)) rfl (fun _ => ?_) (fun _ => ?_)
    · exact T_fin hD rfl (fun h => h)
    · refine T_run hD 6 (c' := (32, [(18, 130), (0, x1), (0, x2)], [(0, w32 ((m 130 34) - 1)), (31, 149)], m, XX)) rfl ?_
      refine T_gk hD (c1 := (33, [(18, 130), (0, x1), (0, x2)], [(0, m 149 (w32 ((m 130 34) - 1)))], m, XX)) (P := 0 ≤ w32 ((m 130 34) - 1) ∧ w32 ((m 130 34) - 1) < 100) rfl g3 ?_
      refine T_run hD 1 (c' := (34, [(18, 130), (0, x1), (0, x2)], [(0, x2), (0, m 149 (w32 ((m 130 34) - 1)))], m, XX)) rfl ?_
      refine T_if hD (c1 := (63, _, _, _, _)) (c2 := (37, _, _, _, _)) rfl (fun _ => ?_) (fun _ => ?_)
      · exact T_fin hD rfl (fun h => h)
      · refine T_run hD 11 (c' := (56, [(18, 130), (0, x1), (0, x2)], [(0, w32 ((m 130 34) - 1)), (31, 149), (18, 130)], mup m 130 34 (w32 ((m 130 34) - 1)), XX)) rfl ?_
        refine T_gk hD (c1 := (57, [(18, 130), (0, x1), (0, x2)], [(0, m 149 (w32 ((m 130 34) - 1))), (18, 130)], mup m 130 34 (w32 ((m 130 34) - 1)), XX)) (P := 0 ≤ w32 ((m 130 34) - 1) ∧ w32 ((m 130 34) - 1) < 100) rfl g3 ?_
        refine T_call hD (D2 := d_M_addStep) (q2 := 56) (as := [(18, 130), (0, m 149 (w32 ((m 130 34) - 1)))]) (c1 := (60, [(18, 130), (0, x1), (0, x2)], [], mup m 130 34 (w32 ((m 130 34) - 1)), XX)) (mk := fun w => (0, (0, 0), w, XX)) (cc := fun v4 => (60, [(18, 130), (0, x1), (0, x2)], [], v4, XX)) rfl rfl (fun y9 h9y => Go.mono (tM_addStep (mup m 130 34 (w32 ((m 130 34) - 1))) (m 149 (w32 ((m 130 34) - 1))) y9 h9y) (by decide)) (fun _ => rfl) (fun v4 => ?_)
        refine T_run hD 1 (c' := (0, [(18, 130), (0, x1), (0, x2)], [], v4, XX)) rfl ?_
        exact T_back0 rfl
  · exact T_fin hD rfl (fun h => h)
def fM_release (m : aM) (x1 : Int) (x2 : Int) : Option aM :=
  if 0 < m 130 34 then
    gd (0 ≤ w32 ((m 130 34) - 1) ∧ w32 ((m 130 34) - 1) < 100) (
    if m 149 (w32 ((m 130 34) - 1)) < x1 then
      some (m)
    else
      if x2 < m 149 (w32 ((m 130 34) - 1)) then
        some (m)
      else
        (fM_addStep (mup m 130 34 (w32 ((m 130 34) - 1))) (m 149 (w32 ((m 130 34) - 1)))).bind fun v2 =>
        fM_release_0 v2 x1 x2)
  else
    some (m)
set_option maxRecDepth 100000 in
theorem tM_release (m : aM) (x1 : Int) (x2 : Int) : ∀ v, fM_release m x1 x2 = some v → Go PB 2 61 (aEnt d_M_release [(18, 130), (0, x1), (0, x2)] m XX) (0, (0, 0), v, XX) := by
  intro v hv
  have hD : aMd PB 61 = d_M_release := rfl
  obtain ⟨r, hr⟩ : ∃ r : aR, r = (0, (0, 0), v, XX) := ⟨_, rfl⟩
  have h9 : aT PB 2 61 r (fun w => r = (0, (0, 0), w, XX)) (fM_release m x1 x2) (0, [(18, 130), (0, x1), (0, x2)], [], m, XX) := by
    unfold fM_release
    refine T_run hD 2 (c' := (4, [(18, 130), (0, x1), (0, x2)], [(0, m 130 34)], m, XX)) rfl ?_
    refine T_if hD (c1 := (7, _, _, _, _)) (c2 := (63, _, _, _, _)) rfl (fun _ => ?_) (fun _ => ?_)
    · refine T_run hD 6 (c' := (17, [(18, 130), (0, x1), (0, x2)], [(0, w32 ((m 130 34) - 1)), (31, 149)], m, XX)) rfl ?_
      refine T_gd hD (c1 := (18, [(18, 130), (0, x1), (0, x2)], [(0, m 149 (w32 ((m 130 34) - 1)))], m, XX)) rfl (fun g1 => ?_)
      refine T_run hD 1 (c' := (19, [(18, 130), (0, x1), (0, x2)], [(0, x1), (0, m 149 (w32 ((m 130 34) - 1)))], m, XX)) rfl ?_
      refine T_if hD (c1 := (63, _, _, _, _)) (c2 := (22, _, _, _, _)) rfl (fun _ => ?_) (fun _ => ?_)
      · exact T_fin hD rfl (fun h => h)
      · refine T_run hD 6 (c' := (32, [(18, 130), (0, x1), (0, x2)], [(0, w32 ((m 130 34) - 1)), (31, 149)], m, XX)) rfl ?_
        refine T_gk hD (c1 := (33, [(18, 130), (0, x1), (0, x2)], [(0, m 149 (w32 ((m 130 34) - 1)))], m, XX)) (P := 0 ≤ w32 ((m 130 34) - 1) ∧ w32 ((m 130 34) - 1) < 100) rfl g1 ?_
        refine T_run hD 1 (c' := (34, [(18, 130), (0, x1), (0, x2)], [(0, x2), (0, m 149 (w32 ((m 130 34) - 1)))], m, XX)) rfl ?_
        refine T_if hD (c1 := (63, _, _, _, _)) (c2 := (37, _, _, _, _)) rfl (fun _ => ?_) (fun _ => ?_)
        · exact T_fin hD rfl (fun h => h)
        · refine T_run hD 11 (c' := (56, [(18, 130), (0, x1), (0, x2)], [(0, w32 ((m 130 34) - 1)), (31, 149), (18, 130)], mup m 130 34 (w32 ((m 130 34) - 1)), XX)) rfl ?_
          refine T_gk hD (c1 := (57, [(18, 130), (0, x1), (0, x2)], [(0, m 149 (w32 ((m 130 34) - 1))), (18, 130)], mup m 130 34 (w32 ((m 130 34) - 1)), XX)) (P := 0 ≤ w32 ((m 130 34) - 1) ∧ w32 ((m 130 34) - 1) < 100) rfl g1 ?_
          refine T_call hD (D2 := d_M_addStep) (q2 := 56) (as := [(18, 130), (0, m 149 (w32 ((m 130 34) - 1)))]) (c1 := (60, [(18, 130), (0, x1), (0, x2)], [], mup m 130 34 (w32 ((m 130 34) - 1)), XX)) (mk := fun w => (0, (0, 0), w, XX)) (cc := fun v2 => (60, [(18, 130), (0, x1), (0, x2)], [], v2, XX)) rfl rfl (fun y9 h9y => Go.mono (tM_addStep (mup m 130 34 (w32 ((m 130 34) - 1))) (m 149 (w32 ((m 130 34) - 1))) y9 h9y) (by decide)) (fun _ => rfl) (fun v2 => ?_)
          refine T_run hD 1 (c' := (0, [(18, 130), (0, x1), (0, x2)], [], v2, XX)) rfl ?_
          exact tM_release_0 r v2 x1 x2 
    · exact T_fin hD rfl (fun h => h)
  rw [← hr]
  exact h9 v hv hr
abbrev hM_part_2 : (aM × Int) → aC → Prop := fun y c => ∃ (z2 : aV), c = (2, [(18, 130), (0, (y.2)), z2], [], (y.1), XX)
def fM_part_68 (m : aM) (x1 : Int) (s0 : Int) (s1 : Int) (s2 : Int) : Option ((aM × Int) ⊕ (Int × aM)) :=
  gd (0 ≤ s1 ∧ s1 < LEN s0) (
  (fM_next (mup (mup m s0 s1 s2) 130 34 (w32 (((mup m s0 s1 s2) 130 34) + 1)))).bind fun v7 =>
  some (Sum.inl (v7, x1)))
set_option maxRecDepth 100000 in
theorem tM_part_68 (r : aR) (m : aM) (x1 : Int) (s0 : Int) (s1 : Int) (s2 : Int) (z2 : aV) : aT PB 7 62 r (aTurn PB 7 62 r (hM_part_2 ) (fun w => r = (1, (0, w.1), w.2, XX))) (fM_part_68 m x1 s0 s1 s2) (68, [(18, 130), (0, x1), z2], [(0, s2), (0, s1), (31, s0)], m, XX) := by
  have hD : aMd PB 62 = d_M_part := rfl
  unfold fM_part_68
  refine T_gd hD (c1 := (69, [(18, 130), (0, x1), z2], [], mup m s0 s1 s2, XX)) rfl (fun g6 => ?_)
  refine T_run hD 7 (c' := (80, [(18, 130), (0, x1), z2], [(18, 130)], mup (mup m s0 s1 s2) 130 34 (w32 (((mup m s0 s1 s2) 130 34) + 1)), XX)) rfl ?_
  refine T_call hD (D2 := d_M_next) (q2 := 48) (as := [(18, 130)]) (c1 := (83, [(18, 130), (0, x1), z2], [], mup (mup m s0 s1 s2) 130 34 (w32 (((mup m s0 s1 s2) 130 34) + 1)), XX)) (mk := fun w => (0, (0, 0), w, XX)) (cc := fun v7 => (83, [(18, 130), (0, x1), z2], [], v7, XX)) rfl rfl (fun y9 h9y => Go.mono (tM_next (mup (mup m s0 s1 s2) 130 34 (w32 (((mup m s0 s1 s2) 130 34) + 1))) y9 h9y) (by decide)) (fun _ => rfl) (fun v7 => ?_)
  refine T_run hD 1 (c' := (2, [(18, 130), (0, x1), z2], [], v7, XX)) rfl ?_
  exact T_back0 ⟨_, rfl⟩
def fM_part_32 (m : aM) (x2 : Int) (s0 : Int) : Option ((aM × Int) ⊕ (Int × aM)) :=
  if s0 = 0 then
    some (Sum.inl (m, s0))
  else
    (fM_depth m).bind fun v5 =>
    if v5 = 8 then
      gd ((fM_wrong m).1 = 0 ∨ (fM_wrong m).1 = 1) (some (Sum.inr (((fM_wrong m).1, (fM_wrong m).2))))
    else
      if x2 = 0 then
        fM_part_68 m s0 149 (m 130 34) 5
      else
        fM_part_68 m s0 149 (m 130 34) 2
set_option maxRecDepth 100000 in
theorem tM_part_32 (r : aR) (m : aM) (x2 : Int) (s0 : Int) (z1 : aV) : aT PB 7 62 r (aTurn PB 7 62 r (hM_part_2 ) (fun w => r = (1, (0, w.1), w.2, XX))) (fM_part_32 m x2 s0) (32, [(18, 130), z1, (0, x2)], [(0, s0)], m, XX) := by
  have hD : aMd PB 62 = d_M_part := rfl
  unfold fM_part_32
  refine T_run hD 2 (c' := (34, [(18, 130), (0, s0), (0, x2)], [(0, s0)], m, XX)) rfl ?_
  refine T_if hD (c1 := (83, _, _, _, _)) (c2 := (37, _, _, _, _)) rfl (fun _ => ?_) (fun _ => ?_)
  · refine T_run hD 1 (c' := (2, [(18, 130), (0, s0), (0, x2)], [], m, XX)) rfl ?_
    exact T_back0 ⟨_, rfl⟩
  · refine T_run hD 1 (c' := (38, [(18, 130), (0, s0), (0, x2)], [(18, 130)], m, XX)) rfl ?_
    refine T_call hD (D2 := d_M_depth) (q2 := 60) (as := [(18, 130)]) (c1 := (41, [(18, 130), (0, s0), (0, x2)], [], m, XX)) (mk := fun w => (1, (0, w), m, XX)) (cc := fun v5 => (41, [(18, 130), (0, s0), (0, x2)], [(0, v5)], m, XX)) rfl rfl (fun y9 h9y => Go.mono (tM_depth m y9 h9y) (by decide)) (fun _ => rfl) (fun v5 => ?_)
    refine T_run hD 1 (c' := (43, [(18, 130), (0, s0), (0, x2)], [(0, 8), (0, v5)], m, XX)) rfl ?_
    refine T_if hD (c1 := (46, _, _, _, _)) (c2 := (51, _, _, _, _)) rfl (fun _ => ?_) (fun _ => ?_)
    · refine T_run hD 1 (c' := (47, [(18, 130), (0, s0), (0, x2)], [(18, 130)], m, XX)) rfl ?_
      refine T_call0 hD (D2 := d_M_wrong) (q2 := 52) (as := [(18, 130)]) (c1 := (50, [(18, 130), (0, s0), (0, x2)], [], m, XX)) (r2 := (1, (0, (fM_wrong m).1), (fM_wrong m).2, XX)) (c2 := (50, [(18, 130), (0, s0), (0, x2)], [(0, (fM_wrong m).1)], (fM_wrong m).2, XX)) rfl rfl (Go.mono (tM_wrong m) (by decide)) rfl ?_
      exact T_gfin hD (fun h => if_pos (decide_eq_true h)) (fun h => h)
    · refine T_run hD 5 (c' := (60, [(18, 130), (0, s0), (0, x2)], [(0, x2), (0, m 130 34), (31, 149)], m, XX)) rfl ?_
      refine T_if hD (c1 := (67, _, _, _, _)) (c2 := (63, _, _, _, _)) rfl (fun _ => ?_) (fun _ => ?_)
      · refine T_run hD 1 (c' := (68, [(18, 130), (0, s0), (0, x2)], [(0, 5), (0, m 130 34), (31, 149)], m, XX)) rfl ?_
        exact tM_part_68 r m s0 149 (m 130 34) 5 (0, x2)
      · refine T_run hD 2 (c' := (68, [(18, 130), (0, s0), (0, x2)], [(0, 2), (0, m 130 34), (31, 149)], m, XX)) rfl ?_
        exact tM_part_68 r m s0 149 (m 130 34) 2 (0, x2)
def fM_part_2_b : (aM × Int) → Option ((aM × Int) ⊕ (Int × aM)) := fun (m, x1) =>
  if x1 = 0 then
    (fM_comparison m).bind fun v1 =>
    if v1.1 = 0 then
      some (Sum.inr ((0, v1.2)))
    else
      (fM_release v1.2 2 2).bind fun v2 =>
      some (Sum.inr ((1, v2)))
  else
    (fM_isWord m 7630702).bind fun v3 =>
    if v3 = 0 then
      (fM_isSign m 40).bind fun v4 =>
      if v4 = 0 then
        fM_part_32 m v3 0
      else
        fM_part_32 m v3 1
    else
      fM_part_32 m v3 1
def fM_part_2 (m : aM) (x1 : Int) : Option (Int × aM) := aLoop (fM_part_2_b ) FU (m, x1)
set_option maxRecDepth 100000 in
theorem tM_part_2 (r : aR) (m : aM) (x1 : Int) (z2 : aV) : aT PB 7 62 r (fun w => r = (1, (0, w.1), w.2, XX)) (fM_part_2 m x1) (2, [(18, 130), (0, x1), z2], [], m, XX) := by
  have hD : aMd PB 62 = d_M_part := rfl
  refine T_loop (Hd := (hM_part_2 )) ?_ FU _ _ ⟨z2, rfl⟩
  clear m x1 z2
  intro y c hc
  obtain ⟨m, x1⟩ := y
  obtain ⟨z2, rfl⟩ := hc
  unfold fM_part_2_b
  try dsimp only
  refine T_run hD 1 (c' := (3, [(18, 130), (0, x1), z2], [(0, x1)], m, XX)) rfl ?_
  refine T_if hD (c1 := (86, _, _, _, _)) (c2 := (6, _, _, _, _)) rfl (fun _ => ?_) (fun _ => ?_)
  · refine T_run hD 1 (c' := (87, [(18, 130), (0, x1), z2], [(18, 130)], m, XX)) rfl ?_
    refine T_call hD (D2 := d_M_comparison) (q2 := 59) (as := [(18, 130)]) (c1 := (90, [(18, 130), (0, x1), z2], [], m, XX)) (mk := fun w => (1, (0, w.1), w.2, XX)) (cc := fun v1 => (90, [(18, 130), (0, x1), z2], [(0, v1.1)], v1.2, XX)) rfl rfl (fun y9 h9y => Go.mono (tM_comparison m y9 h9y) (by decide)) (fun _ => rfl) (fun v1 => ?_)
    refine T_if hD (c1 := (93, _, _, _, _)) (c2 := (95, _, _, _, _)) rfl (fun _ => ?_) (fun _ => ?_)
    · refine T_run hD 1 (c' := (94, [(18, 130), (0, x1), z2], [(0, 0)], v1.2, XX)) rfl ?_
      exact T_fin hD rfl (fun h => h)
    · refine T_run hD 3 (c' := (98, [(18, 130), (0, x1), z2], [(0, 2), (0, 2), (18, 130)], v1.2, XX)) rfl ?_
      refine T_call hD (D2 := d_M_release) (q2 := 61) (as := [(18, 130), (0, 2), (0, 2)]) (c1 := (101, [(18, 130), (0, x1), z2], [], v1.2, XX)) (mk := fun w => (0, (0, 0), w, XX)) (cc := fun v2 => (101, [(18, 130), (0, x1), z2], [], v2, XX)) rfl rfl (fun y9 h9y => Go.mono (tM_release v1.2 2 2 y9 h9y) (by decide)) (fun _ => rfl) (fun v2 => ?_)
      refine T_run hD 1 (c' := (102, [(18, 130), (0, x1), z2], [(0, 1)], v2, XX)) rfl ?_
      exact T_fin hD rfl (fun h => h)
  · refine T_run hD 2 (c' := (10, [(18, 130), (0, x1), z2], [(1, 7630702), (18, 130)], m, XX)) rfl ?_
    refine T_call hD (D2 := d_M_isWord) (q2 := 50) (as := [(18, 130), (1, 7630702)]) (c1 := (13, [(18, 130), (0, x1), z2], [], m, XX)) (mk := fun w => (1, (0, w), m, XX)) (cc := fun v3 => (13, [(18, 130), (0, x1), z2], [(0, v3)], m, XX)) rfl rfl (fun y9 h9y => Go.mono (tM_isWord m 7630702 y9 h9y) (by decide)) (fun _ => rfl) (fun v3 => ?_)
    refine T_run hD 2 (c' := (15, [(18, 130), (0, x1), (0, v3)], [(0, v3)], m, XX)) rfl ?_
    refine T_if hD (c1 := (18, _, _, _, _)) (c2 := (27, _, _, _, _)) rfl (fun _ => ?_) (fun _ => ?_)
    · refine T_run hD 2 (c' := (21, [(18, 130), (0, x1), (0, v3)], [(0, 40), (18, 130)], m, XX)) rfl ?_
      refine T_call hD (D2 := d_M_isSign) (q2 := 51) (as := [(18, 130), (0, 40)]) (c1 := (24, [(18, 130), (0, x1), (0, v3)], [], m, XX)) (mk := fun w => (1, (0, w), m, XX)) (cc := fun v4 => (24, [(18, 130), (0, x1), (0, v3)], [(0, v4)], m, XX)) rfl rfl (fun y9 h9y => Go.mono (tM_isSign m 40 y9 h9y) (by decide)) (fun _ => rfl) (fun v4 => ?_)
      refine T_if hD (c1 := (31, _, _, _, _)) (c2 := (27, _, _, _, _)) rfl (fun _ => ?_) (fun _ => ?_)
      · refine T_run hD 1 (c' := (32, [(18, 130), (0, x1), (0, v3)], [(0, 0)], m, XX)) rfl ?_
        exact tM_part_32 r m v3 0 (0, x1)
      · refine T_run hD 2 (c' := (32, [(18, 130), (0, x1), (0, v3)], [(0, 1)], m, XX)) rfl ?_
        exact tM_part_32 r m v3 1 (0, x1)
    · refine T_run hD 2 (c' := (32, [(18, 130), (0, x1), (0, v3)], [(0, 1)], m, XX)) rfl ?_
      exact tM_part_32 r m v3 1 (0, x1)
def fM_part (m : aM) : Option (Int × aM) :=
  fM_part_2 m 1
set_option maxRecDepth 100000 in
theorem tM_part (m : aM) : ∀ v, fM_part m = some v → Go PB 7 62 (aEnt d_M_part [(18, 130)] m XX) (1, (0, v.1), v.2, XX) := by
  intro v hv
  have hD : aMd PB 62 = d_M_part := rfl
  obtain ⟨r, hr⟩ : ∃ r : aR, r = (1, (0, v.1), v.2, XX) := ⟨_, rfl⟩
  have h9 : aT PB 7 62 r (fun w => r = (1, (0, w.1), w.2, XX)) (fM_part m) (0, [(18, 130), (99, 0), (99, 0)], [], m, XX) := by
    unfold fM_part
    refine T_run hD 2 (c' := (2, [(18, 130), (0, 1), (99, 0)], [], m, XX)) rfl ?_
    exact tM_part_2 r m 1 (99, 0)
  rw [← hr]
  exact h9 v hv hr
abbrev hM_condition_12 : (aM × Int) → aC → Prop := fun y c => ∃ (z2 : aV), c = (12, [(18, 130), (0, (y.2)), z2], [], (y.1), XX)
abbrev hM_condition_25 : (aM) → aC → Prop := fun y c => ∃ (z1 : aV) (z2 : aV), c = (25, [(18, 130), z1, z2], [], (y), XX)
def fM_condition_133 (m : aM) (x1 : Int) (s0 : Int) (s1 : Int) (s2 : Int) : Option ((aM × Int) ⊕ (Int × aM)) :=
  gd (0 ≤ s1 ∧ s1 < LEN s0) (
  (fM_next (mup (mup m s0 s1 s2) 130 34 (w32 (((mup m s0 s1 s2) 130 34) + 1)))).bind fun v9 =>
  some (Sum.inl (v9, x1)))
set_option maxRecDepth 100000 in
theorem tM_condition_133 (r : aR) (m : aM) (x1 : Int) (s0 : Int) (s1 : Int) (s2 : Int) (z2 : aV) : aT PB 8 63 r (aTurn PB 8 63 r (hM_condition_12 ) (fun w => r = (1, (0, w.1), w.2, XX))) (fM_condition_133 m x1 s0 s1 s2) (133, [(18, 130), (0, x1), z2], [(0, s2), (0, s1), (31, s0)], m, XX) := by
  have hD : aMd PB 63 = d_M_condition := rfl
  unfold fM_condition_133
  refine T_gd hD (c1 := (134, [(18, 130), (0, x1), z2], [], mup m s0 s1 s2, XX)) rfl (fun g8 => ?_)
  refine T_run hD 7 (c' := (145, [(18, 130), (0, x1), z2], [(18, 130)], mup (mup m s0 s1 s2) 130 34 (w32 (((mup m s0 s1 s2) 130 34) + 1)), XX)) rfl ?_
  refine T_call hD (D2 := d_M_next) (q2 := 48) (as := [(18, 130)]) (c1 := (148, [(18, 130), (0, x1), z2], [], mup (mup m s0 s1 s2) 130 34 (w32 (((mup m s0 s1 s2) 130 34) + 1)), XX)) (mk := fun w => (0, (0, 0), w, XX)) (cc := fun v9 => (148, [(18, 130), (0, x1), z2], [], v9, XX)) rfl rfl (fun y9 h9y => Go.mono (tM_next (mup (mup m s0 s1 s2) 130 34 (w32 (((mup m s0 s1 s2) 130 34) + 1))) y9 h9y) (by decide)) (fun _ => rfl) (fun v9 => ?_)
  refine T_run hD 1 (c' := (12, [(18, 130), (0, x1), z2], [], v9, XX)) rfl ?_
  exact T_back0 ⟨_, rfl⟩
def fM_condition_113 (m : aM) (x1 : Int) (x2 : Int) (s1 : Int) (s2 : Int) : Option ((aM × Int) ⊕ (Int × aM)) :=
  (fM_release m s1 s2).bind fun v7 =>
  if x2 = 0 then
    fM_condition_133 v7 x1 149 (v7 130 34) 4
  else
    fM_condition_133 v7 x1 149 (v7 130 34) 3
set_option maxRecDepth 100000 in
theorem tM_condition_113 (r : aR) (m : aM) (x1 : Int) (x2 : Int) (s1 : Int) (s2 : Int) : aT PB 8 63 r (aTurn PB 8 63 r (hM_condition_12 ) (fun w => r = (1, (0, w.1), w.2, XX))) (fM_condition_113 m x1 x2 s1 s2) (113, [(18, 130), (0, x1), (0, x2)], [(0, s2), (0, s1), (18, 130)], m, XX) := by
  have hD : aMd PB 63 = d_M_condition := rfl
  unfold fM_condition_113
  refine T_call hD (D2 := d_M_release) (q2 := 61) (as := [(18, 130), (0, s1), (0, s2)]) (c1 := (116, [(18, 130), (0, x1), (0, x2)], [], m, XX)) (mk := fun w => (0, (0, 0), w, XX)) (cc := fun v7 => (116, [(18, 130), (0, x1), (0, x2)], [], v7, XX)) rfl rfl (fun y9 h9y => Go.mono (tM_release m s1 s2 y9 h9y) (by decide)) (fun _ => rfl) (fun v7 => ?_)
  refine T_run hD 5 (c' := (125, [(18, 130), (0, x1), (0, x2)], [(0, x2), (0, v7 130 34), (31, 149)], v7, XX)) rfl ?_
  refine T_if hD (c1 := (132, _, _, _, _)) (c2 := (128, _, _, _, _)) rfl (fun _ => ?_) (fun _ => ?_)
  · refine T_run hD 1 (c' := (133, [(18, 130), (0, x1), (0, x2)], [(0, 4), (0, v7 130 34), (31, 149)], v7, XX)) rfl ?_
    exact tM_condition_133 r v7 x1 149 (v7 130 34) 4 (0, x2)
  · refine T_run hD 2 (c' := (133, [(18, 130), (0, x1), (0, x2)], [(0, 3), (0, v7 130 34), (31, 149)], v7, XX)) rfl ?_
    exact tM_condition_133 r v7 x1 149 (v7 130 34) 3 (0, x2)
def fM_condition_97 (m : aM) (x2 : Int) (s0 : Int) : Option ((aM × Int) ⊕ (Int × aM)) :=
  if s0 = 0 then
    some (Sum.inl (m, s0))
  else
    if x2 = 0 then
      fM_condition_113 m s0 x2 3 4
    else
      fM_condition_113 m s0 x2 3 3
set_option maxRecDepth 100000 in
theorem tM_condition_97 (r : aR) (m : aM) (x2 : Int) (s0 : Int) (z1 : aV) : aT PB 8 63 r (aTurn PB 8 63 r (hM_condition_12 ) (fun w => r = (1, (0, w.1), w.2, XX))) (fM_condition_97 m x2 s0) (97, [(18, 130), z1, (0, x2)], [(0, s0)], m, XX) := by
  have hD : aMd PB 63 = d_M_condition := rfl
  unfold fM_condition_97
  refine T_run hD 2 (c' := (99, [(18, 130), (0, s0), (0, x2)], [(0, s0)], m, XX)) rfl ?_
  refine T_if hD (c1 := (148, _, _, _, _)) (c2 := (102, _, _, _, _)) rfl (fun _ => ?_) (fun _ => ?_)
  · refine T_run hD 1 (c' := (12, [(18, 130), (0, s0), (0, x2)], [], m, XX)) rfl ?_
    exact T_back0 ⟨_, rfl⟩
  · refine T_run hD 3 (c' := (105, [(18, 130), (0, s0), (0, x2)], [(0, x2), (0, 3), (18, 130)], m, XX)) rfl ?_
    refine T_if hD (c1 := (112, _, _, _, _)) (c2 := (108, _, _, _, _)) rfl (fun _ => ?_) (fun _ => ?_)
    · refine T_run hD 1 (c' := (113, [(18, 130), (0, s0), (0, x2)], [(0, 4), (0, 3), (18, 130)], m, XX)) rfl ?_
      exact tM_condition_113 r m s0 x2 3 4 
    · refine T_run hD 2 (c' := (113, [(18, 130), (0, s0), (0, x2)], [(0, 3), (0, 3), (18, 130)], m, XX)) rfl ?_
      exact tM_condition_113 r m s0 x2 3 3 
def fM_condition_70 (m : aM) : Option ((aM × Int) ⊕ (Int × aM)) :=
  (fM_isWord m 6581857).bind fun v5 =>
  if v5 = 0 then
    (fM_isWord m 29295).bind fun v6 =>
    if v6 = 0 then
      fM_condition_97 m v5 0
    else
      fM_condition_97 m v5 1
  else
    fM_condition_97 m v5 1
set_option maxRecDepth 100000 in
theorem tM_condition_70 (r : aR) (m : aM) (z1 : aV) (z2 : aV) : aT PB 8 63 r (aTurn PB 8 63 r (hM_condition_12 ) (fun w => r = (1, (0, w.1), w.2, XX))) (fM_condition_70 m) (70, [(18, 130), z1, z2], [], m, XX) := by
  have hD : aMd PB 63 = d_M_condition := rfl
  unfold fM_condition_70
  refine T_run hD 2 (c' := (74, [(18, 130), z1, z2], [(1, 6581857), (18, 130)], m, XX)) rfl ?_
  refine T_call hD (D2 := d_M_isWord) (q2 := 50) (as := [(18, 130), (1, 6581857)]) (c1 := (77, [(18, 130), z1, z2], [], m, XX)) (mk := fun w => (1, (0, w), m, XX)) (cc := fun v5 => (77, [(18, 130), z1, z2], [(0, v5)], m, XX)) rfl rfl (fun y9 h9y => Go.mono (tM_isWord m 6581857 y9 h9y) (by decide)) (fun _ => rfl) (fun v5 => ?_)
  refine T_run hD 2 (c' := (79, [(18, 130), aJ z1, (0, v5)], [(0, v5)], m, XX)) rfl ?_
  refine T_if hD (c1 := (82, _, _, _, _)) (c2 := (92, _, _, _, _)) rfl (fun _ => ?_) (fun _ => ?_)
  · refine T_run hD 2 (c' := (86, [(18, 130), aJ z1, (0, v5)], [(1, 29295), (18, 130)], m, XX)) rfl ?_
    refine T_call hD (D2 := d_M_isWord) (q2 := 50) (as := [(18, 130), (1, 29295)]) (c1 := (89, [(18, 130), aJ z1, (0, v5)], [], m, XX)) (mk := fun w => (1, (0, w), m, XX)) (cc := fun v6 => (89, [(18, 130), aJ z1, (0, v5)], [(0, v6)], m, XX)) rfl rfl (fun y9 h9y => Go.mono (tM_isWord m 29295 y9 h9y) (by decide)) (fun _ => rfl) (fun v6 => ?_)
    refine T_if hD (c1 := (96, _, _, _, _)) (c2 := (92, _, _, _, _)) rfl (fun _ => ?_) (fun _ => ?_)
    · refine T_run hD 1 (c' := (97, [(18, 130), aJ z1, (0, v5)], [(0, 0)], m, XX)) rfl ?_
      exact tM_condition_97 r m v5 0 (aJ z1)
    · refine T_run hD 2 (c' := (97, [(18, 130), aJ z1, (0, v5)], [(0, 1)], m, XX)) rfl ?_
      exact tM_condition_97 r m v5 1 (aJ z1)
  · refine T_run hD 2 (c' := (97, [(18, 130), aJ z1, (0, v5)], [(0, 1)], m, XX)) rfl ?_
    exact tM_condition_97 r m v5 1 (aJ z1)
def fM_condition_25_b : (aM) → Option ((aM) ⊕ ((aM × Int) ⊕ (Int × aM))) := fun (m) =>
  (fM_isSign m 41).bind fun v4 =>
  if v4 = 0 then
    (fM_condition_70 m).map Sum.inr
  else
    (fM_depth m).bind fun v10 =>
    if 0 < v10 then
      (fM_release m 3 4).bind fun v11 =>
      (fM_release (mup v11 130 34 (w32 ((v11 130 34) - 1))) 2 2).bind fun v12 =>
      (fM_next v12).bind fun v13 =>
      some (Sum.inl (v13))
    else
      (fM_condition_70 m).map Sum.inr
def fM_condition_25 (m : aM) : Option ((aM × Int) ⊕ (Int × aM)) := aLoop (fM_condition_25_b ) FU (m)
set_option maxRecDepth 100000 in
theorem tM_condition_25 (r : aR) (m : aM) (z1 : aV) (z2 : aV) : aT PB 8 63 r (aTurn PB 8 63 r (hM_condition_12 ) (fun w => r = (1, (0, w.1), w.2, XX))) (fM_condition_25 m) (25, [(18, 130), z1, z2], [], m, XX) := by
  have hD : aMd PB 63 = d_M_condition := rfl
  refine T_loop (Hd := (hM_condition_25 )) ?_ FU _ _ ⟨z1, z2, rfl⟩
  clear m z1 z2
  intro m c hc
  obtain ⟨z1, z2, rfl⟩ := hc
  unfold fM_condition_25_b
  try dsimp only
  refine T_run hD 2 (c' := (28, [(18, 130), z1, z2], [(0, 41), (18, 130)], m, XX)) rfl ?_
  refine T_call hD (D2 := d_M_isSign) (q2 := 51) (as := [(18, 130), (0, 41)]) (c1 := (31, [(18, 130), z1, z2], [], m, XX)) (mk := fun w => (1, (0, w), m, XX)) (cc := fun v4 => (31, [(18, 130), z1, z2], [(0, v4)], m, XX)) rfl rfl (fun y9 h9y => Go.mono (tM_isSign m 41 y9 h9y) (by decide)) (fun _ => rfl) (fun v4 => ?_)
  refine T_if hD (c1 := (70, _, _, _, _)) (c2 := (34, _, _, _, _)) rfl (fun _ => ?_) (fun _ => ?_)
  · exact T_map (tM_condition_70 r m  z1 z2)
  · refine T_run hD 1 (c' := (35, [(18, 130), z1, z2], [(18, 130)], m, XX)) rfl ?_
    refine T_call hD (D2 := d_M_depth) (q2 := 60) (as := [(18, 130)]) (c1 := (38, [(18, 130), z1, z2], [], m, XX)) (mk := fun w => (1, (0, w), m, XX)) (cc := fun v10 => (38, [(18, 130), z1, z2], [(0, v10)], m, XX)) rfl rfl (fun y9 h9y => Go.mono (tM_depth m y9 h9y) (by decide)) (fun _ => rfl) (fun v10 => ?_)
    refine T_if hD (c1 := (41, _, _, _, _)) (c2 := (70, _, _, _, _)) rfl (fun _ => ?_) (fun _ => ?_)
    · refine T_run hD 3 (c' := (44, [(18, 130), z1, z2], [(0, 4), (0, 3), (18, 130)], m, XX)) rfl ?_
      refine T_call hD (D2 := d_M_release) (q2 := 61) (as := [(18, 130), (0, 3), (0, 4)]) (c1 := (47, [(18, 130), z1, z2], [], m, XX)) (mk := fun w => (0, (0, 0), w, XX)) (cc := fun v11 => (47, [(18, 130), z1, z2], [], v11, XX)) rfl rfl (fun y9 h9y => Go.mono (tM_release m 3 4 y9 h9y) (by decide)) (fun _ => rfl) (fun v11 => ?_)
      refine T_run hD 9 (c' := (60, [(18, 130), z1, z2], [(0, 2), (0, 2), (18, 130)], mup v11 130 34 (w32 ((v11 130 34) - 1)), XX)) rfl ?_
      refine T_call hD (D2 := d_M_release) (q2 := 61) (as := [(18, 130), (0, 2), (0, 2)]) (c1 := (63, [(18, 130), z1, z2], [], mup v11 130 34 (w32 ((v11 130 34) - 1)), XX)) (mk := fun w => (0, (0, 0), w, XX)) (cc := fun v12 => (63, [(18, 130), z1, z2], [], v12, XX)) rfl rfl (fun y9 h9y => Go.mono (tM_release (mup v11 130 34 (w32 ((v11 130 34) - 1))) 2 2 y9 h9y) (by decide)) (fun _ => rfl) (fun v12 => ?_)
      refine T_run hD 1 (c' := (64, [(18, 130), z1, z2], [(18, 130)], v12, XX)) rfl ?_
      refine T_call hD (D2 := d_M_next) (q2 := 48) (as := [(18, 130)]) (c1 := (67, [(18, 130), z1, z2], [], v12, XX)) (mk := fun w => (0, (0, 0), w, XX)) (cc := fun v13 => (67, [(18, 130), z1, z2], [], v13, XX)) rfl rfl (fun y9 h9y => Go.mono (tM_next v12 y9 h9y) (by decide)) (fun _ => rfl) (fun v13 => ?_)
      refine T_run hD 1 (c' := (25, [(18, 130), z1, z2], [], v13, XX)) rfl ?_
      exact T_back0 ⟨_, _, rfl⟩
    · exact T_map (tM_condition_70 r m  z1 z2)
def fM_condition_12_b : (aM × Int) → Option ((aM × Int) ⊕ (Int × aM)) := fun (m, x1) =>
  if x1 = 0 then
    (fM_depth m).bind fun v1 =>
    if 0 < v1 then
      gd ((fM_wrong m).1 = 0 ∨ (fM_wrong m).1 = 1) (some (Sum.inr (((fM_wrong m).1, (fM_wrong m).2))))
    else
      (fM_release m 3 4).bind fun v2 =>
      some (Sum.inr ((1, v2)))
  else
    (fM_part m).bind fun v3 =>
    if v3.1 = 0 then
      some (Sum.inr ((0, v3.2)))
    else
      fM_condition_25 v3.2
def fM_condition_12 (m : aM) (x1 : Int) : Option (Int × aM) := aLoop (fM_condition_12_b ) FU (m, x1)
set_option maxRecDepth 100000 in
theorem tM_condition_12 (r : aR) (m : aM) (x1 : Int) (z2 : aV) : aT PB 8 63 r (fun w => r = (1, (0, w.1), w.2, XX)) (fM_condition_12 m x1) (12, [(18, 130), (0, x1), z2], [], m, XX) := by
  have hD : aMd PB 63 = d_M_condition := rfl
  refine T_loop (Hd := (hM_condition_12 )) ?_ FU _ _ ⟨z2, rfl⟩
  clear m x1 z2
  intro y c hc
  obtain ⟨m, x1⟩ := y
  obtain ⟨z2, rfl⟩ := hc
  unfold fM_condition_12_b
  try dsimp only
  refine T_run hD 1 (c' := (13, [(18, 130), (0, x1), z2], [(0, x1)], m, XX)) rfl ?_
  refine T_if hD (c1 := (151, _, _, _, _)) (c2 := (16, _, _, _, _)) rfl (fun _ => ?_) (fun _ => ?_)
  · refine T_run hD 1 (c' := (152, [(18, 130), (0, x1), z2], [(18, 130)], m, XX)) rfl ?_
    refine T_call hD (D2 := d_M_depth) (q2 := 60) (as := [(18, 130)]) (c1 := (155, [(18, 130), (0, x1), z2], [], m, XX)) (mk := fun w => (1, (0, w), m, XX)) (cc := fun v1 => (155, [(18, 130), (0, x1), z2], [(0, v1)], m, XX)) rfl rfl (fun y9 h9y => Go.mono (tM_depth m y9 h9y) (by decide)) (fun _ => rfl) (fun v1 => ?_)
    refine T_if hD (c1 := (158, _, _, _, _)) (c2 := (163, _, _, _, _)) rfl (fun _ => ?_) (fun _ => ?_)
    · refine T_run hD 1 (c' := (159, [(18, 130), (0, x1), z2], [(18, 130)], m, XX)) rfl ?_
      refine T_call0 hD (D2 := d_M_wrong) (q2 := 52) (as := [(18, 130)]) (c1 := (162, [(18, 130), (0, x1), z2], [], m, XX)) (r2 := (1, (0, (fM_wrong m).1), (fM_wrong m).2, XX)) (c2 := (162, [(18, 130), (0, x1), z2], [(0, (fM_wrong m).1)], (fM_wrong m).2, XX)) rfl rfl (Go.mono (tM_wrong m) (by decide)) rfl ?_
      exact T_gfin hD (fun h => if_pos (decide_eq_true h)) (fun h => h)
    · refine T_run hD 3 (c' := (166, [(18, 130), (0, x1), z2], [(0, 4), (0, 3), (18, 130)], m, XX)) rfl ?_
      refine T_call hD (D2 := d_M_release) (q2 := 61) (as := [(18, 130), (0, 3), (0, 4)]) (c1 := (169, [(18, 130), (0, x1), z2], [], m, XX)) (mk := fun w => (0, (0, 0), w, XX)) (cc := fun v2 => (169, [(18, 130), (0, x1), z2], [], v2, XX)) rfl rfl (fun y9 h9y => Go.mono (tM_release m 3 4 y9 h9y) (by decide)) (fun _ => rfl) (fun v2 => ?_)
      refine T_run hD 1 (c' := (170, [(18, 130), (0, x1), z2], [(0, 1)], v2, XX)) rfl ?_
      exact T_fin hD rfl (fun h => h)
  · refine T_run hD 1 (c' := (17, [(18, 130), (0, x1), z2], [(18, 130)], m, XX)) rfl ?_
    refine T_call hD (D2 := d_M_part) (q2 := 62) (as := [(18, 130)]) (c1 := (20, [(18, 130), (0, x1), z2], [], m, XX)) (mk := fun w => (1, (0, w.1), w.2, XX)) (cc := fun v3 => (20, [(18, 130), (0, x1), z2], [(0, v3.1)], v3.2, XX)) rfl rfl (fun y9 h9y => Go.mono (tM_part m y9 h9y) (by decide)) (fun _ => rfl) (fun v3 => ?_)
    refine T_if hD (c1 := (23, _, _, _, _)) (c2 := (25, _, _, _, _)) rfl (fun _ => ?_) (fun _ => ?_)
    · refine T_run hD 1 (c' := (24, [(18, 130), (0, x1), z2], [(0, 0)], v3.2, XX)) rfl ?_
      exact T_fin hD rfl (fun h => h)
    · exact tM_condition_25 r v3.2  (0, x1) z2
def fM_condition (m : aM) : Option (Int × aM) :=
  fM_condition_12 (mup (mup m 130 26 0) 130 34 0) 1
set_option maxRecDepth 100000 in
theorem tM_condition (m : aM) : ∀ v, fM_condition m = some v → Go PB 8 63 (aEnt d_M_condition [(18, 130)] m XX) (1, (0, v.1), v.2, XX) := by
  intro v hv
  have hD : aMd PB 63 = d_M_condition := rfl
  obtain ⟨r, hr⟩ : ∃ r : aR, r = (1, (0, v.1), v.2, XX) := ⟨_, rfl⟩
  have h9 : aT PB 8 63 r (fun w => r = (1, (0, w.1), w.2, XX)) (fM_condition m) (0, [(18, 130), (99, 0), (99, 0)], [], m, XX) := by
    unfold fM_condition
    refine T_run hD 8 (c' := (12, [(18, 130), (0, 1), (99, 0)], [], mup (mup m 130 26 0) 130 34 0, XX)) rfl ?_
    exact tM_condition_12 r (mup (mup m 130 26 0) 130 34 0) 1 (99, 0)
  rw [← hr]
  exact h9 v hv hr
abbrev hM_compareTexts_6 (m : aM) (x2 : Int) (x4 : Int) : (Int × Int) → aC → Prop := fun y c => ∃ (z1 : aV) (z3 : aV) (z7 : aV) (z8 : aV), c = (6, [(18, 130), z1, (0, x2), z3, (0, x4), (0, (y.1)), (0, (y.2)), z7, z8], [], m, XX)
def fM_compareTexts_82 (m : aM) (x7 : Int) (s0 : Int) : Option Int :=
  if x7 < s0 then
    some ((-1))
  else
    if s0 < x7 then
      some (1)
    else
      some (0)
set_option maxRecDepth 100000 in
theorem tM_compareTexts_82 (r : aR) (m : aM) (x7 : Int) (s0 : Int) (z0 : aV) (z1 : aV) (z2 : aV) (z3 : aV) (z4 : aV) (z5 : aV) (z6 : aV) (z8 : aV) : aT PB 1 64 r (fun w => r = (1, (0, w), m, XX)) (fM_compareTexts_82 m x7 s0) (82, [z0, z1, z2, z3, z4, z5, z6, (0, x7), z8], [(0, s0)], m, XX) := by
  have hD : aMd PB 64 = d_M_compareTexts := rfl
  unfold fM_compareTexts_82
  refine T_run hD 3 (c' := (88, [z0, z1, z2, z3, z4, z5, z6, (0, x7), (0, s0)], [(0, s0), (0, x7)], m, XX)) rfl ?_
  refine T_if hD (c1 := (91, _, _, _, _)) (c2 := (95, _, _, _, _)) rfl (fun _ => ?_) (fun _ => ?_)
  · refine T_run hD 2 (c' := (107, [z0, z1, z2, z3, z4, z5, z6, (0, x7), (0, s0)], [(0, (-1))], m, XX)) rfl ?_
    exact T_fin hD rfl (fun h => h)
  · refine T_run hD 2 (c' := (99, [z0, z1, z2, z3, z4, z5, z6, (0, x7), (0, s0)], [(0, s0), (0, x7)], m, XX)) rfl ?_
    refine T_if hD (c1 := (102, _, _, _, _)) (c2 := (106, _, _, _, _)) rfl (fun _ => ?_) (fun _ => ?_)
    · refine T_run hD 2 (c' := (107, [z0, z1, z2, z3, z4, z5, z6, (0, x7), (0, s0)], [(0, 1)], m, XX)) rfl ?_
      exact T_fin hD rfl (fun h => h)
    · refine T_run hD 1 (c' := (107, [z0, z1, z2, z3, z4, z5, z6, (0, x7), (0, s0)], [(0, 0)], m, XX)) rfl ?_
      exact T_fin hD rfl (fun h => h)
def fM_compareTexts_62 (m : aM) (x4 : Int) (x6 : Int) (s0 : Int) : Option Int :=
  if x6 < x4 then
    gd (0 ≤ x6 ∧ x6 < 600) (
    fM_compareTexts_82 m s0 (m 131 x6))
  else
    fM_compareTexts_82 m s0 (-1)
set_option maxRecDepth 100000 in
theorem tM_compareTexts_62 (r : aR) (m : aM) (x4 : Int) (x6 : Int) (s0 : Int) (z1 : aV) (z2 : aV) (z3 : aV) (z5 : aV) (z7 : aV) (z8 : aV) : aT PB 1 64 r (fun w => r = (1, (0, w), m, XX)) (fM_compareTexts_62 m x4 x6 s0) (62, [(18, 130), z1, z2, z3, (0, x4), z5, (0, x6), z7, z8], [(0, s0)], m, XX) := by
  have hD : aMd PB 64 = d_M_compareTexts := rfl
  unfold fM_compareTexts_62
  refine T_run hD 3 (c' := (68, [(18, 130), z1, z2, z3, (0, x4), z5, (0, x6), (0, s0), z8], [(0, x4), (0, x6)], m, XX)) rfl ?_
  refine T_if hD (c1 := (71, _, _, _, _)) (c2 := (81, _, _, _, _)) rfl (fun _ => ?_) (fun _ => ?_)
  · refine T_run hD 3 (c' := (77, [(18, 130), z1, z2, z3, (0, x4), z5, (0, x6), (0, s0), z8], [(0, x6), (31, 131)], m, XX)) rfl ?_
    refine T_gd hD (c1 := (78, [(18, 130), z1, z2, z3, (0, x4), z5, (0, x6), (0, s0), z8], [(0, m 131 x6)], m, XX)) rfl (fun g4 => ?_)
    refine T_run hD 1 (c' := (82, [(18, 130), z1, z2, z3, (0, x4), z5, (0, x6), (0, s0), z8], [(0, m 131 x6)], m, XX)) rfl ?_
    exact tM_compareTexts_82 r m s0 (m 131 x6) (18, 130) z1 z2 z3 (0, x4) z5 (0, x6) z8
  · refine T_run hD 1 (c' := (82, [(18, 130), z1, z2, z3, (0, x4), z5, (0, x6), (0, s0), z8], [(0, (-1))], m, XX)) rfl ?_
    exact tM_compareTexts_82 r m s0 (-1) (18, 130) z1 z2 z3 (0, x4) z5 (0, x6) z8
def fM_compareTexts_45 (m : aM) (x2 : Int) (x4 : Int) (x5 : Int) (x6 : Int) : Option Int :=
  if x5 < x2 then
    gd (0 ≤ x5 ∧ x5 < 600) (
    fM_compareTexts_62 m x4 x6 (m 131 x5))
  else
    fM_compareTexts_62 m x4 x6 (-1)
set_option maxRecDepth 100000 in
theorem tM_compareTexts_45 (r : aR) (m : aM) (x2 : Int) (x4 : Int) (x5 : Int) (x6 : Int) (z1 : aV) (z3 : aV) (z7 : aV) (z8 : aV) : aT PB 1 64 r (fun w => r = (1, (0, w), m, XX)) (fM_compareTexts_45 m x2 x4 x5 x6) (45, [(18, 130), z1, (0, x2), z3, (0, x4), (0, x5), (0, x6), z7, z8], [], m, XX) := by
  have hD : aMd PB 64 = d_M_compareTexts := rfl
  unfold fM_compareTexts_45
  refine T_run hD 2 (c' := (48, [(18, 130), z1, (0, x2), z3, (0, x4), (0, x5), (0, x6), z7, z8], [(0, x2), (0, x5)], m, XX)) rfl ?_
  refine T_if hD (c1 := (51, _, _, _, _)) (c2 := (61, _, _, _, _)) rfl (fun _ => ?_) (fun _ => ?_)
  · refine T_run hD 3 (c' := (57, [(18, 130), z1, (0, x2), z3, (0, x4), (0, x5), (0, x6), z7, z8], [(0, x5), (31, 131)], m, XX)) rfl ?_
    refine T_gd hD (c1 := (58, [(18, 130), z1, (0, x2), z3, (0, x4), (0, x5), (0, x6), z7, z8], [(0, m 131 x5)], m, XX)) rfl (fun g3 => ?_)
    refine T_run hD 1 (c' := (62, [(18, 130), z1, (0, x2), z3, (0, x4), (0, x5), (0, x6), z7, z8], [(0, m 131 x5)], m, XX)) rfl ?_
    exact tM_compareTexts_62 r m x4 x6 (m 131 x5) z1 (0, x2) z3 (0, x5) z7 z8
  · refine T_run hD 1 (c' := (62, [(18, 130), z1, (0, x2), z3, (0, x4), (0, x5), (0, x6), z7, z8], [(0, (-1))], m, XX)) rfl ?_
    exact tM_compareTexts_62 r m x4 x6 (-1) z1 (0, x2) z3 (0, x5) z7 z8
def fM_compareTexts_6_b (m : aM) (x2 : Int) (x4 : Int) : (Int × Int) → Option ((Int × Int) ⊕ Int) := fun (x5, x6) =>
  if x5 < x2 then
    if x6 < x4 then
      gd (0 ≤ x5 ∧ x5 < 600) (
      gd (0 ≤ x6 ∧ x6 < 600) (
      if m 131 x5 = m 131 x6 then
        some (Sum.inl (w32 (x5 + 1), w32 (x6 + 1)))
      else
        (fM_compareTexts_45 m x2 x4 x5 x6).map Sum.inr))
    else
      (fM_compareTexts_45 m x2 x4 x5 x6).map Sum.inr
  else
    (fM_compareTexts_45 m x2 x4 x5 x6).map Sum.inr
def fM_compareTexts_6 (m : aM) (x2 : Int) (x4 : Int) (x5 : Int) (x6 : Int) : Option Int := aLoop (fM_compareTexts_6_b m x2 x4) FU (x5, x6)
set_option maxRecDepth 100000 in
theorem tM_compareTexts_6 (r : aR) (m : aM) (x2 : Int) (x4 : Int) (x5 : Int) (x6 : Int) (z1 : aV) (z3 : aV) (z7 : aV) (z8 : aV) : aT PB 1 64 r (fun w => r = (1, (0, w), m, XX)) (fM_compareTexts_6 m x2 x4 x5 x6) (6, [(18, 130), z1, (0, x2), z3, (0, x4), (0, x5), (0, x6), z7, z8], [], m, XX) := by
  have hD : aMd PB 64 = d_M_compareTexts := rfl
  refine T_loop (Hd := (hM_compareTexts_6 m x2 x4)) ?_ FU _ _ ⟨z1, z3, z7, z8, rfl⟩
  clear x5 x6 z1 z3 z7 z8
  intro y c hc
  obtain ⟨x5, x6⟩ := y
  obtain ⟨z1, z3, z7, z8, rfl⟩ := hc
  unfold fM_compareTexts_6_b
  try dsimp only
  refine T_run hD 2 (c' := (9, [(18, 130), z1, (0, x2), z3, (0, x4), (0, x5), (0, x6), z7, z8], [(0, x2), (0, x5)], m, XX)) rfl ?_
  refine T_if hD (c1 := (12, _, _, _, _)) (c2 := (45, _, _, _, _)) rfl (fun _ => ?_) (fun _ => ?_)
  · refine T_run hD 2 (c' := (16, [(18, 130), z1, (0, x2), z3, (0, x4), (0, x5), (0, x6), z7, z8], [(0, x4), (0, x6)], m, XX)) rfl ?_
    refine T_if hD (c1 := (19, _, _, _, _)) (c2 := (45, _, _, _, _)) rfl (fun _ => ?_) (fun _ => ?_)
    · refine T_run hD 3 (c' := (25, [(18, 130), z1, (0, x2), z3, (0, x4), (0, x5), (0, x6), z7, z8], [(0, x5), (31, 131)], m, XX)) rfl ?_
      refine T_gd hD (c1 := (26, [(18, 130), z1, (0, x2), z3, (0, x4), (0, x5), (0, x6), z7, z8], [(0, m 131 x5)], m, XX)) rfl (fun g1 => ?_)
      refine T_run hD 3 (c' := (32, [(18, 130), z1, (0, x2), z3, (0, x4), (0, x5), (0, x6), z7, z8], [(0, x6), (31, 131), (0, m 131 x5)], m, XX)) rfl ?_
      refine T_gd hD (c1 := (33, [(18, 130), z1, (0, x2), z3, (0, x4), (0, x5), (0, x6), z7, z8], [(0, m 131 x6), (0, m 131 x5)], m, XX)) rfl (fun g2 => ?_)
      refine T_if hD (c1 := (36, _, _, _, _)) (c2 := (45, _, _, _, _)) rfl (fun _ => ?_) (fun _ => ?_)
      · refine T_run hD 3 (c' := (6, [(18, 130), z1, (0, x2), z3, (0, x4), (0, w32 (x5 + 1)), (0, w32 (x6 + 1)), z7, z8], [], m, XX)) rfl ?_
        exact T_back0 ⟨_, _, _, _, rfl⟩
      · exact T_map (tM_compareTexts_45 r m x2 x4 x5 x6 z1 z3 z7 z8)
    · exact T_map (tM_compareTexts_45 r m x2 x4 x5 x6 z1 z3 z7 z8)
  · exact T_map (tM_compareTexts_45 r m x2 x4 x5 x6 z1 z3 z7 z8)
def fM_compareTexts (m : aM) (x1 : Int) (x2 : Int) (x3 : Int) (x4 : Int) : Option Int :=
  fM_compareTexts_6 m x2 x4 x1 x3
set_option maxRecDepth 100000 in
theorem tM_compareTexts (m : aM) (x1 : Int) (x2 : Int) (x3 : Int) (x4 : Int) : ∀ v, fM_compareTexts m x1 x2 x3 x4 = some v → Go PB 1 64 (aEnt d_M_compareTexts [(18, 130), (0, x1), (0, x2), (0, x3), (0, x4)] m XX) (1, (0, v), m, XX) := by
  intro v hv
  have hD : aMd PB 64 = d_M_compareTexts := rfl
  obtain ⟨r, hr⟩ : ∃ r : aR, r = (1, (0, v), m, XX) := ⟨_, rfl⟩
  have h9 : aT PB 1 64 r (fun w => r = (1, (0, w), m, XX)) (fM_compareTexts m x1 x2 x3 x4) (0, [(18, 130), (0, x1), (0, x2), (0, x3), (0, x4), (99, 0), (99, 0), (99, 0), (99, 0)], [], m, XX) := by
    unfold fM_compareTexts
    refine T_run hD 4 (c' := (6, [(18, 130), (0, x1), (0, x2), (0, x3), (0, x4), (0, x1), (0, x3), (99, 0), (99, 0)], [], m, XX)) rfl ?_
    exact tM_compareTexts_6 r m x2 x4 x1 x3 (0, x1) (0, x3) (99, 0) (99, 0)
  rw [← hr]
  exact h9 v hv hr
def fM_compareValues (x1 : Int) (x3 : Int) : Int :=
  if cmp3 x1 x3 < 0 then
    (-1)
  else
    if 0 < cmp3 x1 x3 then
      1
    else
      0
set_option maxRecDepth 100000 in
theorem tM_compareValues (m : aM) (x1 : Int) (x3 : Int) : Go PB 1 65 (aEnt d_M_compareValues [(18, 130), (1, x1), (1, x3)] m XX) (1, (0, (fM_compareValues x1 x3)), m, XX) := by
  have hD : aMd PB 65 = d_M_compareValues := rfl
  show aU PB 1 65 (fun w => (1, (0, w), m, XX)) (fM_compareValues x1 x3) (0, [(18, 130), (1, x1), (99, 0), (1, x3), (99, 0)], [], m, XX)
  unfold fM_compareValues
  refine U_run hD 3 (c' := (3, [(18, 130), (1, x1), (99, 0), (1, x3), (99, 0)], [(0, cmp3 x1 x3)], m, XX)) rfl ?_
  refine U_if hD (c1 := (6, _, _, _, _)) (c2 := (10, _, _, _, _)) rfl (fun _ => ?_) (fun _ => ?_)
  · refine U_run hD 2 (c' := (21, [(18, 130), (1, x1), (99, 0), (1, x3), (99, 0)], [(0, (-1))], m, XX)) rfl ?_
    exact Go.fin hD rfl
  · refine U_run hD 3 (c' := (13, [(18, 130), (1, x1), (99, 0), (1, x3), (99, 0)], [(0, cmp3 x1 x3)], m, XX)) rfl ?_
    refine U_if hD (c1 := (16, _, _, _, _)) (c2 := (20, _, _, _, _)) rfl (fun _ => ?_) (fun _ => ?_)
    · refine U_run hD 2 (c' := (21, [(18, 130), (1, x1), (99, 0), (1, x3), (99, 0)], [(0, 1)], m, XX)) rfl ?_
      exact Go.fin hD rfl
    · refine U_run hD 1 (c' := (21, [(18, 130), (1, x1), (99, 0), (1, x3), (99, 0)], [(0, 0)], m, XX)) rfl ?_
      exact Go.fin hD rfl
def fM_compareCells (m : aM) (x1 : Int) (x2 : Int) (x3 : Int) (x4 : Int) : Option Int :=
  gd (0 ≤ x1 ∧ x1 < 6) (
  if m 133 x1 < 3 then
    gd (0 ≤ w32 ((w32 (6 * x2)) + x1) ∧ w32 ((w32 (6 * x2)) + x1) < 96) (
    gd (0 ≤ w32 ((w32 (6 * x4)) + x3) ∧ w32 ((w32 (6 * x4)) + x3) < 96) (
    some (fM_compareValues (m 137 (w32 ((w32 (6 * x2)) + x1))) (m 137 (w32 ((w32 (6 * x4)) + x3))))))
  else
    gd (0 ≤ w32 ((w32 (6 * x2)) + x1) ∧ w32 ((w32 (6 * x2)) + x1) < 96) (
    gd (0 ≤ w32 ((w32 (6 * x4)) + x3) ∧ w32 ((w32 (6 * x4)) + x3) < 96) (
    (fM_compareTexts m (m 134 (w32 ((w32 (6 * x2)) + x1))) (w32 ((m 134 (w32 ((w32 (6 * x2)) + x1))) + (m 135 (w32 ((w32 (6 * x2)) + x1))))) (m 134 (w32 ((w32 (6 * x4)) + x3))) (w32 ((m 134 (w32 ((w32 (6 * x4)) + x3))) + (m 135 (w32 ((w32 (6 * x4)) + x3)))))).bind fun v6 =>
    some (v6))))
set_option maxRecDepth 100000 in
theorem tM_compareCells (m : aM) (x1 : Int) (x2 : Int) (x3 : Int) (x4 : Int) : ∀ v, fM_compareCells m x1 x2 x3 x4 = some v → Go PB 2 66 (aEnt d_M_compareCells [(18, 130), (0, x1), (0, x2), (0, x3), (0, x4)] m XX) (1, (0, v), m, XX) := by
  intro v hv
  have hD : aMd PB 66 = d_M_compareCells := rfl
  obtain ⟨r, hr⟩ : ∃ r : aR, r = (1, (0, v), m, XX) := ⟨_, rfl⟩
  have h9 : aT PB 2 66 r (fun w => r = (1, (0, w), m, XX)) (fM_compareCells m x1 x2 x3 x4) (0, [(18, 130), (0, x1), (0, x2), (0, x3), (0, x4), (99, 0), (99, 0)], [], m, XX) := by
    unfold fM_compareCells
    refine T_run hD 15 (c' := (22, [(18, 130), (0, x1), (0, x2), (0, x3), (0, x4), (0, w32 ((w32 (6 * x2)) + x1)), (0, w32 ((w32 (6 * x4)) + x3))], [(0, x1), (31, 133)], m, XX)) rfl ?_
    refine T_gd hD (c1 := (23, [(18, 130), (0, x1), (0, x2), (0, x3), (0, x4), (0, w32 ((w32 (6 * x2)) + x1)), (0, w32 ((w32 (6 * x4)) + x3))], [(0, m 133 x1)], m, XX)) rfl (fun g1 => ?_)
    refine T_run hD 1 (c' := (24, [(18, 130), (0, x1), (0, x2), (0, x3), (0, x4), (0, w32 ((w32 (6 * x2)) + x1)), (0, w32 ((w32 (6 * x4)) + x3))], [(0, 3), (0, m 133 x1)], m, XX)) rfl ?_
    refine T_if hD (c1 := (27, _, _, _, _)) (c2 := (48, _, _, _, _)) rfl (fun _ => ?_) (fun _ => ?_)
    · refine T_run hD 4 (c' := (34, [(18, 130), (0, x1), (0, x2), (0, x3), (0, x4), (0, w32 ((w32 (6 * x2)) + x1)), (0, w32 ((w32 (6 * x4)) + x3))], [(0, w32 ((w32 (6 * x2)) + x1)), (32, 137), (18, 130)], m, XX)) rfl ?_
      refine T_gd hD (c1 := (35, [(18, 130), (0, x1), (0, x2), (0, x3), (0, x4), (0, w32 ((w32 (6 * x2)) + x1)), (0, w32 ((w32 (6 * x4)) + x3))], [(1, m 137 (w32 ((w32 (6 * x2)) + x1))), (18, 130)], m, XX)) rfl (fun g2 => ?_)
      refine T_run hD 3 (c' := (41, [(18, 130), (0, x1), (0, x2), (0, x3), (0, x4), (0, w32 ((w32 (6 * x2)) + x1)), (0, w32 ((w32 (6 * x4)) + x3))], [(0, w32 ((w32 (6 * x4)) + x3)), (32, 137), (1, m 137 (w32 ((w32 (6 * x2)) + x1))), (18, 130)], m, XX)) rfl ?_
      refine T_gd hD (c1 := (42, [(18, 130), (0, x1), (0, x2), (0, x3), (0, x4), (0, w32 ((w32 (6 * x2)) + x1)), (0, w32 ((w32 (6 * x4)) + x3))], [(1, m 137 (w32 ((w32 (6 * x4)) + x3))), (1, m 137 (w32 ((w32 (6 * x2)) + x1))), (18, 130)], m, XX)) rfl (fun g3 => ?_)
      refine T_call0 hD (D2 := d_M_compareValues) (q2 := 65) (as := [(18, 130), (1, m 137 (w32 ((w32 (6 * x2)) + x1))), (1, m 137 (w32 ((w32 (6 * x4)) + x3)))]) (c1 := (45, [(18, 130), (0, x1), (0, x2), (0, x3), (0, x4), (0, w32 ((w32 (6 * x2)) + x1)), (0, w32 ((w32 (6 * x4)) + x3))], [], m, XX)) (r2 := (1, (0, fM_compareValues (m 137 (w32 ((w32 (6 * x2)) + x1))) (m 137 (w32 ((w32 (6 * x4)) + x3)))), m, XX)) (c2 := (45, [(18, 130), (0, x1), (0, x2), (0, x3), (0, x4), (0, w32 ((w32 (6 * x2)) + x1)), (0, w32 ((w32 (6 * x4)) + x3))], [(0, fM_compareValues (m 137 (w32 ((w32 (6 * x2)) + x1))) (m 137 (w32 ((w32 (6 * x4)) + x3))))], m, XX)) rfl rfl (Go.mono (tM_compareValues m (m 137 (w32 ((w32 (6 * x2)) + x1))) (m 137 (w32 ((w32 (6 * x4)) + x3)))) (by decide)) rfl ?_
      refine T_run hD 1 (c' := (96, [(18, 130), (0, x1), (0, x2), (0, x3), (0, x4), (0, w32 ((w32 (6 * x2)) + x1)), (0, w32 ((w32 (6 * x4)) + x3))], [(0, fM_compareValues (m 137 (w32 ((w32 (6 * x2)) + x1))) (m 137 (w32 ((w32 (6 * x4)) + x3))))], m, XX)) rfl ?_
      exact T_fin hD rfl (fun h => h)
    · refine T_run hD 4 (c' := (55, [(18, 130), (0, x1), (0, x2), (0, x3), (0, x4), (0, w32 ((w32 (6 * x2)) + x1)), (0, w32 ((w32 (6 * x4)) + x3))], [(0, w32 ((w32 (6 * x2)) + x1)), (31, 134), (18, 130)], m, XX)) rfl ?_
      refine T_gd hD (c1 := (56, [(18, 130), (0, x1), (0, x2), (0, x3), (0, x4), (0, w32 ((w32 (6 * x2)) + x1)), (0, w32 ((w32 (6 * x4)) + x3))], [(0, m 134 (w32 ((w32 (6 * x2)) + x1))), (18, 130)], m, XX)) rfl (fun g4 => ?_)
      refine T_run hD 3 (c' := (62, [(18, 130), (0, x1), (0, x2), (0, x3), (0, x4), (0, w32 ((w32 (6 * x2)) + x1)), (0, w32 ((w32 (6 * x4)) + x3))], [(0, w32 ((w32 (6 * x2)) + x1)), (31, 134), (0, m 134 (w32 ((w32 (6 * x2)) + x1))), (18, 130)], m, XX)) rfl ?_
      refine T_gk hD (c1 := (63, [(18, 130), (0, x1), (0, x2), (0, x3), (0, x4), (0, w32 ((w32 (6 * x2)) + x1)), (0, w32 ((w32 (6 * x4)) + x3))], [(0, m 134 (w32 ((w32 (6 * x2)) + x1))), (0, m 134 (w32 ((w32 (6 * x2)) + x1))), (18, 130)], m, XX)) (P := 0 ≤ w32 ((w32 (6 * x2)) + x1) ∧ w32 ((w32 (6 * x2)) + x1) < 96) rfl g4 ?_
      refine T_run hD 3 (c' := (69, [(18, 130), (0, x1), (0, x2), (0, x3), (0, x4), (0, w32 ((w32 (6 * x2)) + x1)), (0, w32 ((w32 (6 * x4)) + x3))], [(0, w32 ((w32 (6 * x2)) + x1)), (31, 135), (0, m 134 (w32 ((w32 (6 * x2)) + x1))), (0, m 134 (w32 ((w32 (6 * x2)) + x1))), (18, 130)], m, XX)) rfl ?_
      refine T_gk hD (c1 := (70, [(18, 130), (0, x1), (0, x2), (0, x3), (0, x4), (0, w32 ((w32 (6 * x2)) + x1)), (0, w32 ((w32 (6 * x4)) + x3))], [(0, m 135 (w32 ((w32 (6 * x2)) + x1))), (0, m 134 (w32 ((w32 (6 * x2)) + x1))), (0, m 134 (w32 ((w32 (6 * x2)) + x1))), (18, 130)], m, XX)) (P := 0 ≤ w32 ((w32 (6 * x2)) + x1) ∧ w32 ((w32 (6 * x2)) + x1) < 96) rfl g4 ?_
      refine T_run hD 4 (c' := (77, [(18, 130), (0, x1), (0, x2), (0, x3), (0, x4), (0, w32 ((w32 (6 * x2)) + x1)), (0, w32 ((w32 (6 * x4)) + x3))], [(0, w32 ((w32 (6 * x4)) + x3)), (31, 134), (0, w32 ((m 134 (w32 ((w32 (6 * x2)) + x1))) + (m 135 (w32 ((w32 (6 * x2)) + x1))))), (0, m 134 (w32 ((w32 (6 * x2)) + x1))), (18, 130)], m, XX)) rfl ?_
      refine T_gd hD (c1 := (78, [(18, 130), (0, x1), (0, x2), (0, x3), (0, x4), (0, w32 ((w32 (6 * x2)) + x1)), (0, w32 ((w32 (6 * x4)) + x3))], [(0, m 134 (w32 ((w32 (6 * x4)) + x3))), (0, w32 ((m 134 (w32 ((w32 (6 * x2)) + x1))) + (m 135 (w32 ((w32 (6 * x2)) + x1))))), (0, m 134 (w32 ((w32 (6 * x2)) + x1))), (18, 130)], m, XX)) rfl (fun g5 => ?_)
      refine T_run hD 3 (c' := (84, [(18, 130), (0, x1), (0, x2), (0, x3), (0, x4), (0, w32 ((w32 (6 * x2)) + x1)), (0, w32 ((w32 (6 * x4)) + x3))], [(0, w32 ((w32 (6 * x4)) + x3)), (31, 134), (0, m 134 (w32 ((w32 (6 * x4)) + x3))), (0, w32 ((m 134 (w32 ((w32 (6 * x2)) + x1))) + (m 135 (w32 ((w32 (6 * x2)) + x1))))), (0, m 134 (w32 ((w32 (6 * x2)) + x1))), (18, 130)], m, XX)) rfl ?_
      refine T_gk hD (c1 := (85, [(18, 130), (0, x1), (0, x2), (0, x3), (0, x4), (0, w32 ((w32 (6 * x2)) + x1)), (0, w32 ((w32 (6 * x4)) + x3))], [(0, m 134 (w32 ((w32 (6 * x4)) + x3))), (0, m 134 (w32 ((w32 (6 * x4)) + x3))), (0, w32 ((m 134 (w32 ((w32 (6 * x2)) + x1))) + (m 135 (w32 ((w32 (6 * x2)) + x1))))), (0, m 134 (w32 ((w32 (6 * x2)) + x1))), (18, 130)], m, XX)) (P := 0 ≤ w32 ((w32 (6 * x4)) + x3) ∧ w32 ((w32 (6 * x4)) + x3) < 96) rfl g5 ?_
      refine T_run hD 3 (c' := (91, [(18, 130), (0, x1), (0, x2), (0, x3), (0, x4), (0, w32 ((w32 (6 * x2)) + x1)), (0, w32 ((w32 (6 * x4)) + x3))], [(0, w32 ((w32 (6 * x4)) + x3)), (31, 135), (0, m 134 (w32 ((w32 (6 * x4)) + x3))), (0, m 134 (w32 ((w32 (6 * x4)) + x3))), (0, w32 ((m 134 (w32 ((w32 (6 * x2)) + x1))) + (m 135 (w32 ((w32 (6 * x2)) + x1))))), (0, m 134 (w32 ((w32 (6 * x2)) + x1))), (18, 130)], m, XX)) rfl ?_
      refine T_gk hD (c1 := (92, [(18, 130), (0, x1), (0, x2), (0, x3), (0, x4), (0, w32 ((w32 (6 * x2)) + x1)), (0, w32 ((w32 (6 * x4)) + x3))], [(0, m 135 (w32 ((w32 (6 * x4)) + x3))), (0, m 134 (w32 ((w32 (6 * x4)) + x3))), (0, m 134 (w32 ((w32 (6 * x4)) + x3))), (0, w32 ((m 134 (w32 ((w32 (6 * x2)) + x1))) + (m 135 (w32 ((w32 (6 * x2)) + x1))))), (0, m 134 (w32 ((w32 (6 * x2)) + x1))), (18, 130)], m, XX)) (P := 0 ≤ w32 ((w32 (6 * x4)) + x3) ∧ w32 ((w32 (6 * x4)) + x3) < 96) rfl g5 ?_
      refine T_run hD 1 (c' := (93, [(18, 130), (0, x1), (0, x2), (0, x3), (0, x4), (0, w32 ((w32 (6 * x2)) + x1)), (0, w32 ((w32 (6 * x4)) + x3))], [(0, w32 ((m 134 (w32 ((w32 (6 * x4)) + x3))) + (m 135 (w32 ((w32 (6 * x4)) + x3))))), (0, m 134 (w32 ((w32 (6 * x4)) + x3))), (0, w32 ((m 134 (w32 ((w32 (6 * x2)) + x1))) + (m 135 (w32 ((w32 (6 * x2)) + x1))))), (0, m 134 (w32 ((w32 (6 * x2)) + x1))), (18, 130)], m, XX)) rfl ?_
      refine T_call hD (D2 := d_M_compareTexts) (q2 := 64) (as := [(18, 130), (0, m 134 (w32 ((w32 (6 * x2)) + x1))), (0, w32 ((m 134 (w32 ((w32 (6 * x2)) + x1))) + (m 135 (w32 ((w32 (6 * x2)) + x1))))), (0, m 134 (w32 ((w32 (6 * x4)) + x3))), (0, w32 ((m 134 (w32 ((w32 (6 * x4)) + x3))) + (m 135 (w32 ((w32 (6 * x4)) + x3)))))]) (c1 := (96, [(18, 130), (0, x1), (0, x2), (0, x3), (0, x4), (0, w32 ((w32 (6 * x2)) + x1)), (0, w32 ((w32 (6 * x4)) + x3))], [], m, XX)) (mk := fun w => (1, (0, w), m, XX)) (cc := fun v6 => (96, [(18, 130), (0, x1), (0, x2), (0, x3), (0, x4), (0, w32 ((w32 (6 * x2)) + x1)), (0, w32 ((w32 (6 * x4)) + x3))], [(0, v6)], m, XX)) rfl rfl (fun y9 h9y => Go.mono (tM_compareTexts m (m 134 (w32 ((w32 (6 * x2)) + x1))) (w32 ((m 134 (w32 ((w32 (6 * x2)) + x1))) + (m 135 (w32 ((w32 (6 * x2)) + x1))))) (m 134 (w32 ((w32 (6 * x4)) + x3))) (w32 ((m 134 (w32 ((w32 (6 * x4)) + x3))) + (m 135 (w32 ((w32 (6 * x4)) + x3))))) y9 h9y) (by decide)) (fun _ => rfl) (fun v6 => ?_)
      exact T_fin hD rfl (fun h => h)
  rw [← hr]
  exact h9 v hv hr
def fM_holds (x0 : Int) (x1 : Int) : Int :=
  if x0 = 0 then
    if x1 = 0 then
      1
    else
      0
  else
    if x0 = 1 then
      if x1 = 0 then
        0
      else
        1
    else
      if x0 = 2 then
        if x1 < 0 then
          1
        else
          0
      else
        if x0 = 3 then
          if 0 < x1 then
            0
          else
            1
        else
          if x0 = 4 then
            if 0 < x1 then
              1
            else
              0
          else
            if x1 < 0 then
              0
            else
              1
set_option maxRecDepth 100000 in
theorem tM_holds (m : aM) (x0 : Int) (x1 : Int) : Go PB 1 67 (aEnt d_M_holds [(0, x0), (0, x1)] m XX) (1, (0, (fM_holds x0 x1)), m, XX) := by
  have hD : aMd PB 67 = d_M_holds := rfl
  show aU PB 1 67 (fun w => (1, (0, w), m, XX)) (fM_holds x0 x1) (0, [(0, x0), (0, x1)], [], m, XX)
  unfold fM_holds
  refine U_run hD 1 (c' := (1, [(0, x0), (0, x1)], [(0, x0)], m, XX)) rfl ?_
  refine U_if hD (c1 := (4, _, _, _, _)) (c2 := (16, _, _, _, _)) rfl (fun _ => ?_) (fun _ => ?_)
  · refine U_run hD 1 (c' := (5, [(0, x0), (0, x1)], [(0, x1)], m, XX)) rfl ?_
    refine U_if hD (c1 := (8, _, _, _, _)) (c2 := (12, _, _, _, _)) rfl (fun _ => ?_) (fun _ => ?_)
    · refine U_run hD 2 (c' := (93, [(0, x0), (0, x1)], [(0, 1)], m, XX)) rfl ?_
      exact Go.fin hD rfl
    · refine U_run hD 2 (c' := (93, [(0, x0), (0, x1)], [(0, 0)], m, XX)) rfl ?_
      exact Go.fin hD rfl
  · refine U_run hD 2 (c' := (18, [(0, x0), (0, x1)], [(0, 1), (0, x0)], m, XX)) rfl ?_
    refine U_if hD (c1 := (21, _, _, _, _)) (c2 := (33, _, _, _, _)) rfl (fun _ => ?_) (fun _ => ?_)
    · refine U_run hD 1 (c' := (22, [(0, x0), (0, x1)], [(0, x1)], m, XX)) rfl ?_
      refine U_if hD (c1 := (29, _, _, _, _)) (c2 := (25, _, _, _, _)) rfl (fun _ => ?_) (fun _ => ?_)
      · refine U_run hD 2 (c' := (93, [(0, x0), (0, x1)], [(0, 0)], m, XX)) rfl ?_
        exact Go.fin hD rfl
      · refine U_run hD 2 (c' := (93, [(0, x0), (0, x1)], [(0, 1)], m, XX)) rfl ?_
        exact Go.fin hD rfl
    · refine U_run hD 2 (c' := (35, [(0, x0), (0, x1)], [(0, 2), (0, x0)], m, XX)) rfl ?_
      refine U_if hD (c1 := (38, _, _, _, _)) (c2 := (50, _, _, _, _)) rfl (fun _ => ?_) (fun _ => ?_)
      · refine U_run hD 1 (c' := (39, [(0, x0), (0, x1)], [(0, x1)], m, XX)) rfl ?_
        refine U_if hD (c1 := (42, _, _, _, _)) (c2 := (46, _, _, _, _)) rfl (fun _ => ?_) (fun _ => ?_)
        · refine U_run hD 2 (c' := (93, [(0, x0), (0, x1)], [(0, 1)], m, XX)) rfl ?_
          exact Go.fin hD rfl
        · refine U_run hD 2 (c' := (93, [(0, x0), (0, x1)], [(0, 0)], m, XX)) rfl ?_
          exact Go.fin hD rfl
      · refine U_run hD 2 (c' := (52, [(0, x0), (0, x1)], [(0, 3), (0, x0)], m, XX)) rfl ?_
        refine U_if hD (c1 := (55, _, _, _, _)) (c2 := (67, _, _, _, _)) rfl (fun _ => ?_) (fun _ => ?_)
        · refine U_run hD 1 (c' := (56, [(0, x0), (0, x1)], [(0, x1)], m, XX)) rfl ?_
          refine U_if hD (c1 := (63, _, _, _, _)) (c2 := (59, _, _, _, _)) rfl (fun _ => ?_) (fun _ => ?_)
          · refine U_run hD 2 (c' := (93, [(0, x0), (0, x1)], [(0, 0)], m, XX)) rfl ?_
            exact Go.fin hD rfl
          · refine U_run hD 2 (c' := (93, [(0, x0), (0, x1)], [(0, 1)], m, XX)) rfl ?_
            exact Go.fin hD rfl
        · refine U_run hD 2 (c' := (69, [(0, x0), (0, x1)], [(0, 4), (0, x0)], m, XX)) rfl ?_
          refine U_if hD (c1 := (72, _, _, _, _)) (c2 := (84, _, _, _, _)) rfl (fun _ => ?_) (fun _ => ?_)
          · refine U_run hD 1 (c' := (73, [(0, x0), (0, x1)], [(0, x1)], m, XX)) rfl ?_
            refine U_if hD (c1 := (76, _, _, _, _)) (c2 := (80, _, _, _, _)) rfl (fun _ => ?_) (fun _ => ?_)
            · refine U_run hD 2 (c' := (93, [(0, x0), (0, x1)], [(0, 1)], m, XX)) rfl ?_
              exact Go.fin hD rfl
            · refine U_run hD 2 (c' := (93, [(0, x0), (0, x1)], [(0, 0)], m, XX)) rfl ?_
              exact Go.fin hD rfl
          · refine U_run hD 1 (c' := (85, [(0, x0), (0, x1)], [(0, x1)], m, XX)) rfl ?_
            refine U_if hD (c1 := (92, _, _, _, _)) (c2 := (88, _, _, _, _)) rfl (fun _ => ?_) (fun _ => ?_)
            · refine U_run hD 1 (c' := (93, [(0, x0), (0, x1)], [(0, 0)], m, XX)) rfl ?_
              exact Go.fin hD rfl
            · refine U_run hD 2 (c' := (93, [(0, x0), (0, x1)], [(0, 1)], m, XX)) rfl ?_
              exact Go.fin hD rfl
def fM_compared_134 (m : aM) (x1 : Int) (s0 : Int) : Option Int :=
  gd (0 ≤ x1 ∧ x1 < 100) (
  if fM_holds (m 144 x1) s0 = 0 then
    some (0)
  else
    some (2))
set_option maxRecDepth 100000 in
theorem tM_compared_134 (r : aR) (m : aM) (x1 : Int) (s0 : Int) (z2 : aV) (z3 : aV) (z4 : aV) (z5 : aV) (z6 : aV) : aT PB 3 68 r (fun w => r = (1, (0, w), m, XX)) (fM_compared_134 m x1 s0) (134, [(18, 130), (0, x1), z2, z3, z4, z5, z6], [(0, s0)], m, XX) := by
  have hD : aMd PB 68 = d_M_compared := rfl
  unfold fM_compared_134
  refine T_run hD 4 (c' := (141, [(18, 130), (0, x1), z2, z3, z4, aJ z5, (0, s0)], [(0, x1), (31, 144)], m, XX)) rfl ?_
  refine T_gd hD (c1 := (142, [(18, 130), (0, x1), z2, z3, z4, aJ z5, (0, s0)], [(0, m 144 x1)], m, XX)) rfl (fun g6 => ?_)
  refine T_run hD 1 (c' := (144, [(18, 130), (0, x1), z2, z3, z4, aJ z5, (0, s0)], [(0, s0), (0, m 144 x1)], m, XX)) rfl ?_
  refine T_call0 hD (D2 := d_M_holds) (q2 := 67) (as := [(0, m 144 x1), (0, s0)]) (c1 := (147, [(18, 130), (0, x1), z2, z3, z4, aJ z5, (0, s0)], [], m, XX)) (r2 := (1, (0, fM_holds (m 144 x1) s0), m, XX)) (c2 := (147, [(18, 130), (0, x1), z2, z3, z4, aJ z5, (0, s0)], [(0, fM_holds (m 144 x1) s0)], m, XX)) rfl rfl (Go.mono (tM_holds m (m 144 x1) s0) (by decide)) rfl ?_
  refine T_if hD (c1 := (154, _, _, _, _)) (c2 := (150, _, _, _, _)) rfl (fun _ => ?_) (fun _ => ?_)
  · refine T_run hD 1 (c' := (155, [(18, 130), (0, x1), z2, z3, z4, aJ z5, (0, s0)], [(0, 0)], m, XX)) rfl ?_
    exact T_fin hD rfl (fun h => h)
  · refine T_run hD 2 (c' := (155, [(18, 130), (0, x1), z2, z3, z4, aJ z5, (0, s0)], [(0, 2)], m, XX)) rfl ?_
    exact T_fin hD rfl (fun h => h)
def fM_compared_41 (m : aM) (x1 : Int) (x2 : Int) (x3 : Int) (x4 : Int) : Option Int :=
  if x4 < 0 then
    gd (0 ≤ x3 ∧ x3 < 6) (
    if m 133 x3 < 3 then
      gd (0 ≤ w32 ((w32 (6 * x2)) + x3) ∧ w32 ((w32 (6 * x2)) + x3) < 96) (
      gd (0 ≤ x1 ∧ x1 < 100) (
      fM_compared_134 m x1 (fM_compareValues (m 137 (w32 ((w32 (6 * x2)) + x3))) (m 148 x1))))
    else
      gd (0 ≤ w32 ((w32 (6 * x2)) + x3) ∧ w32 ((w32 (6 * x2)) + x3) < 96) (
      gd (0 ≤ x1 ∧ x1 < 100) (
      (fM_compareTexts m (m 134 (w32 ((w32 (6 * x2)) + x3))) (w32 ((m 134 (w32 ((w32 (6 * x2)) + x3))) + (m 135 (w32 ((w32 (6 * x2)) + x3))))) (m 146 x1) (m 147 x1)).bind fun v9 =>
      fM_compared_134 m x1 v9)))
  else
    (fM_compareCells m x3 x2 x4 x2).bind fun v10 =>
    fM_compared_134 m x1 v10
set_option maxRecDepth 100000 in
theorem tM_compared_41 (r : aR) (m : aM) (x1 : Int) (x2 : Int) (x3 : Int) (x4 : Int) (z5 : aV) (z6 : aV) : aT PB 3 68 r (fun w => r = (1, (0, w), m, XX)) (fM_compared_41 m x1 x2 x3 x4) (41, [(18, 130), (0, x1), (0, x2), (0, x3), (0, x4), z5, z6], [], m, XX) := by
  have hD : aMd PB 68 = d_M_compared := rfl
  unfold fM_compared_41
  refine T_run hD 7 (c' := (51, [(18, 130), (0, x1), (0, x2), (0, x3), (0, x4), (0, w32 ((w32 (6 * x2)) + x3)), z6], [(0, x4)], m, XX)) rfl ?_
  refine T_if hD (c1 := (66, _, _, _, _)) (c2 := (54, _, _, _, _)) rfl (fun _ => ?_) (fun _ => ?_)
  · refine T_run hD 3 (c' := (71, [(18, 130), (0, x1), (0, x2), (0, x3), (0, x4), (0, w32 ((w32 (6 * x2)) + x3)), z6], [(0, x3), (31, 133)], m, XX)) rfl ?_
    refine T_gd hD (c1 := (72, [(18, 130), (0, x1), (0, x2), (0, x3), (0, x4), (0, w32 ((w32 (6 * x2)) + x3)), z6], [(0, m 133 x3)], m, XX)) rfl (fun g3 => ?_)
    refine T_run hD 1 (c' := (73, [(18, 130), (0, x1), (0, x2), (0, x3), (0, x4), (0, w32 ((w32 (6 * x2)) + x3)), z6], [(0, 3), (0, m 133 x3)], m, XX)) rfl ?_
    refine T_if hD (c1 := (76, _, _, _, _)) (c2 := (96, _, _, _, _)) rfl (fun _ => ?_) (fun _ => ?_)
    · refine T_run hD 4 (c' := (83, [(18, 130), (0, x1), (0, x2), (0, x3), (0, x4), (0, w32 ((w32 (6 * x2)) + x3)), z6], [(0, w32 ((w32 (6 * x2)) + x3)), (32, 137), (18, 130)], m, XX)) rfl ?_
      refine T_gd hD (c1 := (84, [(18, 130), (0, x1), (0, x2), (0, x3), (0, x4), (0, w32 ((w32 (6 * x2)) + x3)), z6], [(1, m 137 (w32 ((w32 (6 * x2)) + x3))), (18, 130)], m, XX)) rfl (fun g4 => ?_)
      refine T_run hD 3 (c' := (89, [(18, 130), (0, x1), (0, x2), (0, x3), (0, x4), (0, w32 ((w32 (6 * x2)) + x3)), z6], [(0, x1), (32, 148), (1, m 137 (w32 ((w32 (6 * x2)) + x3))), (18, 130)], m, XX)) rfl ?_
      refine T_gd hD (c1 := (90, [(18, 130), (0, x1), (0, x2), (0, x3), (0, x4), (0, w32 ((w32 (6 * x2)) + x3)), z6], [(1, m 148 x1), (1, m 137 (w32 ((w32 (6 * x2)) + x3))), (18, 130)], m, XX)) rfl (fun g5 => ?_)
      refine T_call0 hD (D2 := d_M_compareValues) (q2 := 65) (as := [(18, 130), (1, m 137 (w32 ((w32 (6 * x2)) + x3))), (1, m 148 x1)]) (c1 := (93, [(18, 130), (0, x1), (0, x2), (0, x3), (0, x4), (0, w32 ((w32 (6 * x2)) + x3)), z6], [], m, XX)) (r2 := (1, (0, fM_compareValues (m 137 (w32 ((w32 (6 * x2)) + x3))) (m 148 x1)), m, XX)) (c2 := (93, [(18, 130), (0, x1), (0, x2), (0, x3), (0, x4), (0, w32 ((w32 (6 * x2)) + x3)), z6], [(0, fM_compareValues (m 137 (w32 ((w32 (6 * x2)) + x3))) (m 148 x1))], m, XX)) rfl rfl (Go.mono (tM_compareValues m (m 137 (w32 ((w32 (6 * x2)) + x3))) (m 148 x1)) (by decide)) rfl ?_
      refine T_run hD 1 (c' := (134, [(18, 130), (0, x1), (0, x2), (0, x3), (0, x4), (0, w32 ((w32 (6 * x2)) + x3)), z6], [(0, fM_compareValues (m 137 (w32 ((w32 (6 * x2)) + x3))) (m 148 x1))], m, XX)) rfl ?_
      exact tM_compared_134 r m x1 (fM_compareValues (m 137 (w32 ((w32 (6 * x2)) + x3))) (m 148 x1)) (0, x2) (0, x3) (0, x4) (0, w32 ((w32 (6 * x2)) + x3)) z6
    · refine T_run hD 4 (c' := (103, [(18, 130), (0, x1), (0, x2), (0, x3), (0, x4), (0, w32 ((w32 (6 * x2)) + x3)), z6], [(0, w32 ((w32 (6 * x2)) + x3)), (31, 134), (18, 130)], m, XX)) rfl ?_
      refine T_gd hD (c1 := (104, [(18, 130), (0, x1), (0, x2), (0, x3), (0, x4), (0, w32 ((w32 (6 * x2)) + x3)), z6], [(0, m 134 (w32 ((w32 (6 * x2)) + x3))), (18, 130)], m, XX)) rfl (fun g7 => ?_)
      refine T_run hD 3 (c' := (110, [(18, 130), (0, x1), (0, x2), (0, x3), (0, x4), (0, w32 ((w32 (6 * x2)) + x3)), z6], [(0, w32 ((w32 (6 * x2)) + x3)), (31, 134), (0, m 134 (w32 ((w32 (6 * x2)) + x3))), (18, 130)], m, XX)) rfl ?_
      refine T_gk hD (c1 := (111, [(18, 130), (0, x1), (0, x2), (0, x3), (0, x4), (0, w32 ((w32 (6 * x2)) + x3)), z6], [(0, m 134 (w32 ((w32 (6 * x2)) + x3))), (0, m 134 (w32 ((w32 (6 * x2)) + x3))), (18, 130)], m, XX)) (P := 0 ≤ w32 ((w32 (6 * x2)) + x3) ∧ w32 ((w32 (6 * x2)) + x3) < 96) rfl g7 ?_
      refine T_run hD 3 (c' := (117, [(18, 130), (0, x1), (0, x2), (0, x3), (0, x4), (0, w32 ((w32 (6 * x2)) + x3)), z6], [(0, w32 ((w32 (6 * x2)) + x3)), (31, 135), (0, m 134 (w32 ((w32 (6 * x2)) + x3))), (0, m 134 (w32 ((w32 (6 * x2)) + x3))), (18, 130)], m, XX)) rfl ?_
      refine T_gk hD (c1 := (118, [(18, 130), (0, x1), (0, x2), (0, x3), (0, x4), (0, w32 ((w32 (6 * x2)) + x3)), z6], [(0, m 135 (w32 ((w32 (6 * x2)) + x3))), (0, m 134 (w32 ((w32 (6 * x2)) + x3))), (0, m 134 (w32 ((w32 (6 * x2)) + x3))), (18, 130)], m, XX)) (P := 0 ≤ w32 ((w32 (6 * x2)) + x3) ∧ w32 ((w32 (6 * x2)) + x3) < 96) rfl g7 ?_
      refine T_run hD 4 (c' := (124, [(18, 130), (0, x1), (0, x2), (0, x3), (0, x4), (0, w32 ((w32 (6 * x2)) + x3)), z6], [(0, x1), (31, 146), (0, w32 ((m 134 (w32 ((w32 (6 * x2)) + x3))) + (m 135 (w32 ((w32 (6 * x2)) + x3))))), (0, m 134 (w32 ((w32 (6 * x2)) + x3))), (18, 130)], m, XX)) rfl ?_
      refine T_gd hD (c1 := (125, [(18, 130), (0, x1), (0, x2), (0, x3), (0, x4), (0, w32 ((w32 (6 * x2)) + x3)), z6], [(0, m 146 x1), (0, w32 ((m 134 (w32 ((w32 (6 * x2)) + x3))) + (m 135 (w32 ((w32 (6 * x2)) + x3))))), (0, m 134 (w32 ((w32 (6 * x2)) + x3))), (18, 130)], m, XX)) rfl (fun g8 => ?_)
      refine T_run hD 3 (c' := (130, [(18, 130), (0, x1), (0, x2), (0, x3), (0, x4), (0, w32 ((w32 (6 * x2)) + x3)), z6], [(0, x1), (31, 147), (0, m 146 x1), (0, w32 ((m 134 (w32 ((w32 (6 * x2)) + x3))) + (m 135 (w32 ((w32 (6 * x2)) + x3))))), (0, m 134 (w32 ((w32 (6 * x2)) + x3))), (18, 130)], m, XX)) rfl ?_
      refine T_gk hD (c1 := (131, [(18, 130), (0, x1), (0, x2), (0, x3), (0, x4), (0, w32 ((w32 (6 * x2)) + x3)), z6], [(0, m 147 x1), (0, m 146 x1), (0, w32 ((m 134 (w32 ((w32 (6 * x2)) + x3))) + (m 135 (w32 ((w32 (6 * x2)) + x3))))), (0, m 134 (w32 ((w32 (6 * x2)) + x3))), (18, 130)], m, XX)) (P := 0 ≤ x1 ∧ x1 < 100) rfl g8 ?_
      refine T_call hD (D2 := d_M_compareTexts) (q2 := 64) (as := [(18, 130), (0, m 134 (w32 ((w32 (6 * x2)) + x3))), (0, w32 ((m 134 (w32 ((w32 (6 * x2)) + x3))) + (m 135 (w32 ((w32 (6 * x2)) + x3))))), (0, m 146 x1), (0, m 147 x1)]) (c1 := (134, [(18, 130), (0, x1), (0, x2), (0, x3), (0, x4), (0, w32 ((w32 (6 * x2)) + x3)), z6], [], m, XX)) (mk := fun w => (1, (0, w), m, XX)) (cc := fun v9 => (134, [(18, 130), (0, x1), (0, x2), (0, x3), (0, x4), (0, w32 ((w32 (6 * x2)) + x3)), z6], [(0, v9)], m, XX)) rfl rfl (fun y9 h9y => Go.mono (tM_compareTexts m (m 134 (w32 ((w32 (6 * x2)) + x3))) (w32 ((m 134 (w32 ((w32 (6 * x2)) + x3))) + (m 135 (w32 ((w32 (6 * x2)) + x3))))) (m 146 x1) (m 147 x1) y9 h9y) (by decide)) (fun _ => rfl) (fun v9 => ?_)
      exact tM_compared_134 r m x1 v9 (0, x2) (0, x3) (0, x4) (0, w32 ((w32 (6 * x2)) + x3)) z6
  · refine T_run hD 5 (c' := (60, [(18, 130), (0, x1), (0, x2), (0, x3), (0, x4), (0, w32 ((w32 (6 * x2)) + x3)), z6], [(0, x2), (0, x4), (0, x2), (0, x3), (18, 130)], m, XX)) rfl ?_
    refine T_call hD (D2 := d_M_compareCells) (q2 := 66) (as := [(18, 130), (0, x3), (0, x2), (0, x4), (0, x2)]) (c1 := (63, [(18, 130), (0, x1), (0, x2), (0, x3), (0, x4), (0, w32 ((w32 (6 * x2)) + x3)), z6], [], m, XX)) (mk := fun w => (1, (0, w), m, XX)) (cc := fun v10 => (63, [(18, 130), (0, x1), (0, x2), (0, x3), (0, x4), (0, w32 ((w32 (6 * x2)) + x3)), z6], [(0, v10)], m, XX)) rfl rfl (fun y9 h9y => Go.mono (tM_compareCells m x3 x2 x4 x2 y9 h9y) (by decide)) (fun _ => rfl) (fun v10 => ?_)
    refine T_run hD 1 (c' := (134, [(18, 130), (0, x1), (0, x2), (0, x3), (0, x4), (0, w32 ((w32 (6 * x2)) + x3)), z6], [(0, v10)], m, XX)) rfl ?_
    exact tM_compared_134 r m x1 v10 (0, x2) (0, x3) (0, x4) (0, w32 ((w32 (6 * x2)) + x3)) z6
def fM_compared (m : aM) (x1 : Int) (x2 : Int) : Option Int :=
  gd (0 ≤ x1 ∧ x1 < 100) (
  (fM_isNone m x2 (m 143 x1)).bind fun v2 =>
  if v2 = 0 then
    if m 145 x1 < 0 then
      fM_compared_41 m x1 x2 (m 143 x1) (m 145 x1)
    else
      (fM_isNone m x2 (m 145 x1)).bind fun v11 =>
      if v11 = 0 then
        fM_compared_41 m x1 x2 (m 143 x1) (m 145 x1)
      else
        some (1)
  else
    some (1))
set_option maxRecDepth 100000 in
theorem tM_compared (m : aM) (x1 : Int) (x2 : Int) : ∀ v, fM_compared m x1 x2 = some v → Go PB 3 68 (aEnt d_M_compared [(18, 130), (0, x1), (0, x2)] m XX) (1, (0, v), m, XX) := by
  intro v hv
  have hD : aMd PB 68 = d_M_compared := rfl
  obtain ⟨r, hr⟩ : ∃ r : aR, r = (1, (0, v), m, XX) := ⟨_, rfl⟩
  have h9 : aT PB 3 68 r (fun w => r = (1, (0, w), m, XX)) (fM_compared m x1 x2) (0, [(18, 130), (0, x1), (0, x2), (99, 0), (99, 0), (99, 0), (99, 0)], [], m, XX) := by
    unfold fM_compared
    refine T_run hD 3 (c' := (5, [(18, 130), (0, x1), (0, x2), (99, 0), (99, 0), (99, 0), (99, 0)], [(0, x1), (31, 143)], m, XX)) rfl ?_
    refine T_gd hD (c1 := (6, [(18, 130), (0, x1), (0, x2), (99, 0), (99, 0), (99, 0), (99, 0)], [(0, m 143 x1)], m, XX)) rfl (fun g1 => ?_)
    refine T_run hD 4 (c' := (12, [(18, 130), (0, x1), (0, x2), (0, m 143 x1), (99, 0), (99, 0), (99, 0)], [(0, x1), (31, 145)], m, XX)) rfl ?_
    refine T_gk hD (c1 := (13, [(18, 130), (0, x1), (0, x2), (0, m 143 x1), (99, 0), (99, 0), (99, 0)], [(0, m 145 x1)], m, XX)) (P := 0 ≤ x1 ∧ x1 < 100) rfl g1 ?_
    refine T_run hD 4 (c' := (18, [(18, 130), (0, x1), (0, x2), (0, m 143 x1), (0, m 145 x1), (99, 0), (99, 0)], [(0, m 143 x1), (0, x2), (18, 130)], m, XX)) rfl ?_
    refine T_call hD (D2 := d_M_isNone) (q2 := 37) (as := [(18, 130), (0, x2), (0, m 143 x1)]) (c1 := (21, [(18, 130), (0, x1), (0, x2), (0, m 143 x1), (0, m 145 x1), (99, 0), (99, 0)], [], m, XX)) (mk := fun w => (1, (0, w), m, XX)) (cc := fun v2 => (21, [(18, 130), (0, x1), (0, x2), (0, m 143 x1), (0, m 145 x1), (99, 0), (99, 0)], [(0, v2)], m, XX)) rfl rfl (fun y9 h9y => Go.mono (tM_isNone m x2 (m 143 x1) y9 h9y) (by decide)) (fun _ => rfl) (fun v2 => ?_)
    refine T_if hD (c1 := (24, _, _, _, _)) (c2 := (39, _, _, _, _)) rfl (fun _ => ?_) (fun _ => ?_)
    · refine T_run hD 1 (c' := (26, [(18, 130), (0, x1), (0, x2), (0, m 143 x1), (0, m 145 x1), (99, 0), (99, 0)], [(0, m 145 x1)], m, XX)) rfl ?_
      refine T_if hD (c1 := (41, _, _, _, _)) (c2 := (29, _, _, _, _)) rfl (fun _ => ?_) (fun _ => ?_)
      · exact tM_compared_41 r m x1 x2 (m 143 x1) (m 145 x1) (99, 0) (99, 0)
      · refine T_run hD 3 (c' := (33, [(18, 130), (0, x1), (0, x2), (0, m 143 x1), (0, m 145 x1), (99, 0), (99, 0)], [(0, m 145 x1), (0, x2), (18, 130)], m, XX)) rfl ?_
        refine T_call hD (D2 := d_M_isNone) (q2 := 37) (as := [(18, 130), (0, x2), (0, m 145 x1)]) (c1 := (36, [(18, 130), (0, x1), (0, x2), (0, m 143 x1), (0, m 145 x1), (99, 0), (99, 0)], [], m, XX)) (mk := fun w => (1, (0, w), m, XX)) (cc := fun v11 => (36, [(18, 130), (0, x1), (0, x2), (0, m 143 x1), (0, m 145 x1), (99, 0), (99, 0)], [(0, v11)], m, XX)) rfl rfl (fun y9 h9y => Go.mono (tM_isNone m x2 (m 145 x1) y9 h9y) (by decide)) (fun _ => rfl) (fun v11 => ?_)
        refine T_if hD (c1 := (41, _, _, _, _)) (c2 := (39, _, _, _, _)) rfl (fun _ => ?_) (fun _ => ?_)
        · exact tM_compared_41 r m x1 x2 (m 143 x1) (m 145 x1) (99, 0) (99, 0)
        · refine T_run hD 1 (c' := (40, [(18, 130), (0, x1), (0, x2), (0, m 143 x1), (0, m 145 x1), (99, 0), (99, 0)], [(0, 1)], m, XX)) rfl ?_
          exact T_fin hD rfl (fun h => h)
    · refine T_run hD 1 (c' := (40, [(18, 130), (0, x1), (0, x2), (0, m 143 x1), (0, m 145 x1), (99, 0), (99, 0)], [(0, 1)], m, XX)) rfl ?_
      exact T_fin hD rfl (fun h => h)
  rw [← hr]
  exact h9 v hv hr
abbrev hM_isChosen_4 (x1 : Int) : (aM × Int × Int) → aC → Prop := fun y c => ∃ (z4 : aV), c = (4, [(18, 130), (0, x1), (0, (y.2.1)), (0, (y.2.2)), z4], [], (y.1), XX)
def fM_isChosen_162 (m : aM) (x1 : Int) (x2 : Int) (x3 : Int) (s0 : Int) (s1 : Int) (s2 : Int) (s3 : Int) : Option ((aM × Int × Int) ⊕ (Int × aM)) :=
  if s2 = s3 then
    gd (0 ≤ x2 ∧ x2 < 100) (
    gd (0 ≤ s1 ∧ s1 < LEN s0) (
    some (Sum.inl (mup m s0 s1 (m 150 x2), x2, w32 (x3 + 1)))))
  else
    gd (0 ≤ w32 (x2 - 1) ∧ w32 (x2 - 1) < 100) (
    gd (0 ≤ s1 ∧ s1 < LEN s0) (
    some (Sum.inl (mup m s0 s1 (m 150 (w32 (x2 - 1))), x2, w32 (x3 + 1)))))
set_option maxRecDepth 100000 in
theorem tM_isChosen_162 (r : aR) (m : aM) (x1 : Int) (x2 : Int) (x3 : Int) (s0 : Int) (s1 : Int) (s2 : Int) (s3 : Int) (z4 : aV) : aT PB 4 69 r (aTurn PB 4 69 r (hM_isChosen_4 x1) (fun w => r = (1, (0, w.1), w.2, XX))) (fM_isChosen_162 m x1 x2 x3 s0 s1 s2 s3) (162, [(18, 130), (0, x1), (0, x2), (0, x3), z4], [(0, s3), (0, s2), (0, s1), (31, s0)], m, XX) := by
  have hD : aMd PB 69 = d_M_isChosen := rfl
  unfold fM_isChosen_162
  refine T_if hD (c1 := (165, _, _, _, _)) (c2 := (174, _, _, _, _)) rfl (fun _ => ?_) (fun _ => ?_)
  · refine T_run hD 3 (c' := (170, [(18, 130), (0, x1), (0, x2), (0, x3), z4], [(0, x2), (31, 150), (0, s1), (31, s0)], m, XX)) rfl ?_
    refine T_gd hD (c1 := (171, [(18, 130), (0, x1), (0, x2), (0, x3), z4], [(0, m 150 x2), (0, s1), (31, s0)], m, XX)) rfl (fun g11 => ?_)
    refine T_run hD 1 (c' := (182, [(18, 130), (0, x1), (0, x2), (0, x3), z4], [(0, m 150 x2), (0, s1), (31, s0)], m, XX)) rfl ?_
    refine T_gd hD (c1 := (183, [(18, 130), (0, x1), (0, x2), (0, x3), z4], [], mup m s0 s1 (m 150 x2), XX)) rfl (fun g12 => ?_)
    refine T_run hD 2 (c' := (4, [(18, 130), (0, x1), (0, x2), (0, w32 (x3 + 1)), z4], [], mup m s0 s1 (m 150 x2), XX)) rfl ?_
    exact T_back0 ⟨_, rfl⟩
  · refine T_run hD 5 (c' := (181, [(18, 130), (0, x1), (0, x2), (0, x3), z4], [(0, w32 (x2 - 1)), (31, 150), (0, s1), (31, s0)], m, XX)) rfl ?_
    refine T_gd hD (c1 := (182, [(18, 130), (0, x1), (0, x2), (0, x3), z4], [(0, m 150 (w32 (x2 - 1))), (0, s1), (31, s0)], m, XX)) rfl (fun g13 => ?_)
    refine T_gd hD (c1 := (183, [(18, 130), (0, x1), (0, x2), (0, x3), z4], [], mup m s0 s1 (m 150 (w32 (x2 - 1))), XX)) rfl (fun g14 => ?_)
    refine T_run hD 2 (c' := (4, [(18, 130), (0, x1), (0, x2), (0, w32 (x3 + 1)), z4], [], mup m s0 s1 (m 150 (w32 (x2 - 1))), XX)) rfl ?_
    exact T_back0 ⟨_, rfl⟩
def fM_isChosen_136 (m : aM) (x1 : Int) (x2 : Int) (x3 : Int) (s0 : Int) : Option ((aM × Int × Int) ⊕ (Int × aM)) :=
  gd (0 ≤ x3 ∧ x3 < 100) (
  if m 142 x3 = 3 then
    fM_isChosen_162 m x1 x2 x3 150 (w32 (x2 - 1)) s0 1
  else
    fM_isChosen_162 m x1 x2 x3 150 (w32 (x2 - 1)) s0 0)
set_option maxRecDepth 100000 in
theorem tM_isChosen_136 (r : aR) (m : aM) (x1 : Int) (x2 : Int) (x3 : Int) (s0 : Int) (z4 : aV) : aT PB 4 69 r (aTurn PB 4 69 r (hM_isChosen_4 x1) (fun w => r = (1, (0, w.1), w.2, XX))) (fM_isChosen_136 m x1 x2 x3 s0) (136, [(18, 130), (0, x1), (0, x2), (0, x3), z4], [(0, s0)], m, XX) := by
  have hD : aMd PB 69 = d_M_isChosen := rfl
  unfold fM_isChosen_136
  refine T_run hD 10 (c' := (152, [(18, 130), (0, x1), (0, x2), (0, x3), (0, s0)], [(0, x3), (31, 142), (0, s0), (0, w32 (x2 - 1)), (31, 150)], m, XX)) rfl ?_
  refine T_gd hD (c1 := (153, [(18, 130), (0, x1), (0, x2), (0, x3), (0, s0)], [(0, m 142 x3), (0, s0), (0, w32 (x2 - 1)), (31, 150)], m, XX)) rfl (fun g10 => ?_)
  refine T_run hD 1 (c' := (154, [(18, 130), (0, x1), (0, x2), (0, x3), (0, s0)], [(0, 3), (0, m 142 x3), (0, s0), (0, w32 (x2 - 1)), (31, 150)], m, XX)) rfl ?_
  refine T_if hD (c1 := (157, _, _, _, _)) (c2 := (161, _, _, _, _)) rfl (fun _ => ?_) (fun _ => ?_)
  · refine T_run hD 2 (c' := (162, [(18, 130), (0, x1), (0, x2), (0, x3), (0, s0)], [(0, 1), (0, s0), (0, w32 (x2 - 1)), (31, 150)], m, XX)) rfl ?_
    exact tM_isChosen_162 r m x1 x2 x3 150 (w32 (x2 - 1)) s0 1 (0, s0)
  · refine T_run hD 1 (c' := (162, [(18, 130), (0, x1), (0, x2), (0, x3), (0, s0)], [(0, 0), (0, s0), (0, w32 (x2 - 1)), (31, 150)], m, XX)) rfl ?_
    exact tM_isChosen_162 r m x1 x2 x3 150 (w32 (x2 - 1)) s0 0 (0, s0)
def fM_isChosen_4_b (x1 : Int) : (aM × Int × Int) → Option ((aM × Int × Int) ⊕ (Int × aM)) := fun (m, x2, x3) =>
  if x3 < m 130 26 then
    gd (0 ≤ x3 ∧ x3 < 100) (
    if m 142 x3 = 0 then
      (fM_compared m x3 x1).bind fun v2 =>
      gd (0 ≤ x2 ∧ x2 < 100) (
      some (Sum.inl (mup m 150 x2 v2, w32 (x2 + 1), w32 (x3 + 1))))
    else
      if m 142 x3 = 1 then
        (fM_isNone m x1 (m 143 x3)).bind fun v4 =>
        if v4 = 0 then
          gd (0 ≤ x2 ∧ x2 < 100) (
          some (Sum.inl (mup m 150 x2 0, w32 (x2 + 1), w32 (x3 + 1))))
        else
          gd (0 ≤ x2 ∧ x2 < 100) (
          some (Sum.inl (mup m 150 x2 2, w32 (x2 + 1), w32 (x3 + 1))))
      else
        if m 142 x3 = 2 then
          gd (0 ≤ w32 (x2 - 1) ∧ w32 (x2 - 1) < 100) (
          some (Sum.inl (mup m 150 (w32 (x2 - 1)) (w32 (2 - (m 150 (w32 (x2 - 1))))), x2, w32 (x3 + 1))))
        else
          gd (0 ≤ w32 (x2 + (-1)) ∧ w32 (x2 + (-1)) < 100) (
          gd (0 ≤ w32 ((w32 (x2 + (-1))) - 1) ∧ w32 ((w32 (x2 + (-1))) - 1) < 100) (
          if m 150 (w32 (x2 + (-1))) < m 150 (w32 ((w32 (x2 + (-1))) - 1)) then
            fM_isChosen_136 m x1 (w32 (x2 + (-1))) x3 1
          else
            fM_isChosen_136 m x1 (w32 (x2 + (-1))) x3 0)))
  else
    if m 130 26 = 0 then
      some (Sum.inr ((1, m)))
    else
      if m 150 0 = 2 then
        some (Sum.inr ((1, m)))
      else
        some (Sum.inr ((0, m)))
def fM_isChosen_4 (m : aM) (x1 : Int) (x2 : Int) (x3 : Int) : Option (Int × aM) := aLoop (fM_isChosen_4_b x1) FU (m, x2, x3)
set_option maxRecDepth 100000 in
theorem tM_isChosen_4 (r : aR) (m : aM) (x1 : Int) (x2 : Int) (x3 : Int) (z4 : aV) : aT PB 4 69 r (fun w => r = (1, (0, w.1), w.2, XX)) (fM_isChosen_4 m x1 x2 x3) (4, [(18, 130), (0, x1), (0, x2), (0, x3), z4], [], m, XX) := by
  have hD : aMd PB 69 = d_M_isChosen := rfl
  refine T_loop (Hd := (hM_isChosen_4 x1)) ?_ FU _ _ ⟨z4, rfl⟩
  clear m x2 x3 z4
  intro y c hc
  obtain ⟨m, x2, x3⟩ := y
  obtain ⟨z4, rfl⟩ := hc
  unfold fM_isChosen_4_b
  try dsimp only
  refine T_run hD 3 (c' := (9, [(18, 130), (0, x1), (0, x2), (0, x3), z4], [(0, m 130 26), (0, x3)], m, XX)) rfl ?_
  refine T_if hD (c1 := (12, _, _, _, _)) (c2 := (189, _, _, _, _)) rfl (fun _ => ?_) (fun _ => ?_)
  · refine T_run hD 3 (c' := (17, [(18, 130), (0, x1), (0, x2), (0, x3), z4], [(0, x3), (31, 142)], m, XX)) rfl ?_
    refine T_gd hD (c1 := (18, [(18, 130), (0, x1), (0, x2), (0, x3), z4], [(0, m 142 x3)], m, XX)) rfl (fun g1 => ?_)
    refine T_if hD (c1 := (21, _, _, _, _)) (c2 := (39, _, _, _, _)) rfl (fun _ => ?_) (fun _ => ?_)
    · refine T_run hD 6 (c' := (29, [(18, 130), (0, x1), (0, x2), (0, x3), z4], [(0, x1), (0, x3), (18, 130), (0, x2), (31, 150)], m, XX)) rfl ?_
      refine T_call hD (D2 := d_M_compared) (q2 := 68) (as := [(18, 130), (0, x3), (0, x1)]) (c1 := (32, [(18, 130), (0, x1), (0, x2), (0, x3), z4], [(0, x2), (31, 150)], m, XX)) (mk := fun w => (1, (0, w), m, XX)) (cc := fun v2 => (32, [(18, 130), (0, x1), (0, x2), (0, x3), z4], [(0, v2), (0, x2), (31, 150)], m, XX)) rfl rfl (fun y9 h9y => Go.mono (tM_compared m x3 x1 y9 h9y) (by decide)) (fun _ => rfl) (fun v2 => ?_)
      refine T_gd hD (c1 := (33, [(18, 130), (0, x1), (0, x2), (0, x3), z4], [], mup m 150 x2 v2, XX)) rfl (fun g3 => ?_)
      refine T_run hD 4 (c' := (4, [(18, 130), (0, x1), (0, w32 (x2 + 1)), (0, w32 (x3 + 1)), z4], [], mup m 150 x2 v2, XX)) rfl ?_
      exact T_back0 ⟨_, rfl⟩
    · refine T_run hD 3 (c' := (44, [(18, 130), (0, x1), (0, x2), (0, x3), z4], [(0, x3), (31, 142)], m, XX)) rfl ?_
      refine T_gk hD (c1 := (45, [(18, 130), (0, x1), (0, x2), (0, x3), z4], [(0, m 142 x3)], m, XX)) (P := 0 ≤ x3 ∧ x3 < 100) rfl g1 ?_
      refine T_run hD 1 (c' := (46, [(18, 130), (0, x1), (0, x2), (0, x3), z4], [(0, 1), (0, m 142 x3)], m, XX)) rfl ?_
      refine T_if hD (c1 := (49, _, _, _, _)) (c2 := (80, _, _, _, _)) rfl (fun _ => ?_) (fun _ => ?_)
      · refine T_run hD 8 (c' := (61, [(18, 130), (0, x1), (0, x2), (0, x3), z4], [(0, x3), (31, 143), (0, x1), (18, 130), (0, x2), (31, 150)], m, XX)) rfl ?_
        refine T_gk hD (c1 := (62, [(18, 130), (0, x1), (0, x2), (0, x3), z4], [(0, m 143 x3), (0, x1), (18, 130), (0, x2), (31, 150)], m, XX)) (P := 0 ≤ x3 ∧ x3 < 100) rfl g1 ?_
        refine T_call hD (D2 := d_M_isNone) (q2 := 37) (as := [(18, 130), (0, x1), (0, m 143 x3)]) (c1 := (65, [(18, 130), (0, x1), (0, x2), (0, x3), z4], [(0, x2), (31, 150)], m, XX)) (mk := fun w => (1, (0, w), m, XX)) (cc := fun v4 => (65, [(18, 130), (0, x1), (0, x2), (0, x3), z4], [(0, v4), (0, x2), (31, 150)], m, XX)) rfl rfl (fun y9 h9y => Go.mono (tM_isNone m x1 (m 143 x3) y9 h9y) (by decide)) (fun _ => rfl) (fun v4 => ?_)
        refine T_if hD (c1 := (72, _, _, _, _)) (c2 := (68, _, _, _, _)) rfl (fun _ => ?_) (fun _ => ?_)
        · refine T_run hD 1 (c' := (73, [(18, 130), (0, x1), (0, x2), (0, x3), z4], [(0, 0), (0, x2), (31, 150)], m, XX)) rfl ?_
          refine T_gd hD (c1 := (74, [(18, 130), (0, x1), (0, x2), (0, x3), z4], [], mup m 150 x2 0, XX)) rfl (fun g5 => ?_)
          refine T_run hD 4 (c' := (4, [(18, 130), (0, x1), (0, w32 (x2 + 1)), (0, w32 (x3 + 1)), z4], [], mup m 150 x2 0, XX)) rfl ?_
          exact T_back0 ⟨_, rfl⟩
        · refine T_run hD 2 (c' := (73, [(18, 130), (0, x1), (0, x2), (0, x3), z4], [(0, 2), (0, x2), (31, 150)], m, XX)) rfl ?_
          refine T_gd hD (c1 := (74, [(18, 130), (0, x1), (0, x2), (0, x3), z4], [], mup m 150 x2 2, XX)) rfl (fun g6 => ?_)
          refine T_run hD 4 (c' := (4, [(18, 130), (0, x1), (0, w32 (x2 + 1)), (0, w32 (x3 + 1)), z4], [], mup m 150 x2 2, XX)) rfl ?_
          exact T_back0 ⟨_, rfl⟩
      · refine T_run hD 3 (c' := (85, [(18, 130), (0, x1), (0, x2), (0, x3), z4], [(0, x3), (31, 142)], m, XX)) rfl ?_
        refine T_gk hD (c1 := (86, [(18, 130), (0, x1), (0, x2), (0, x3), z4], [(0, m 142 x3)], m, XX)) (P := 0 ≤ x3 ∧ x3 < 100) rfl g1 ?_
        refine T_run hD 1 (c' := (87, [(18, 130), (0, x1), (0, x2), (0, x3), z4], [(0, 2), (0, m 142 x3)], m, XX)) rfl ?_
        refine T_if hD (c1 := (90, _, _, _, _)) (c2 := (111, _, _, _, _)) rfl (fun _ => ?_) (fun _ => ?_)
        · refine T_run hD 11 (c' := (105, [(18, 130), (0, x1), (0, x2), (0, x3), z4], [(0, w32 (x2 - 1)), (31, 150), (0, 2), (0, w32 (x2 - 1)), (31, 150)], m, XX)) rfl ?_
          refine T_gd hD (c1 := (106, [(18, 130), (0, x1), (0, x2), (0, x3), z4], [(0, m 150 (w32 (x2 - 1))), (0, 2), (0, w32 (x2 - 1)), (31, 150)], m, XX)) rfl (fun g7 => ?_)
          refine T_run hD 1 (c' := (107, [(18, 130), (0, x1), (0, x2), (0, x3), z4], [(0, w32 (2 - (m 150 (w32 (x2 - 1))))), (0, w32 (x2 - 1)), (31, 150)], m, XX)) rfl ?_
          refine T_gk hD (c1 := (108, [(18, 130), (0, x1), (0, x2), (0, x3), z4], [], mup m 150 (w32 (x2 - 1)) (w32 (2 - (m 150 (w32 (x2 - 1))))), XX)) (P := 0 ≤ w32 (x2 - 1) ∧ w32 (x2 - 1) < 100) rfl g7 ?_
          refine T_run hD 3 (c' := (4, [(18, 130), (0, x1), (0, x2), (0, w32 (x3 + 1)), z4], [], mup m 150 (w32 (x2 - 1)) (w32 (2 - (m 150 (w32 (x2 - 1))))), XX)) rfl ?_
          exact T_back0 ⟨_, rfl⟩
        · refine T_run hD 4 (c' := (119, [(18, 130), (0, x1), (0, w32 (x2 + (-1))), (0, x3), z4], [(0, w32 (x2 + (-1))), (31, 150)], m, XX)) rfl ?_
          refine T_gd hD (c1 := (120, [(18, 130), (0, x1), (0, w32 (x2 + (-1))), (0, x3), z4], [(0, m 150 (w32 (x2 + (-1))))], m, XX)) rfl (fun g8 => ?_)
          refine T_run hD 5 (c' := (127, [(18, 130), (0, x1), (0, w32 (x2 + (-1))), (0, x3), z4], [(0, w32 ((w32 (x2 + (-1))) - 1)), (31, 150), (0, m 150 (w32 (x2 + (-1))))], m, XX)) rfl ?_
          refine T_gd hD (c1 := (128, [(18, 130), (0, x1), (0, w32 (x2 + (-1))), (0, x3), z4], [(0, m 150 (w32 ((w32 (x2 + (-1))) - 1))), (0, m 150 (w32 (x2 + (-1))))], m, XX)) rfl (fun g9 => ?_)
          refine T_if hD (c1 := (131, _, _, _, _)) (c2 := (135, _, _, _, _)) rfl (fun _ => ?_) (fun _ => ?_)
          · refine T_run hD 2 (c' := (136, [(18, 130), (0, x1), (0, w32 (x2 + (-1))), (0, x3), z4], [(0, 1)], m, XX)) rfl ?_
            exact tM_isChosen_136 r m x1 (w32 (x2 + (-1))) x3 1 z4
          · refine T_run hD 1 (c' := (136, [(18, 130), (0, x1), (0, w32 (x2 + (-1))), (0, x3), z4], [(0, 0)], m, XX)) rfl ?_
            exact tM_isChosen_136 r m x1 (w32 (x2 + (-1))) x3 0 z4
  · refine T_run hD 2 (c' := (193, [(18, 130), (0, x1), (0, x2), (0, x3), z4], [(0, m 130 26)], m, XX)) rfl ?_
    refine T_if hD (c1 := (206, _, _, _, _)) (c2 := (196, _, _, _, _)) rfl (fun _ => ?_) (fun _ => ?_)
    · refine T_run hD 2 (c' := (211, [(18, 130), (0, x1), (0, x2), (0, x3), z4], [(0, 1)], m, XX)) rfl ?_
      exact T_fin hD rfl (fun h => h)
    · refine T_run hD 5 (c' := (203, [(18, 130), (0, x1), (0, x2), (0, x3), z4], [(0, 2), (0, m 150 0)], m, XX)) rfl ?_
      refine T_if hD (c1 := (206, _, _, _, _)) (c2 := (210, _, _, _, _)) rfl (fun _ => ?_) (fun _ => ?_)
      · refine T_run hD 2 (c' := (211, [(18, 130), (0, x1), (0, x2), (0, x3), z4], [(0, 1)], m, XX)) rfl ?_
        exact T_fin hD rfl (fun h => h)
      · refine T_run hD 1 (c' := (211, [(18, 130), (0, x1), (0, x2), (0, x3), z4], [(0, 0)], m, XX)) rfl ?_
        exact T_fin hD rfl (fun h => h)
def fM_isChosen (m : aM) (x1 : Int) : Option (Int × aM) :=
  fM_isChosen_4 m x1 0 0
set_option maxRecDepth 100000 in
theorem tM_isChosen (m : aM) (x1 : Int) : ∀ v, fM_isChosen m x1 = some v → Go PB 4 69 (aEnt d_M_isChosen [(18, 130), (0, x1)] m XX) (1, (0, v.1), v.2, XX) := by
  intro v hv
  have hD : aMd PB 69 = d_M_isChosen := rfl
  obtain ⟨r, hr⟩ : ∃ r : aR, r = (1, (0, v.1), v.2, XX) := ⟨_, rfl⟩
  have h9 : aT PB 4 69 r (fun w => r = (1, (0, w.1), w.2, XX)) (fM_isChosen m x1) (0, [(18, 130), (0, x1), (99, 0), (99, 0), (99, 0)], [], m, XX) := by
    unfold fM_isChosen
    refine T_run hD 4 (c' := (4, [(18, 130), (0, x1), (0, 0), (0, 0), (99, 0)], [], m, XX)) rfl ?_
    exact tM_isChosen_4 r m x1 0 0 (99, 0)
  rw [← hr]
  exact h9 v hv hr
def fM_passName (m : aM) : Option (Int × aM) :=
  (fM_named m).bind fun v1 =>
  if v1 < 0 then
    gd ((fM_wrong m).1 = 0 ∨ (fM_wrong m).1 = 1) (some (((fM_wrong m).1, (fM_wrong m).2)))
  else
    (fM_next m).bind fun v2 =>
    some ((1, v2))
set_option maxRecDepth 100000 in
theorem tM_passName (m : aM) : ∀ v, fM_passName m = some v → Go PB 5 70 (aEnt d_M_passName [(18, 130)] m XX) (1, (0, v.1), v.2, XX) := by
  intro v hv
  have hD : aMd PB 70 = d_M_passName := rfl
  obtain ⟨r, hr⟩ : ∃ r : aR, r = (1, (0, v.1), v.2, XX) := ⟨_, rfl⟩
  have h9 : aT PB 5 70 r (fun w => r = (1, (0, w.1), w.2, XX)) (fM_passName m) (0, [(18, 130)], [], m, XX) := by
    unfold fM_passName
    refine T_run hD 1 (c' := (1, [(18, 130)], [(18, 130)], m, XX)) rfl ?_
    refine T_call hD (D2 := d_M_named) (q2 := 53) (as := [(18, 130)]) (c1 := (4, [(18, 130)], [], m, XX)) (mk := fun w => (1, (0, w), m, XX)) (cc := fun v1 => (4, [(18, 130)], [(0, v1)], m, XX)) rfl rfl (fun y9 h9y => Go.mono (tM_named m y9 h9y) (by decide)) (fun _ => rfl) (fun v1 => ?_)
    refine T_if hD (c1 := (7, _, _, _, _)) (c2 := (12, _, _, _, _)) rfl (fun _ => ?_) (fun _ => ?_)
    · refine T_run hD 1 (c' := (8, [(18, 130)], [(18, 130)], m, XX)) rfl ?_
      refine T_call0 hD (D2 := d_M_wrong) (q2 := 52) (as := [(18, 130)]) (c1 := (11, [(18, 130)], [], m, XX)) (r2 := (1, (0, (fM_wrong m).1), (fM_wrong m).2, XX)) (c2 := (11, [(18, 130)], [(0, (fM_wrong m).1)], (fM_wrong m).2, XX)) rfl rfl (Go.mono (tM_wrong m) (by decide)) rfl ?_
      exact T_gfin hD (fun h => if_pos (decide_eq_true h)) (fun h => h)
    · refine T_run hD 1 (c' := (13, [(18, 130)], [(18, 130)], m, XX)) rfl ?_
      refine T_call hD (D2 := d_M_next) (q2 := 48) (as := [(18, 130)]) (c1 := (16, [(18, 130)], [], m, XX)) (mk := fun w => (0, (0, 0), w, XX)) (cc := fun v2 => (16, [(18, 130)], [], v2, XX)) rfl rfl (fun y9 h9y => Go.mono (tM_next m y9 h9y) (by decide)) (fun _ => rfl) (fun v2 => ?_)
      refine T_run hD 1 (c' := (17, [(18, 130)], [(0, 1)], v2, XX)) rfl ?_
      exact T_fin hD rfl (fun h => h)
  rw [← hr]
  exact h9 v hv hr
def fM_question_315 (m : aM) : Option (Int × aM) :=
  if m 130 22 = 0 then
    some ((1, m))
  else
    if (fM_wrong m).1 = 0 then
      some ((0, (fM_wrong m).2))
    else
      some ((1, (fM_wrong m).2))
set_option maxRecDepth 100000 in
theorem tM_question_315 (r : aR) (m : aM) : aT PB 9 71 r (fun w => r = (1, (0, w.1), w.2, XX)) (fM_question_315 m) (315, [(18, 130)], [], m, XX) := by
  have hD : aMd PB 71 = d_M_question := rfl
  unfold fM_question_315
  refine T_run hD 2 (c' := (319, [(18, 130)], [(0, m 130 22)], m, XX)) rfl ?_
  refine T_if hD (c1 := (329, _, _, _, _)) (c2 := (322, _, _, _, _)) rfl (fun _ => ?_) (fun _ => ?_)
  · refine T_run hD 2 (c' := (334, [(18, 130)], [(0, 1)], m, XX)) rfl ?_
    exact T_fin hD rfl (fun h => h)
  · refine T_run hD 1 (c' := (323, [(18, 130)], [(18, 130)], m, XX)) rfl ?_
    refine T_call0 hD (D2 := d_M_wrong) (q2 := 52) (as := [(18, 130)]) (c1 := (326, [(18, 130)], [], m, XX)) (r2 := (1, (0, (fM_wrong m).1), (fM_wrong m).2, XX)) (c2 := (326, [(18, 130)], [(0, (fM_wrong m).1)], (fM_wrong m).2, XX)) rfl rfl (Go.mono (tM_wrong m) (by decide)) rfl ?_
    refine T_if hD (c1 := (333, _, _, _, _)) (c2 := (329, _, _, _, _)) rfl (fun _ => ?_) (fun _ => ?_)
    · refine T_run hD 1 (c' := (334, [(18, 130)], [(0, 0)], (fM_wrong m).2, XX)) rfl ?_
      exact T_fin hD rfl (fun h => h)
    · refine T_run hD 2 (c' := (334, [(18, 130)], [(0, 1)], (fM_wrong m).2, XX)) rfl ?_
      exact T_fin hD rfl (fun h => h)
def fM_question_255 (m : aM) : Option (Int × aM) :=
  if m 130 38 = 0 then
    (fM_isWord m 491327353455).bind fun v13 =>
    if v13 = 0 then
      fM_question_315 m
    else
      (fM_next m).bind fun v14 =>
      (fM_named v14).bind fun v15 =>
      (fM_passName (mup v14 130 47 v15)).bind fun v16 =>
      if v16.1 = 0 then
        some ((0, v16.2))
      else
        (fM_isWord v16.2 1668506980).bind fun v17 =>
        gd (v17 = 0 ∨ v17 = 1) (
        if v17 = 0 then
          fM_question_315 (mup v16.2 130 48 v17)
        else
          (fM_next (mup v16.2 130 48 v17)).bind fun v19 =>
          fM_question_315 v19)
  else
    fM_question_315 m
set_option maxRecDepth 100000 in
theorem tM_question_255 (r : aR) (m : aM) : aT PB 9 71 r (fun w => r = (1, (0, w.1), w.2, XX)) (fM_question_255 m) (255, [(18, 130)], [], m, XX) := by
  have hD : aMd PB 71 = d_M_question := rfl
  unfold fM_question_255
  refine T_run hD 2 (c' := (259, [(18, 130)], [(0, m 130 38)], m, XX)) rfl ?_
  refine T_if hD (c1 := (262, _, _, _, _)) (c2 := (315, _, _, _, _)) rfl (fun _ => ?_) (fun _ => ?_)
  · refine T_run hD 2 (c' := (266, [(18, 130)], [(1, 491327353455), (18, 130)], m, XX)) rfl ?_
    refine T_call hD (D2 := d_M_isWord) (q2 := 50) (as := [(18, 130), (1, 491327353455)]) (c1 := (269, [(18, 130)], [], m, XX)) (mk := fun w => (1, (0, w), m, XX)) (cc := fun v13 => (269, [(18, 130)], [(0, v13)], m, XX)) rfl rfl (fun y9 h9y => Go.mono (tM_isWord m 491327353455 y9 h9y) (by decide)) (fun _ => rfl) (fun v13 => ?_)
    refine T_if hD (c1 := (315, _, _, _, _)) (c2 := (272, _, _, _, _)) rfl (fun _ => ?_) (fun _ => ?_)
    · exact tM_question_315 r m  
    · refine T_run hD 1 (c' := (273, [(18, 130)], [(18, 130)], m, XX)) rfl ?_
      refine T_call hD (D2 := d_M_next) (q2 := 48) (as := [(18, 130)]) (c1 := (276, [(18, 130)], [], m, XX)) (mk := fun w => (0, (0, 0), w, XX)) (cc := fun v14 => (276, [(18, 130)], [], v14, XX)) rfl rfl (fun y9 h9y => Go.mono (tM_next m y9 h9y) (by decide)) (fun _ => rfl) (fun v14 => ?_)
      refine T_run hD 2 (c' := (278, [(18, 130)], [(18, 130), (18, 130)], v14, XX)) rfl ?_
      refine T_call hD (D2 := d_M_named) (q2 := 53) (as := [(18, 130)]) (c1 := (281, [(18, 130)], [(18, 130)], v14, XX)) (mk := fun w => (1, (0, w), v14, XX)) (cc := fun v15 => (281, [(18, 130)], [(0, v15), (18, 130)], v14, XX)) rfl rfl (fun y9 h9y => Go.mono (tM_named v14 y9 h9y) (by decide)) (fun _ => rfl) (fun v15 => ?_)
      refine T_run hD 2 (c' := (285, [(18, 130)], [(18, 130)], mup v14 130 47 v15, XX)) rfl ?_
      refine T_call hD (D2 := d_M_passName) (q2 := 70) (as := [(18, 130)]) (c1 := (288, [(18, 130)], [], mup v14 130 47 v15, XX)) (mk := fun w => (1, (0, w.1), w.2, XX)) (cc := fun v16 => (288, [(18, 130)], [(0, v16.1)], v16.2, XX)) rfl rfl (fun y9 h9y => Go.mono (tM_passName (mup v14 130 47 v15) y9 h9y) (by decide)) (fun _ => rfl) (fun v16 => ?_)
      refine T_if hD (c1 := (291, _, _, _, _)) (c2 := (293, _, _, _, _)) rfl (fun _ => ?_) (fun _ => ?_)
      · refine T_run hD 1 (c' := (292, [(18, 130)], [(0, 0)], v16.2, XX)) rfl ?_
        exact T_fin hD rfl (fun h => h)
      · refine T_run hD 3 (c' := (298, [(18, 130)], [(1, 1668506980), (18, 130), (18, 130)], v16.2, XX)) rfl ?_
        refine T_call hD (D2 := d_M_isWord) (q2 := 50) (as := [(18, 130), (1, 1668506980)]) (c1 := (301, [(18, 130)], [(18, 130)], v16.2, XX)) (mk := fun w => (1, (0, w), v16.2, XX)) (cc := fun v17 => (301, [(18, 130)], [(0, v17), (18, 130)], v16.2, XX)) rfl rfl (fun y9 h9y => Go.mono (tM_isWord v16.2 1668506980 y9 h9y) (by decide)) (fun _ => rfl) (fun v17 => ?_)
        refine T_gd hD (c1 := (304, [(18, 130)], [], mup v16.2 130 48 v17, XX)) rfl (fun g18 => ?_)
        refine T_run hD 2 (c' := (308, [(18, 130)], [(0, v17)], mup v16.2 130 48 v17, XX)) rfl ?_
        refine T_if hD (c1 := (315, _, _, _, _)) (c2 := (311, _, _, _, _)) rfl (fun _ => ?_) (fun _ => ?_)
        · exact tM_question_315 r (mup v16.2 130 48 v17)  
        · refine T_run hD 1 (c' := (312, [(18, 130)], [(18, 130)], mup v16.2 130 48 v17, XX)) rfl ?_
          refine T_call hD (D2 := d_M_next) (q2 := 48) (as := [(18, 130)]) (c1 := (315, [(18, 130)], [], mup v16.2 130 48 v17, XX)) (mk := fun w => (0, (0, 0), w, XX)) (cc := fun v19 => (315, [(18, 130)], [], v19, XX)) rfl rfl (fun y9 h9y => Go.mono (tM_next (mup v16.2 130 48 v17) y9 h9y) (by decide)) (fun _ => rfl) (fun v19 => ?_)
          exact tM_question_315 r v19  
  · exact tM_question_315 r m  
def fM_question_232 (m : aM) : Option (Int × aM) :=
  (fM_isWord m 435710945399).bind fun v12 =>
  if v12 = 0 then
    fM_question_255 m
  else
    (fM_next m).bind fun v20 =>
    (fM_condition v20).bind fun v21 =>
    if v21.1 = 0 then
      some ((0, v21.2))
    else
      fM_question_255 v21.2
set_option maxRecDepth 100000 in
theorem tM_question_232 (r : aR) (m : aM) : aT PB 9 71 r (fun w => r = (1, (0, w.1), w.2, XX)) (fM_question_232 m) (232, [(18, 130)], [], m, XX) := by
  have hD : aMd PB 71 = d_M_question := rfl
  unfold fM_question_232
  refine T_run hD 2 (c' := (236, [(18, 130)], [(1, 435710945399), (18, 130)], m, XX)) rfl ?_
  refine T_call hD (D2 := d_M_isWord) (q2 := 50) (as := [(18, 130), (1, 435710945399)]) (c1 := (239, [(18, 130)], [], m, XX)) (mk := fun w => (1, (0, w), m, XX)) (cc := fun v12 => (239, [(18, 130)], [(0, v12)], m, XX)) rfl rfl (fun y9 h9y => Go.mono (tM_isWord m 435710945399 y9 h9y) (by decide)) (fun _ => rfl) (fun v12 => ?_)
  refine T_if hD (c1 := (255, _, _, _, _)) (c2 := (242, _, _, _, _)) rfl (fun _ => ?_) (fun _ => ?_)
  · exact tM_question_255 r m  
  · refine T_run hD 1 (c' := (243, [(18, 130)], [(18, 130)], m, XX)) rfl ?_
    refine T_call hD (D2 := d_M_next) (q2 := 48) (as := [(18, 130)]) (c1 := (246, [(18, 130)], [], m, XX)) (mk := fun w => (0, (0, 0), w, XX)) (cc := fun v20 => (246, [(18, 130)], [], v20, XX)) rfl rfl (fun y9 h9y => Go.mono (tM_next m y9 h9y) (by decide)) (fun _ => rfl) (fun v20 => ?_)
    refine T_run hD 1 (c' := (247, [(18, 130)], [(18, 130)], v20, XX)) rfl ?_
    refine T_call hD (D2 := d_M_condition) (q2 := 63) (as := [(18, 130)]) (c1 := (250, [(18, 130)], [], v20, XX)) (mk := fun w => (1, (0, w.1), w.2, XX)) (cc := fun v21 => (250, [(18, 130)], [(0, v21.1)], v21.2, XX)) rfl rfl (fun y9 h9y => Go.mono (tM_condition v20 y9 h9y) (by decide)) (fun _ => rfl) (fun v21 => ?_)
    refine T_if hD (c1 := (253, _, _, _, _)) (c2 := (255, _, _, _, _)) rfl (fun _ => ?_) (fun _ => ?_)
    · refine T_run hD 1 (c' := (254, [(18, 130)], [(0, 0)], v21.2, XX)) rfl ?_
      exact T_fin hD rfl (fun h => h)
    · exact tM_question_255 r v21.2  
def fM_question_194 (m : aM) : Option (Int × aM) :=
  if 0 < m 130 38 then
    (fM_isWord m 31074).bind fun v11 =>
    if v11 = 0 then
      fM_question_232 m
    else
      (fM_next m).bind fun v22 =>
      (fM_named v22).bind fun v23 =>
      (fM_passName (mup v22 130 39 v23)).bind fun v24 =>
      if v24.1 = 0 then
        some ((0, v24.2))
      else
        fM_question_232 v24.2
  else
    fM_question_232 m
set_option maxRecDepth 100000 in
theorem tM_question_194 (r : aR) (m : aM) : aT PB 9 71 r (fun w => r = (1, (0, w.1), w.2, XX)) (fM_question_194 m) (194, [(18, 130)], [], m, XX) := by
  have hD : aMd PB 71 = d_M_question := rfl
  unfold fM_question_194
  refine T_run hD 2 (c' := (198, [(18, 130)], [(0, m 130 38)], m, XX)) rfl ?_
  refine T_if hD (c1 := (201, _, _, _, _)) (c2 := (232, _, _, _, _)) rfl (fun _ => ?_) (fun _ => ?_)
  · refine T_run hD 2 (c' := (205, [(18, 130)], [(1, 31074), (18, 130)], m, XX)) rfl ?_
    refine T_call hD (D2 := d_M_isWord) (q2 := 50) (as := [(18, 130), (1, 31074)]) (c1 := (208, [(18, 130)], [], m, XX)) (mk := fun w => (1, (0, w), m, XX)) (cc := fun v11 => (208, [(18, 130)], [(0, v11)], m, XX)) rfl rfl (fun y9 h9y => Go.mono (tM_isWord m 31074 y9 h9y) (by decide)) (fun _ => rfl) (fun v11 => ?_)
    refine T_if hD (c1 := (232, _, _, _, _)) (c2 := (211, _, _, _, _)) rfl (fun _ => ?_) (fun _ => ?_)
    · exact tM_question_232 r m  
    · refine T_run hD 1 (c' := (212, [(18, 130)], [(18, 130)], m, XX)) rfl ?_
      refine T_call hD (D2 := d_M_next) (q2 := 48) (as := [(18, 130)]) (c1 := (215, [(18, 130)], [], m, XX)) (mk := fun w => (0, (0, 0), w, XX)) (cc := fun v22 => (215, [(18, 130)], [], v22, XX)) rfl rfl (fun y9 h9y => Go.mono (tM_next m y9 h9y) (by decide)) (fun _ => rfl) (fun v22 => ?_)
      refine T_run hD 2 (c' := (217, [(18, 130)], [(18, 130), (18, 130)], v22, XX)) rfl ?_
      refine T_call hD (D2 := d_M_named) (q2 := 53) (as := [(18, 130)]) (c1 := (220, [(18, 130)], [(18, 130)], v22, XX)) (mk := fun w => (1, (0, w), v22, XX)) (cc := fun v23 => (220, [(18, 130)], [(0, v23), (18, 130)], v22, XX)) rfl rfl (fun y9 h9y => Go.mono (tM_named v22 y9 h9y) (by decide)) (fun _ => rfl) (fun v23 => ?_)
      refine T_run hD 2 (c' := (224, [(18, 130)], [(18, 130)], mup v22 130 39 v23, XX)) rfl ?_
      refine T_call hD (D2 := d_M_passName) (q2 := 70) (as := [(18, 130)]) (c1 := (227, [(18, 130)], [], mup v22 130 39 v23, XX)) (mk := fun w => (1, (0, w.1), w.2, XX)) (cc := fun v24 => (227, [(18, 130)], [(0, v24.1)], v24.2, XX)) rfl rfl (fun y9 h9y => Go.mono (tM_passName (mup v22 130 39 v23) y9 h9y) (by decide)) (fun _ => rfl) (fun v24 => ?_)
      refine T_if hD (c1 := (230, _, _, _, _)) (c2 := (232, _, _, _, _)) rfl (fun _ => ?_) (fun _ => ?_)
      · refine T_run hD 1 (c' := (231, [(18, 130)], [(0, 0)], v24.2, XX)) rfl ?_
        exact T_fin hD rfl (fun h => h)
      · exact tM_question_232 r v24.2  
  · exact tM_question_232 r m  
def fM_question_176 (m : aM) : Option (Int × aM) :=
  (fM_passName m).bind fun v9 =>
  if v9.1 = 0 then
    some ((0, v9.2))
  else
    (fM_passSign v9.2 41).bind fun v10 =>
    if v10.1 = 0 then
      some ((0, v10.2))
    else
      fM_question_194 v10.2
set_option maxRecDepth 100000 in
theorem tM_question_176 (r : aR) (m : aM) : aT PB 9 71 r (fun w => r = (1, (0, w.1), w.2, XX)) (fM_question_176 m) (176, [(18, 130)], [], m, XX) := by
  have hD : aMd PB 71 = d_M_question := rfl
  unfold fM_question_176
  refine T_run hD 1 (c' := (177, [(18, 130)], [(18, 130)], m, XX)) rfl ?_
  refine T_call hD (D2 := d_M_passName) (q2 := 70) (as := [(18, 130)]) (c1 := (180, [(18, 130)], [], m, XX)) (mk := fun w => (1, (0, w.1), w.2, XX)) (cc := fun v9 => (180, [(18, 130)], [(0, v9.1)], v9.2, XX)) rfl rfl (fun y9 h9y => Go.mono (tM_passName m y9 h9y) (by decide)) (fun _ => rfl) (fun v9 => ?_)
  refine T_if hD (c1 := (192, _, _, _, _)) (c2 := (183, _, _, _, _)) rfl (fun _ => ?_) (fun _ => ?_)
  · refine T_run hD 1 (c' := (193, [(18, 130)], [(0, 0)], v9.2, XX)) rfl ?_
    exact T_fin hD rfl (fun h => h)
  · refine T_run hD 2 (c' := (186, [(18, 130)], [(0, 41), (18, 130)], v9.2, XX)) rfl ?_
    refine T_call hD (D2 := d_M_passSign) (q2 := 55) (as := [(18, 130), (0, 41)]) (c1 := (189, [(18, 130)], [], v9.2, XX)) (mk := fun w => (1, (0, w.1), w.2, XX)) (cc := fun v10 => (189, [(18, 130)], [(0, v10.1)], v10.2, XX)) rfl rfl (fun y9 h9y => Go.mono (tM_passSign v9.2 41 y9 h9y) (by decide)) (fun _ => rfl) (fun v10 => ?_)
    refine T_if hD (c1 := (192, _, _, _, _)) (c2 := (194, _, _, _, _)) rfl (fun _ => ?_) (fun _ => ?_)
    · refine T_run hD 1 (c' := (193, [(18, 130)], [(0, 0)], v10.2, XX)) rfl ?_
      exact T_fin hD rfl (fun h => h)
    · exact tM_question_194 r v10.2  
def fM_question_97 (m : aM) (s1 : Int) : Option (Int × aM) :=
  if s1 < 0 then
    gd ((fM_wrong (mup m 130 38 s1)).1 = 0 ∨ (fM_wrong (mup m 130 38 s1)).1 = 1) (some (((fM_wrong (mup m 130 38 s1)).1, (fM_wrong (mup m 130 38 s1)).2)))
  else
    (fM_next (mup m 130 38 s1)).bind fun v6 =>
    if 1 < v6 130 38 then
      (fM_passSign v6 40).bind fun v7 =>
      if v7.1 = 0 then
        some ((0, v7.2))
      else
        (fM_named v7.2).bind fun v8 =>
        if v7.2 130 38 = 2 then
          if v8 < 0 then
            fM_question_176 (mup v7.2 130 40 v8)
          else
            gd (0 ≤ v8 ∧ v8 < 6) (
            if 1 < v7.2 133 v8 then
              gd ((fM_wrong (mup v7.2 130 40 v8)).1 = 0 ∨ (fM_wrong (mup v7.2 130 40 v8)).1 = 1) (some (((fM_wrong (mup v7.2 130 40 v8)).1, (fM_wrong (mup v7.2 130 40 v8)).2)))
            else
              fM_question_176 (mup v7.2 130 40 v8))
        else
          fM_question_176 (mup v7.2 130 40 v8)
    else
      fM_question_194 v6
set_option maxRecDepth 100000 in
theorem tM_question_97 (r : aR) (m : aM) (s1 : Int) : aT PB 9 71 r (fun w => r = (1, (0, w.1), w.2, XX)) (fM_question_97 m s1) (97, [(18, 130)], [(0, s1), (18, 130)], m, XX) := by
  have hD : aMd PB 71 = d_M_question := rfl
  unfold fM_question_97
  refine T_run hD 3 (c' := (104, [(18, 130)], [(0, s1)], mup m 130 38 s1, XX)) rfl ?_
  refine T_if hD (c1 := (107, _, _, _, _)) (c2 := (112, _, _, _, _)) rfl (fun _ => ?_) (fun _ => ?_)
  · refine T_run hD 1 (c' := (108, [(18, 130)], [(18, 130)], mup m 130 38 s1, XX)) rfl ?_
    refine T_call0 hD (D2 := d_M_wrong) (q2 := 52) (as := [(18, 130)]) (c1 := (111, [(18, 130)], [], mup m 130 38 s1, XX)) (r2 := (1, (0, (fM_wrong (mup m 130 38 s1)).1), (fM_wrong (mup m 130 38 s1)).2, XX)) (c2 := (111, [(18, 130)], [(0, (fM_wrong (mup m 130 38 s1)).1)], (fM_wrong (mup m 130 38 s1)).2, XX)) rfl rfl (Go.mono (tM_wrong (mup m 130 38 s1)) (by decide)) rfl ?_
    exact T_gfin hD (fun h => if_pos (decide_eq_true h)) (fun h => h)
  · refine T_run hD 1 (c' := (113, [(18, 130)], [(18, 130)], mup m 130 38 s1, XX)) rfl ?_
    refine T_call hD (D2 := d_M_next) (q2 := 48) (as := [(18, 130)]) (c1 := (116, [(18, 130)], [], mup m 130 38 s1, XX)) (mk := fun w => (0, (0, 0), w, XX)) (cc := fun v6 => (116, [(18, 130)], [], v6, XX)) rfl rfl (fun y9 h9y => Go.mono (tM_next (mup m 130 38 s1) y9 h9y) (by decide)) (fun _ => rfl) (fun v6 => ?_)
    refine T_run hD 3 (c' := (121, [(18, 130)], [(0, 1), (0, v6 130 38)], v6, XX)) rfl ?_
    refine T_if hD (c1 := (124, _, _, _, _)) (c2 := (194, _, _, _, _)) rfl (fun _ => ?_) (fun _ => ?_)
    · refine T_run hD 2 (c' := (127, [(18, 130)], [(0, 40), (18, 130)], v6, XX)) rfl ?_
      refine T_call hD (D2 := d_M_passSign) (q2 := 55) (as := [(18, 130), (0, 40)]) (c1 := (130, [(18, 130)], [], v6, XX)) (mk := fun w => (1, (0, w.1), w.2, XX)) (cc := fun v7 => (130, [(18, 130)], [(0, v7.1)], v7.2, XX)) rfl rfl (fun y9 h9y => Go.mono (tM_passSign v6 40 y9 h9y) (by decide)) (fun _ => rfl) (fun v7 => ?_)
      refine T_if hD (c1 := (133, _, _, _, _)) (c2 := (135, _, _, _, _)) rfl (fun _ => ?_) (fun _ => ?_)
      · refine T_run hD 1 (c' := (134, [(18, 130)], [(0, 0)], v7.2, XX)) rfl ?_
        exact T_fin hD rfl (fun h => h)
      · refine T_run hD 2 (c' := (137, [(18, 130)], [(18, 130), (18, 130)], v7.2, XX)) rfl ?_
        refine T_call hD (D2 := d_M_named) (q2 := 53) (as := [(18, 130)]) (c1 := (140, [(18, 130)], [(18, 130)], v7.2, XX)) (mk := fun w => (1, (0, w), v7.2, XX)) (cc := fun v8 => (140, [(18, 130)], [(0, v8), (18, 130)], v7.2, XX)) rfl rfl (fun y9 h9y => Go.mono (tM_named v7.2 y9 h9y) (by decide)) (fun _ => rfl) (fun v8 => ?_)
        refine T_run hD 4 (c' := (148, [(18, 130)], [(0, 2), (0, v7.2 130 38)], mup v7.2 130 40 v8, XX)) rfl ?_
        refine T_if hD (c1 := (151, _, _, _, _)) (c2 := (176, _, _, _, _)) rfl (fun _ => ?_) (fun _ => ?_)
        · refine T_run hD 2 (c' := (155, [(18, 130)], [(0, v8)], mup v7.2 130 40 v8, XX)) rfl ?_
          refine T_if hD (c1 := (176, _, _, _, _)) (c2 := (158, _, _, _, _)) rfl (fun _ => ?_) (fun _ => ?_)
          · exact tM_question_176 r (mup v7.2 130 40 v8)  
          · refine T_run hD 4 (c' := (166, [(18, 130)], [(0, v8), (31, 133)], mup v7.2 130 40 v8, XX)) rfl ?_
            refine T_gd hD (c1 := (167, [(18, 130)], [(0, v7.2 133 v8)], mup v7.2 130 40 v8, XX)) rfl (fun g25 => ?_)
            refine T_run hD 1 (c' := (168, [(18, 130)], [(0, 1), (0, v7.2 133 v8)], mup v7.2 130 40 v8, XX)) rfl ?_
            refine T_if hD (c1 := (171, _, _, _, _)) (c2 := (176, _, _, _, _)) rfl (fun _ => ?_) (fun _ => ?_)
            · refine T_run hD 1 (c' := (172, [(18, 130)], [(18, 130)], mup v7.2 130 40 v8, XX)) rfl ?_
              refine T_call0 hD (D2 := d_M_wrong) (q2 := 52) (as := [(18, 130)]) (c1 := (175, [(18, 130)], [], mup v7.2 130 40 v8, XX)) (r2 := (1, (0, (fM_wrong (mup v7.2 130 40 v8)).1), (fM_wrong (mup v7.2 130 40 v8)).2, XX)) (c2 := (175, [(18, 130)], [(0, (fM_wrong (mup v7.2 130 40 v8)).1)], (fM_wrong (mup v7.2 130 40 v8)).2, XX)) rfl rfl (Go.mono (tM_wrong (mup v7.2 130 40 v8)) (by decide)) rfl ?_
              exact T_gfin hD (fun h => if_pos (decide_eq_true h)) (fun h => h)
            · exact tM_question_176 r (mup v7.2 130 40 v8)  
        · exact tM_question_176 r (mup v7.2 130 40 v8)  
    · exact tM_question_194 r v6  
def fM_question (m : aM) : Option (Int × aM) :=
  (fM_isWord (mup (mup (mup (mup (mup m 130 26 0) 130 39 (-1)) 130 40 (-1)) 130 47 (-1)) 130 48 0) 1937207154).bind fun v1 =>
  if v1 = 0 then
    (fM_isWord (mup (mup (mup (mup (mup m 130 26 0) 130 39 (-1)) 130 40 (-1)) 130 47 (-1)) 130 48 0) 500069396323).bind fun v2 =>
    if v2 = 0 then
      (fM_isWord (mup (mup (mup (mup (mup m 130 26 0) 130 39 (-1)) 130 40 (-1)) 130 47 (-1)) 130 48 0) 7173491).bind fun v3 =>
      if v3 = 0 then
        (fM_isWord (mup (mup (mup (mup (mup m 130 26 0) 130 39 (-1)) 130 40 (-1)) 130 47 (-1)) 130 48 0) 500151969132).bind fun v4 =>
        if v4 = 0 then
          (fM_isWord (mup (mup (mup (mup (mup m 130 26 0) 130 39 (-1)) 130 40 (-1)) 130 47 (-1)) 130 48 0) 1953722221).bind fun v5 =>
          if v5 = 0 then
            fM_question_97 (mup (mup (mup (mup (mup m 130 26 0) 130 39 (-1)) 130 40 (-1)) 130 47 (-1)) 130 48 0) (-1)
          else
            fM_question_97 (mup (mup (mup (mup (mup m 130 26 0) 130 39 (-1)) 130 40 (-1)) 130 47 (-1)) 130 48 0) 4
        else
          fM_question_97 (mup (mup (mup (mup (mup m 130 26 0) 130 39 (-1)) 130 40 (-1)) 130 47 (-1)) 130 48 0) 3
      else
        fM_question_97 (mup (mup (mup (mup (mup m 130 26 0) 130 39 (-1)) 130 40 (-1)) 130 47 (-1)) 130 48 0) 2
    else
      fM_question_97 (mup (mup (mup (mup (mup m 130 26 0) 130 39 (-1)) 130 40 (-1)) 130 47 (-1)) 130 48 0) 1
  else
    fM_question_97 (mup (mup (mup (mup (mup m 130 26 0) 130 39 (-1)) 130 40 (-1)) 130 47 (-1)) 130 48 0) 0
set_option maxRecDepth 100000 in
theorem tM_question (m : aM) : ∀ v, fM_question m = some v → Go PB 9 71 (aEnt d_M_question [(18, 130)] m XX) (1, (0, v.1), v.2, XX) := by
  intro v hv
  have hD : aMd PB 71 = d_M_question := rfl
  obtain ⟨r, hr⟩ : ∃ r : aR, r = (1, (0, v.1), v.2, XX) := ⟨_, rfl⟩
  have h9 : aT PB 9 71 r (fun w => r = (1, (0, w.1), w.2, XX)) (fM_question m) (0, [(18, 130)], [], m, XX) := by
    unfold fM_question
    refine T_run hD 18 (c' := (30, [(18, 130)], [(1, 1937207154), (18, 130), (18, 130)], mup (mup (mup (mup (mup m 130 26 0) 130 39 (-1)) 130 40 (-1)) 130 47 (-1)) 130 48 0, XX)) rfl ?_
    refine T_call hD (D2 := d_M_isWord) (q2 := 50) (as := [(18, 130), (1, 1937207154)]) (c1 := (33, [(18, 130)], [(18, 130)], mup (mup (mup (mup (mup m 130 26 0) 130 39 (-1)) 130 40 (-1)) 130 47 (-1)) 130 48 0, XX)) (mk := fun w => (1, (0, w), mup (mup (mup (mup (mup m 130 26 0) 130 39 (-1)) 130 40 (-1)) 130 47 (-1)) 130 48 0, XX)) (cc := fun v1 => (33, [(18, 130)], [(0, v1), (18, 130)], mup (mup (mup (mup (mup m 130 26 0) 130 39 (-1)) 130 40 (-1)) 130 47 (-1)) 130 48 0, XX)) rfl rfl (fun y9 h9y => Go.mono (tM_isWord (mup (mup (mup (mup (mup m 130 26 0) 130 39 (-1)) 130 40 (-1)) 130 47 (-1)) 130 48 0) 1937207154 y9 h9y) (by decide)) (fun _ => rfl) (fun v1 => ?_)
    refine T_if hD (c1 := (40, _, _, _, _)) (c2 := (36, _, _, _, _)) rfl (fun _ => ?_) (fun _ => ?_)
    · refine T_run hD 2 (c' := (44, [(18, 130)], [(1, 500069396323), (18, 130), (18, 130)], mup (mup (mup (mup (mup m 130 26 0) 130 39 (-1)) 130 40 (-1)) 130 47 (-1)) 130 48 0, XX)) rfl ?_
      refine T_call hD (D2 := d_M_isWord) (q2 := 50) (as := [(18, 130), (1, 500069396323)]) (c1 := (47, [(18, 130)], [(18, 130)], mup (mup (mup (mup (mup m 130 26 0) 130 39 (-1)) 130 40 (-1)) 130 47 (-1)) 130 48 0, XX)) (mk := fun w => (1, (0, w), mup (mup (mup (mup (mup m 130 26 0) 130 39 (-1)) 130 40 (-1)) 130 47 (-1)) 130 48 0, XX)) (cc := fun v2 => (47, [(18, 130)], [(0, v2), (18, 130)], mup (mup (mup (mup (mup m 130 26 0) 130 39 (-1)) 130 40 (-1)) 130 47 (-1)) 130 48 0, XX)) rfl rfl (fun y9 h9y => Go.mono (tM_isWord (mup (mup (mup (mup (mup m 130 26 0) 130 39 (-1)) 130 40 (-1)) 130 47 (-1)) 130 48 0) 500069396323 y9 h9y) (by decide)) (fun _ => rfl) (fun v2 => ?_)
      refine T_if hD (c1 := (54, _, _, _, _)) (c2 := (50, _, _, _, _)) rfl (fun _ => ?_) (fun _ => ?_)
      · refine T_run hD 2 (c' := (58, [(18, 130)], [(1, 7173491), (18, 130), (18, 130)], mup (mup (mup (mup (mup m 130 26 0) 130 39 (-1)) 130 40 (-1)) 130 47 (-1)) 130 48 0, XX)) rfl ?_
        refine T_call hD (D2 := d_M_isWord) (q2 := 50) (as := [(18, 130), (1, 7173491)]) (c1 := (61, [(18, 130)], [(18, 130)], mup (mup (mup (mup (mup m 130 26 0) 130 39 (-1)) 130 40 (-1)) 130 47 (-1)) 130 48 0, XX)) (mk := fun w => (1, (0, w), mup (mup (mup (mup (mup m 130 26 0) 130 39 (-1)) 130 40 (-1)) 130 47 (-1)) 130 48 0, XX)) (cc := fun v3 => (61, [(18, 130)], [(0, v3), (18, 130)], mup (mup (mup (mup (mup m 130 26 0) 130 39 (-1)) 130 40 (-1)) 130 47 (-1)) 130 48 0, XX)) rfl rfl (fun y9 h9y => Go.mono (tM_isWord (mup (mup (mup (mup (mup m 130 26 0) 130 39 (-1)) 130 40 (-1)) 130 47 (-1)) 130 48 0) 7173491 y9 h9y) (by decide)) (fun _ => rfl) (fun v3 => ?_)
        refine T_if hD (c1 := (68, _, _, _, _)) (c2 := (64, _, _, _, _)) rfl (fun _ => ?_) (fun _ => ?_)
        · refine T_run hD 2 (c' := (72, [(18, 130)], [(1, 500151969132), (18, 130), (18, 130)], mup (mup (mup (mup (mup m 130 26 0) 130 39 (-1)) 130 40 (-1)) 130 47 (-1)) 130 48 0, XX)) rfl ?_
          refine T_call hD (D2 := d_M_isWord) (q2 := 50) (as := [(18, 130), (1, 500151969132)]) (c1 := (75, [(18, 130)], [(18, 130)], mup (mup (mup (mup (mup m 130 26 0) 130 39 (-1)) 130 40 (-1)) 130 47 (-1)) 130 48 0, XX)) (mk := fun w => (1, (0, w), mup (mup (mup (mup (mup m 130 26 0) 130 39 (-1)) 130 40 (-1)) 130 47 (-1)) 130 48 0, XX)) (cc := fun v4 => (75, [(18, 130)], [(0, v4), (18, 130)], mup (mup (mup (mup (mup m 130 26 0) 130 39 (-1)) 130 40 (-1)) 130 47 (-1)) 130 48 0, XX)) rfl rfl (fun y9 h9y => Go.mono (tM_isWord (mup (mup (mup (mup (mup m 130 26 0) 130 39 (-1)) 130 40 (-1)) 130 47 (-1)) 130 48 0) 500151969132 y9 h9y) (by decide)) (fun _ => rfl) (fun v4 => ?_)
          refine T_if hD (c1 := (82, _, _, _, _)) (c2 := (78, _, _, _, _)) rfl (fun _ => ?_) (fun _ => ?_)
          · refine T_run hD 2 (c' := (86, [(18, 130)], [(1, 1953722221), (18, 130), (18, 130)], mup (mup (mup (mup (mup m 130 26 0) 130 39 (-1)) 130 40 (-1)) 130 47 (-1)) 130 48 0, XX)) rfl ?_
            refine T_call hD (D2 := d_M_isWord) (q2 := 50) (as := [(18, 130), (1, 1953722221)]) (c1 := (89, [(18, 130)], [(18, 130)], mup (mup (mup (mup (mup m 130 26 0) 130 39 (-1)) 130 40 (-1)) 130 47 (-1)) 130 48 0, XX)) (mk := fun w => (1, (0, w), mup (mup (mup (mup (mup m 130 26 0) 130 39 (-1)) 130 40 (-1)) 130 47 (-1)) 130 48 0, XX)) (cc := fun v5 => (89, [(18, 130)], [(0, v5), (18, 130)], mup (mup (mup (mup (mup m 130 26 0) 130 39 (-1)) 130 40 (-1)) 130 47 (-1)) 130 48 0, XX)) rfl rfl (fun y9 h9y => Go.mono (tM_isWord (mup (mup (mup (mup (mup m 130 26 0) 130 39 (-1)) 130 40 (-1)) 130 47 (-1)) 130 48 0) 1953722221 y9 h9y) (by decide)) (fun _ => rfl) (fun v5 => ?_)
            refine T_if hD (c1 := (96, _, _, _, _)) (c2 := (92, _, _, _, _)) rfl (fun _ => ?_) (fun _ => ?_)
            · refine T_run hD 1 (c' := (97, [(18, 130)], [(0, (-1)), (18, 130)], mup (mup (mup (mup (mup m 130 26 0) 130 39 (-1)) 130 40 (-1)) 130 47 (-1)) 130 48 0, XX)) rfl ?_
              exact tM_question_97 r (mup (mup (mup (mup (mup m 130 26 0) 130 39 (-1)) 130 40 (-1)) 130 47 (-1)) 130 48 0) (-1) 
            · refine T_run hD 2 (c' := (97, [(18, 130)], [(0, 4), (18, 130)], mup (mup (mup (mup (mup m 130 26 0) 130 39 (-1)) 130 40 (-1)) 130 47 (-1)) 130 48 0, XX)) rfl ?_
              exact tM_question_97 r (mup (mup (mup (mup (mup m 130 26 0) 130 39 (-1)) 130 40 (-1)) 130 47 (-1)) 130 48 0) 4 
          · refine T_run hD 2 (c' := (97, [(18, 130)], [(0, 3), (18, 130)], mup (mup (mup (mup (mup m 130 26 0) 130 39 (-1)) 130 40 (-1)) 130 47 (-1)) 130 48 0, XX)) rfl ?_
            exact tM_question_97 r (mup (mup (mup (mup (mup m 130 26 0) 130 39 (-1)) 130 40 (-1)) 130 47 (-1)) 130 48 0) 3 
        · refine T_run hD 2 (c' := (97, [(18, 130)], [(0, 2), (18, 130)], mup (mup (mup (mup (mup m 130 26 0) 130 39 (-1)) 130 40 (-1)) 130 47 (-1)) 130 48 0, XX)) rfl ?_
          exact tM_question_97 r (mup (mup (mup (mup (mup m 130 26 0) 130 39 (-1)) 130 40 (-1)) 130 47 (-1)) 130 48 0) 2 
      · refine T_run hD 2 (c' := (97, [(18, 130)], [(0, 1), (18, 130)], mup (mup (mup (mup (mup m 130 26 0) 130 39 (-1)) 130 40 (-1)) 130 47 (-1)) 130 48 0, XX)) rfl ?_
        exact tM_question_97 r (mup (mup (mup (mup (mup m 130 26 0) 130 39 (-1)) 130 40 (-1)) 130 47 (-1)) 130 48 0) 1 
    · refine T_run hD 2 (c' := (97, [(18, 130)], [(0, 0), (18, 130)], mup (mup (mup (mup (mup m 130 26 0) 130 39 (-1)) 130 40 (-1)) 130 47 (-1)) 130 48 0, XX)) rfl ?_
      exact tM_question_97 r (mup (mup (mup (mup (mup m 130 26 0) 130 39 (-1)) 130 40 (-1)) 130 47 (-1)) 130 48 0) 0 
  rw [← hr]
  exact h9 v hv hr
def fM_isBefore_55 (m : aM) (x3 : Int) (x4 : Int) : Option Int :=
  if x4 = 0 then
    some (0)
  else
    if x3 = 0 then
      if m 130 48 = 0 then
        some (0)
      else
        some (1)
    else
      some (0)
set_option maxRecDepth 100000 in
theorem tM_isBefore_55 (r : aR) (m : aM) (x3 : Int) (x4 : Int) (z1 : aV) (z2 : aV) (z5 : aV) : aT PB 3 72 r (fun w => r = (1, (0, w), m, XX)) (fM_isBefore_55 m x3 x4) (55, [(18, 130), z1, z2, (0, x3), (0, x4), z5], [], m, XX) := by
  have hD : aMd PB 72 = d_M_isBefore := rfl
  unfold fM_isBefore_55
  refine T_run hD 1 (c' := (57, [(18, 130), z1, z2, (0, x3), (0, x4), z5], [(0, x4)], m, XX)) rfl ?_
  refine T_if hD (c1 := (75, _, _, _, _)) (c2 := (60, _, _, _, _)) rfl (fun _ => ?_) (fun _ => ?_)
  · refine T_run hD 1 (c' := (76, [(18, 130), z1, z2, (0, x3), (0, x4), z5], [(0, 0)], m, XX)) rfl ?_
    exact T_fin hD rfl (fun h => h)
  · refine T_run hD 1 (c' := (61, [(18, 130), z1, z2, (0, x3), (0, x4), z5], [(0, x3)], m, XX)) rfl ?_
    refine T_if hD (c1 := (64, _, _, _, _)) (c2 := (75, _, _, _, _)) rfl (fun _ => ?_) (fun _ => ?_)
    · refine T_run hD 2 (c' := (68, [(18, 130), z1, z2, (0, x3), (0, x4), z5], [(0, m 130 48)], m, XX)) rfl ?_
      refine T_if hD (c1 := (75, _, _, _, _)) (c2 := (71, _, _, _, _)) rfl (fun _ => ?_) (fun _ => ?_)
      · refine T_run hD 1 (c' := (76, [(18, 130), z1, z2, (0, x3), (0, x4), z5], [(0, 0)], m, XX)) rfl ?_
        exact T_fin hD rfl (fun h => h)
      · refine T_run hD 2 (c' := (76, [(18, 130), z1, z2, (0, x3), (0, x4), z5], [(0, 1)], m, XX)) rfl ?_
        exact T_fin hD rfl (fun h => h)
    · refine T_run hD 1 (c' := (76, [(18, 130), z1, z2, (0, x3), (0, x4), z5], [(0, 0)], m, XX)) rfl ?_
      exact T_fin hD rfl (fun h => h)
def fM_isBefore_39 (m : aM) (x3 : Int) (x4 : Int) : Option Int :=
  if x3 = 0 then
    fM_isBefore_55 m x3 x4
  else
    if x4 = 0 then
      if m 130 48 = 0 then
        some (1)
      else
        fM_isBefore_55 m x3 x4
    else
      fM_isBefore_55 m x3 x4
set_option maxRecDepth 100000 in
theorem tM_isBefore_39 (r : aR) (m : aM) (x3 : Int) (x4 : Int) (z1 : aV) (z2 : aV) (z5 : aV) : aT PB 3 72 r (fun w => r = (1, (0, w), m, XX)) (fM_isBefore_39 m x3 x4) (39, [(18, 130), z1, z2, (0, x3), (0, x4), z5], [], m, XX) := by
  have hD : aMd PB 72 = d_M_isBefore := rfl
  unfold fM_isBefore_39
  refine T_run hD 1 (c' := (40, [(18, 130), z1, z2, (0, x3), (0, x4), z5], [(0, x3)], m, XX)) rfl ?_
  refine T_if hD (c1 := (55, _, _, _, _)) (c2 := (43, _, _, _, _)) rfl (fun _ => ?_) (fun _ => ?_)
  · exact tM_isBefore_55 r m x3 x4 z1 z2 z5
  · refine T_run hD 1 (c' := (45, [(18, 130), z1, z2, (0, x3), (0, x4), z5], [(0, x4)], m, XX)) rfl ?_
    refine T_if hD (c1 := (48, _, _, _, _)) (c2 := (55, _, _, _, _)) rfl (fun _ => ?_) (fun _ => ?_)
    · refine T_run hD 2 (c' := (52, [(18, 130), z1, z2, (0, x3), (0, x4), z5], [(0, m 130 48)], m, XX)) rfl ?_
      refine T_if hD (c1 := (71, _, _, _, _)) (c2 := (55, _, _, _, _)) rfl (fun _ => ?_) (fun _ => ?_)
      · refine T_run hD 2 (c' := (76, [(18, 130), z1, z2, (0, x3), (0, x4), z5], [(0, 1)], m, XX)) rfl ?_
        exact T_fin hD rfl (fun h => h)
      · exact tM_isBefore_55 r m x3 x4 z1 z2 z5
    · exact tM_isBefore_55 r m x3 x4 z1 z2 z5
def fM_isBefore (m : aM) (x1 : Int) (x2 : Int) : Option Int :=
  if m 130 47 < 0 then
    some (0)
  else
    (fM_isNone m x1 (m 130 47)).bind fun v1 =>
    (fM_isNone m x2 (m 130 47)).bind fun v2 =>
    if v1 = 0 then
      if v2 = 0 then
        (fM_compareCells m (m 130 47) x1 (m 130 47) x2).bind fun v3 =>
        if m 130 48 = 0 then
          if v3 < 0 then
            some (1)
          else
            some (0)
        else
          if 0 < v3 then
            some (1)
          else
            some (0)
      else
        fM_isBefore_39 m v1 v2
    else
      fM_isBefore_39 m v1 v2
set_option maxRecDepth 100000 in
theorem tM_isBefore (m : aM) (x1 : Int) (x2 : Int) : ∀ v, fM_isBefore m x1 x2 = some v → Go PB 3 72 (aEnt d_M_isBefore [(18, 130), (0, x1), (0, x2)] m XX) (1, (0, v), m, XX) := by
  intro v hv
  have hD : aMd PB 72 = d_M_isBefore := rfl
  obtain ⟨r, hr⟩ : ∃ r : aR, r = (1, (0, v), m, XX) := ⟨_, rfl⟩
  have h9 : aT PB 3 72 r (fun w => r = (1, (0, w), m, XX)) (fM_isBefore m x1 x2) (0, [(18, 130), (0, x1), (0, x2), (99, 0), (99, 0), (99, 0)], [], m, XX) := by
    unfold fM_isBefore
    refine T_run hD 2 (c' := (4, [(18, 130), (0, x1), (0, x2), (99, 0), (99, 0), (99, 0)], [(0, m 130 47)], m, XX)) rfl ?_
    refine T_if hD (c1 := (7, _, _, _, _)) (c2 := (9, _, _, _, _)) rfl (fun _ => ?_) (fun _ => ?_)
    · refine T_run hD 1 (c' := (8, [(18, 130), (0, x1), (0, x2), (99, 0), (99, 0), (99, 0)], [(0, 0)], m, XX)) rfl ?_
      exact T_fin hD rfl (fun h => h)
    · refine T_run hD 4 (c' := (15, [(18, 130), (0, x1), (0, x2), (99, 0), (99, 0), (99, 0)], [(0, m 130 47), (0, x1), (18, 130)], m, XX)) rfl ?_
      refine T_call hD (D2 := d_M_isNone) (q2 := 37) (as := [(18, 130), (0, x1), (0, m 130 47)]) (c1 := (18, [(18, 130), (0, x1), (0, x2), (99, 0), (99, 0), (99, 0)], [], m, XX)) (mk := fun w => (1, (0, w), m, XX)) (cc := fun v1 => (18, [(18, 130), (0, x1), (0, x2), (99, 0), (99, 0), (99, 0)], [(0, v1)], m, XX)) rfl rfl (fun y9 h9y => Go.mono (tM_isNone m x1 (m 130 47) y9 h9y) (by decide)) (fun _ => rfl) (fun v1 => ?_)
      refine T_run hD 5 (c' := (25, [(18, 130), (0, x1), (0, x2), (0, v1), (99, 0), (99, 0)], [(0, m 130 47), (0, x2), (18, 130)], m, XX)) rfl ?_
      refine T_call hD (D2 := d_M_isNone) (q2 := 37) (as := [(18, 130), (0, x2), (0, m 130 47)]) (c1 := (28, [(18, 130), (0, x1), (0, x2), (0, v1), (99, 0), (99, 0)], [], m, XX)) (mk := fun w => (1, (0, w), m, XX)) (cc := fun v2 => (28, [(18, 130), (0, x1), (0, x2), (0, v1), (99, 0), (99, 0)], [(0, v2)], m, XX)) rfl rfl (fun y9 h9y => Go.mono (tM_isNone m x2 (m 130 47) y9 h9y) (by decide)) (fun _ => rfl) (fun v2 => ?_)
      refine T_run hD 2 (c' := (31, [(18, 130), (0, x1), (0, x2), (0, v1), (0, v2), (99, 0)], [(0, v1)], m, XX)) rfl ?_
      refine T_if hD (c1 := (34, _, _, _, _)) (c2 := (39, _, _, _, _)) rfl (fun _ => ?_) (fun _ => ?_)
      · refine T_run hD 1 (c' := (36, [(18, 130), (0, x1), (0, x2), (0, v1), (0, v2), (99, 0)], [(0, v2)], m, XX)) rfl ?_
        refine T_if hD (c1 := (77, _, _, _, _)) (c2 := (39, _, _, _, _)) rfl (fun _ => ?_) (fun _ => ?_)
        · refine T_run hD 7 (c' := (88, [(18, 130), (0, x1), (0, x2), (0, v1), (0, v2), (99, 0)], [(0, x2), (0, m 130 47), (0, x1), (0, m 130 47), (18, 130)], m, XX)) rfl ?_
          refine T_call hD (D2 := d_M_compareCells) (q2 := 66) (as := [(18, 130), (0, m 130 47), (0, x1), (0, m 130 47), (0, x2)]) (c1 := (91, [(18, 130), (0, x1), (0, x2), (0, v1), (0, v2), (99, 0)], [], m, XX)) (mk := fun w => (1, (0, w), m, XX)) (cc := fun v3 => (91, [(18, 130), (0, x1), (0, x2), (0, v1), (0, v2), (99, 0)], [(0, v3)], m, XX)) rfl rfl (fun y9 h9y => Go.mono (tM_compareCells m (m 130 47) x1 (m 130 47) x2 y9 h9y) (by decide)) (fun _ => rfl) (fun v3 => ?_)
          refine T_run hD 3 (c' := (97, [(18, 130), (0, x1), (0, x2), (0, v1), (0, v2), (0, v3)], [(0, m 130 48)], m, XX)) rfl ?_
          refine T_if hD (c1 := (113, _, _, _, _)) (c2 := (100, _, _, _, _)) rfl (fun _ => ?_) (fun _ => ?_)
          · refine T_run hD 1 (c' := (115, [(18, 130), (0, x1), (0, x2), (0, v1), (0, v2), (0, v3)], [(0, v3)], m, XX)) rfl ?_
            refine T_if hD (c1 := (118, _, _, _, _)) (c2 := (122, _, _, _, _)) rfl (fun _ => ?_) (fun _ => ?_)
            · refine T_run hD 2 (c' := (123, [(18, 130), (0, x1), (0, x2), (0, v1), (0, v2), (0, v3)], [(0, 1)], m, XX)) rfl ?_
              exact T_fin hD rfl (fun h => h)
            · refine T_run hD 1 (c' := (123, [(18, 130), (0, x1), (0, x2), (0, v1), (0, v2), (0, v3)], [(0, 0)], m, XX)) rfl ?_
              exact T_fin hD rfl (fun h => h)
          · refine T_run hD 1 (c' := (102, [(18, 130), (0, x1), (0, x2), (0, v1), (0, v2), (0, v3)], [(0, v3)], m, XX)) rfl ?_
            refine T_if hD (c1 := (105, _, _, _, _)) (c2 := (109, _, _, _, _)) rfl (fun _ => ?_) (fun _ => ?_)
            · refine T_run hD 2 (c' := (123, [(18, 130), (0, x1), (0, x2), (0, v1), (0, v2), (0, v3)], [(0, 1)], m, XX)) rfl ?_
              exact T_fin hD rfl (fun h => h)
            · refine T_run hD 2 (c' := (123, [(18, 130), (0, x1), (0, x2), (0, v1), (0, v2), (0, v3)], [(0, 0)], m, XX)) rfl ?_
              exact T_fin hD rfl (fun h => h)
        · exact tM_isBefore_39 r m v1 v2 (0, x1) (0, x2) (99, 0)
      · exact tM_isBefore_39 r m v1 v2 (0, x1) (0, x2) (99, 0)
  rw [← hr]
  exact h9 v hv hr
abbrev hM_chooseRows_7 : (aM × Int) → aC → Prop := fun y c => ∃ (z2 : aV), c = (7, [(18, 130), (0, (y.2)), z2], [], (y.1), XX)
abbrev hM_chooseRows_28 (x1 : Int) : (aM × Int) → aC → Prop := fun y c => c = (28, [(18, 130), (0, x1), (0, (y.2))], [], (y.1), XX)
def fM_chooseRows_68 (m : aM) (x1 : Int) (x2 : Int) : Option ((aM × Int) ⊕ aM) :=
  gd (0 ≤ x2 ∧ x2 < 16) (
  some (Sum.inl (mup (mup m 151 x2 x1) 130 37 (w32 ((m 130 37) + 1)), w32 (x1 + 1))))
set_option maxRecDepth 100000 in
theorem tM_chooseRows_68 (r : aR) (m : aM) (x1 : Int) (x2 : Int) : aT PB 5 73 r (aTurn PB 5 73 r (hM_chooseRows_7 ) (fun w => r = (0, (0, 0), w, XX))) (fM_chooseRows_68 m x1 x2) (68, [(18, 130), (0, x1), (0, x2)], [], m, XX) := by
  have hD : aMd PB 73 = d_M_chooseRows := rfl
  unfold fM_chooseRows_68
  refine T_run hD 4 (c' := (74, [(18, 130), (0, x1), (0, x2)], [(0, x1), (0, x2), (31, 151)], m, XX)) rfl ?_
  refine T_gd hD (c1 := (75, [(18, 130), (0, x1), (0, x2)], [], mup m 151 x2 x1, XX)) rfl (fun g4 => ?_)
  refine T_run hD 8 (c' := (7, [(18, 130), (0, w32 (x1 + 1)), (0, x2)], [], mup (mup m 151 x2 x1) 130 37 (w32 ((m 130 37) + 1)), XX)) rfl ?_
  exact T_back0 ⟨_, rfl⟩
def fM_chooseRows_28_b (x1 : Int) : (aM × Int) → Option ((aM × Int) ⊕ ((aM × Int) ⊕ aM)) := fun (m, x2) =>
  if 0 < x2 then
    gd (0 ≤ w32 (x2 - 1) ∧ w32 (x2 - 1) < 16) (
    (fM_isBefore m x1 (m 151 (w32 (x2 - 1)))).bind fun v3 =>
    if v3 = 0 then
      (fM_chooseRows_68 m x1 x2).map Sum.inr
    else
      gd (0 ≤ x2 ∧ x2 < 16) (
      some (Sum.inl (mup m 151 x2 (m 151 (w32 (x2 - 1))), w32 (x2 + (-1))))))
  else
    (fM_chooseRows_68 m x1 x2).map Sum.inr
def fM_chooseRows_28 (m : aM) (x1 : Int) (x2 : Int) : Option ((aM × Int) ⊕ aM) := aLoop (fM_chooseRows_28_b x1) FU (m, x2)
set_option maxRecDepth 100000 in
theorem tM_chooseRows_28 (r : aR) (m : aM) (x1 : Int) (x2 : Int) : aT PB 5 73 r (aTurn PB 5 73 r (hM_chooseRows_7 ) (fun w => r = (0, (0, 0), w, XX))) (fM_chooseRows_28 m x1 x2) (28, [(18, 130), (0, x1), (0, x2)], [], m, XX) := by
  have hD : aMd PB 73 = d_M_chooseRows := rfl
  refine T_loop (Hd := (hM_chooseRows_28 x1)) ?_ FU _ _ rfl
  clear m x2
  intro y c hc
  obtain ⟨m, x2⟩ := y
  obtain rfl := hc
  unfold fM_chooseRows_28_b
  try dsimp only
  refine T_run hD 1 (c' := (29, [(18, 130), (0, x1), (0, x2)], [(0, x2)], m, XX)) rfl ?_
  refine T_if hD (c1 := (32, _, _, _, _)) (c2 := (68, _, _, _, _)) rfl (fun _ => ?_) (fun _ => ?_)
  · refine T_run hD 7 (c' := (41, [(18, 130), (0, x1), (0, x2)], [(0, w32 (x2 - 1)), (31, 151), (0, x1), (18, 130)], m, XX)) rfl ?_
    refine T_gd hD (c1 := (42, [(18, 130), (0, x1), (0, x2)], [(0, m 151 (w32 (x2 - 1))), (0, x1), (18, 130)], m, XX)) rfl (fun g2 => ?_)
    refine T_call hD (D2 := d_M_isBefore) (q2 := 72) (as := [(18, 130), (0, x1), (0, m 151 (w32 (x2 - 1)))]) (c1 := (45, [(18, 130), (0, x1), (0, x2)], [], m, XX)) (mk := fun w => (1, (0, w), m, XX)) (cc := fun v3 => (45, [(18, 130), (0, x1), (0, x2)], [(0, v3)], m, XX)) rfl rfl (fun y9 h9y => Go.mono (tM_isBefore m x1 (m 151 (w32 (x2 - 1))) y9 h9y) (by decide)) (fun _ => rfl) (fun v3 => ?_)
    refine T_if hD (c1 := (68, _, _, _, _)) (c2 := (48, _, _, _, _)) rfl (fun _ => ?_) (fun _ => ?_)
    · exact T_map (tM_chooseRows_68 r m x1 x2 )
    · refine T_run hD 8 (c' := (60, [(18, 130), (0, x1), (0, x2)], [(0, w32 (x2 - 1)), (31, 151), (0, x2), (31, 151)], m, XX)) rfl ?_
      refine T_gk hD (c1 := (61, [(18, 130), (0, x1), (0, x2)], [(0, m 151 (w32 (x2 - 1))), (0, x2), (31, 151)], m, XX)) (P := 0 ≤ w32 (x2 - 1) ∧ w32 (x2 - 1) < 16) rfl g2 ?_
      refine T_gd hD (c1 := (62, [(18, 130), (0, x1), (0, x2)], [], mup m 151 x2 (m 151 (w32 (x2 - 1))), XX)) rfl (fun g5 => ?_)
      refine T_run hD 2 (c' := (28, [(18, 130), (0, x1), (0, w32 (x2 + (-1)))], [], mup m 151 x2 (m 151 (w32 (x2 - 1))), XX)) rfl ?_
      exact T_back0 rfl
  · exact T_map (tM_chooseRows_68 r m x1 x2 )
def fM_chooseRows_7_b : (aM × Int) → Option ((aM × Int) ⊕ aM) := fun (m, x1) =>
  if x1 < m 130 5 then
    (fM_isChosen m x1).bind fun v1 =>
    if v1.1 = 0 then
      some (Sum.inl (v1.2, w32 (x1 + 1)))
    else
      fM_chooseRows_28 v1.2 x1 (v1.2 130 37)
  else
    some (Sum.inr (m))
def fM_chooseRows_7 (m : aM) (x1 : Int) : Option aM := aLoop (fM_chooseRows_7_b ) FU (m, x1)
set_option maxRecDepth 100000 in
theorem tM_chooseRows_7 (r : aR) (m : aM) (x1 : Int) (z2 : aV) : aT PB 5 73 r (fun w => r = (0, (0, 0), w, XX)) (fM_chooseRows_7 m x1) (7, [(18, 130), (0, x1), z2], [], m, XX) := by
  have hD : aMd PB 73 = d_M_chooseRows := rfl
  refine T_loop (Hd := (hM_chooseRows_7 )) ?_ FU _ _ ⟨z2, rfl⟩
  clear m x1 z2
  intro y c hc
  obtain ⟨m, x1⟩ := y
  obtain ⟨z2, rfl⟩ := hc
  unfold fM_chooseRows_7_b
  try dsimp only
  refine T_run hD 3 (c' := (12, [(18, 130), (0, x1), z2], [(0, m 130 5), (0, x1)], m, XX)) rfl ?_
  refine T_if hD (c1 := (15, _, _, _, _)) (c2 := (91, _, _, _, _)) rfl (fun _ => ?_) (fun _ => ?_)
  · refine T_run hD 2 (c' := (17, [(18, 130), (0, x1), z2], [(0, x1), (18, 130)], m, XX)) rfl ?_
    refine T_call hD (D2 := d_M_isChosen) (q2 := 69) (as := [(18, 130), (0, x1)]) (c1 := (20, [(18, 130), (0, x1), z2], [], m, XX)) (mk := fun w => (1, (0, w.1), w.2, XX)) (cc := fun v1 => (20, [(18, 130), (0, x1), z2], [(0, v1.1)], v1.2, XX)) rfl rfl (fun y9 h9y => Go.mono (tM_isChosen m x1 y9 h9y) (by decide)) (fun _ => rfl) (fun v1 => ?_)
    refine T_if hD (c1 := (85, _, _, _, _)) (c2 := (23, _, _, _, _)) rfl (fun _ => ?_) (fun _ => ?_)
    · refine T_run hD 2 (c' := (7, [(18, 130), (0, w32 (x1 + 1)), z2], [], v1.2, XX)) rfl ?_
      exact T_back0 ⟨_, rfl⟩
    · refine T_run hD 3 (c' := (28, [(18, 130), (0, x1), (0, v1.2 130 37)], [], v1.2, XX)) rfl ?_
      exact tM_chooseRows_28 r v1.2 x1 (v1.2 130 37) 
  · exact T_fin hD rfl (fun h => h)
def fM_chooseRows (m : aM) : Option aM :=
  fM_chooseRows_7 (mup m 130 37 0) 0
set_option maxRecDepth 100000 in
theorem tM_chooseRows (m : aM) : ∀ v, fM_chooseRows m = some v → Go PB 5 73 (aEnt d_M_chooseRows [(18, 130)] m XX) (0, (0, 0), v, XX) := by
  intro v hv
  have hD : aMd PB 73 = d_M_chooseRows := rfl
  obtain ⟨r, hr⟩ : ∃ r : aR, r = (0, (0, 0), v, XX) := ⟨_, rfl⟩
  have h9 : aT PB 5 73 r (fun w => r = (0, (0, 0), w, XX)) (fM_chooseRows m) (0, [(18, 130), (99, 0), (99, 0)], [], m, XX) := by
    unfold fM_chooseRows
    refine T_run hD 5 (c' := (7, [(18, 130), (0, 0), (99, 0)], [], mup m 130 37 0, XX)) rfl ?_
    exact tM_chooseRows_7 r (mup m 130 37 0) 0 (99, 0)
  rw [← hr]
  exact h9 v hv hr
def fM_compareLine_57 (m : aM) (x3 : Int) : Option Int :=
  if x3 = 0 then
    some (1)
  else
    some ((-1))
set_option maxRecDepth 100000 in
theorem tM_compareLine_57 (r : aR) (m : aM) (x3 : Int) (z0 : aV) (z1 : aV) (z2 : aV) (z4 : aV) : aT PB 3 74 r (fun w => r = (1, (0, w), m, XX)) (fM_compareLine_57 m x3) (57, [z0, z1, z2, (0, x3), z4], [], m, XX) := by
  have hD : aMd PB 74 = d_M_compareLine := rfl
  unfold fM_compareLine_57
  refine T_run hD 1 (c' := (58, [z0, z1, z2, (0, x3), z4], [(0, x3)], m, XX)) rfl ?_
  refine T_if hD (c1 := (65, _, _, _, _)) (c2 := (61, _, _, _, _)) rfl (fun _ => ?_) (fun _ => ?_)
  · refine T_run hD 2 (c' := (88, [z0, z1, z2, (0, x3), z4], [(0, 1)], m, XX)) rfl ?_
    exact T_fin hD rfl (fun h => h)
  · refine T_run hD 2 (c' := (88, [z0, z1, z2, (0, x3), z4], [(0, (-1))], m, XX)) rfl ?_
    exact T_fin hD rfl (fun h => h)
def fM_compareLine_44 (m : aM) (x3 : Int) (x4 : Int) : Option Int :=
  if x3 = 0 then
    fM_compareLine_57 m x3
  else
    if x4 = 0 then
      fM_compareLine_57 m x3
    else
      some (0)
set_option maxRecDepth 100000 in
theorem tM_compareLine_44 (r : aR) (m : aM) (x3 : Int) (x4 : Int) (z0 : aV) (z1 : aV) (z2 : aV) : aT PB 3 74 r (fun w => r = (1, (0, w), m, XX)) (fM_compareLine_44 m x3 x4) (44, [z0, z1, z2, (0, x3), (0, x4)], [], m, XX) := by
  have hD : aMd PB 74 = d_M_compareLine := rfl
  unfold fM_compareLine_44
  refine T_run hD 1 (c' := (45, [z0, z1, z2, (0, x3), (0, x4)], [(0, x3)], m, XX)) rfl ?_
  refine T_if hD (c1 := (57, _, _, _, _)) (c2 := (48, _, _, _, _)) rfl (fun _ => ?_) (fun _ => ?_)
  · exact tM_compareLine_57 r m x3 z0 z1 z2 (0, x4)
  · refine T_run hD 1 (c' := (50, [z0, z1, z2, (0, x3), (0, x4)], [(0, x4)], m, XX)) rfl ?_
    refine T_if hD (c1 := (57, _, _, _, _)) (c2 := (53, _, _, _, _)) rfl (fun _ => ?_) (fun _ => ?_)
    · exact tM_compareLine_57 r m x3 z0 z1 z2 (0, x4)
    · refine T_run hD 2 (c' := (88, [z0, z1, z2, (0, x3), (0, x4)], [(0, 0)], m, XX)) rfl ?_
      exact T_fin hD rfl (fun h => h)
def fM_compareLine (m : aM) (x1 : Int) (x2 : Int) : Option Int :=
  if m 130 39 < 0 then
    some (0)
  else
    (fM_isNone m x1 (m 130 39)).bind fun v1 =>
    gd (0 ≤ x2 ∧ x2 < 16) (
    (fM_isNone m (m 151 x2) (m 130 39)).bind fun v3 =>
    if v1 = 0 then
      if v3 = 0 then
        (fM_compareCells m (m 130 39) x1 (m 130 39) (m 151 x2)).bind fun v4 =>
        some (v4)
      else
        fM_compareLine_44 m v1 v3
    else
      fM_compareLine_44 m v1 v3)
set_option maxRecDepth 100000 in
theorem tM_compareLine (m : aM) (x1 : Int) (x2 : Int) : ∀ v, fM_compareLine m x1 x2 = some v → Go PB 3 74 (aEnt d_M_compareLine [(18, 130), (0, x1), (0, x2)] m XX) (1, (0, v), m, XX) := by
  intro v hv
  have hD : aMd PB 74 = d_M_compareLine := rfl
  obtain ⟨r, hr⟩ : ∃ r : aR, r = (1, (0, v), m, XX) := ⟨_, rfl⟩
  have h9 : aT PB 3 74 r (fun w => r = (1, (0, w), m, XX)) (fM_compareLine m x1 x2) (0, [(18, 130), (0, x1), (0, x2), (99, 0), (99, 0)], [], m, XX) := by
    unfold fM_compareLine
    refine T_run hD 2 (c' := (4, [(18, 130), (0, x1), (0, x2), (99, 0), (99, 0)], [(0, m 130 39)], m, XX)) rfl ?_
    refine T_if hD (c1 := (7, _, _, _, _)) (c2 := (9, _, _, _, _)) rfl (fun _ => ?_) (fun _ => ?_)
    · refine T_run hD 1 (c' := (8, [(18, 130), (0, x1), (0, x2), (99, 0), (99, 0)], [(0, 0)], m, XX)) rfl ?_
      exact T_fin hD rfl (fun h => h)
    · refine T_run hD 4 (c' := (15, [(18, 130), (0, x1), (0, x2), (99, 0), (99, 0)], [(0, m 130 39), (0, x1), (18, 130)], m, XX)) rfl ?_
      refine T_call hD (D2 := d_M_isNone) (q2 := 37) (as := [(18, 130), (0, x1), (0, m 130 39)]) (c1 := (18, [(18, 130), (0, x1), (0, x2), (99, 0), (99, 0)], [], m, XX)) (mk := fun w => (1, (0, w), m, XX)) (cc := fun v1 => (18, [(18, 130), (0, x1), (0, x2), (99, 0), (99, 0)], [(0, v1)], m, XX)) rfl rfl (fun y9 h9y => Go.mono (tM_isNone m x1 (m 130 39) y9 h9y) (by decide)) (fun _ => rfl) (fun v1 => ?_)
      refine T_run hD 5 (c' := (25, [(18, 130), (0, x1), (0, x2), (0, v1), (99, 0)], [(0, x2), (31, 151), (18, 130)], m, XX)) rfl ?_
      refine T_gd hD (c1 := (26, [(18, 130), (0, x1), (0, x2), (0, v1), (99, 0)], [(0, m 151 x2), (18, 130)], m, XX)) rfl (fun g2 => ?_)
      refine T_run hD 2 (c' := (30, [(18, 130), (0, x1), (0, x2), (0, v1), (99, 0)], [(0, m 130 39), (0, m 151 x2), (18, 130)], m, XX)) rfl ?_
      refine T_call hD (D2 := d_M_isNone) (q2 := 37) (as := [(18, 130), (0, m 151 x2), (0, m 130 39)]) (c1 := (33, [(18, 130), (0, x1), (0, x2), (0, v1), (99, 0)], [], m, XX)) (mk := fun w => (1, (0, w), m, XX)) (cc := fun v3 => (33, [(18, 130), (0, x1), (0, x2), (0, v1), (99, 0)], [(0, v3)], m, XX)) rfl rfl (fun y9 h9y => Go.mono (tM_isNone m (m 151 x2) (m 130 39) y9 h9y) (by decide)) (fun _ => rfl) (fun v3 => ?_)
      refine T_run hD 2 (c' := (36, [(18, 130), (0, x1), (0, x2), (0, v1), (0, v3)], [(0, v1)], m, XX)) rfl ?_
      refine T_if hD (c1 := (39, _, _, _, _)) (c2 := (44, _, _, _, _)) rfl (fun _ => ?_) (fun _ => ?_)
      · refine T_run hD 1 (c' := (41, [(18, 130), (0, x1), (0, x2), (0, v1), (0, v3)], [(0, v3)], m, XX)) rfl ?_
        refine T_if hD (c1 := (69, _, _, _, _)) (c2 := (44, _, _, _, _)) rfl (fun _ => ?_) (fun _ => ?_)
        · refine T_run hD 9 (c' := (84, [(18, 130), (0, x1), (0, x2), (0, v1), (0, v3)], [(0, x2), (31, 151), (0, m 130 39), (0, x1), (0, m 130 39), (18, 130)], m, XX)) rfl ?_
          refine T_gk hD (c1 := (85, [(18, 130), (0, x1), (0, x2), (0, v1), (0, v3)], [(0, m 151 x2), (0, m 130 39), (0, x1), (0, m 130 39), (18, 130)], m, XX)) (P := 0 ≤ x2 ∧ x2 < 16) rfl g2 ?_
          refine T_call hD (D2 := d_M_compareCells) (q2 := 66) (as := [(18, 130), (0, m 130 39), (0, x1), (0, m 130 39), (0, m 151 x2)]) (c1 := (88, [(18, 130), (0, x1), (0, x2), (0, v1), (0, v3)], [], m, XX)) (mk := fun w => (1, (0, w), m, XX)) (cc := fun v4 => (88, [(18, 130), (0, x1), (0, x2), (0, v1), (0, v3)], [(0, v4)], m, XX)) rfl rfl (fun y9 h9y => Go.mono (tM_compareCells m (m 130 39) x1 (m 130 39) (m 151 x2) y9 h9y) (by decide)) (fun _ => rfl) (fun v4 => ?_)
          exact T_fin hD rfl (fun h => h)
        · exact tM_compareLine_44 r m v1 v3 (18, 130) (0, x1) (0, x2)
      · exact tM_compareLine_44 r m v1 v3 (18, 130) (0, x1) (0, x2)
  rw [← hr]
  exact h9 v hv hr
def fM_moveLine (m : aM) (x1 : Int) (x2 : Int) : Option aM :=
  gd (0 ≤ x2 ∧ x2 < 16) (
  gd (0 ≤ x1 ∧ x1 < 16) (
  some (mup (mup (mup (mup m 151 x1 (m 151 x2)) 152 x1 (m 152 x2)) 153 x1 (m 153 x2)) 154 x1 (m 154 x2))))
set_option maxRecDepth 100000 in
theorem tM_moveLine (m : aM) (x1 : Int) (x2 : Int) : ∀ v, fM_moveLine m x1 x2 = some v → Go PB 1 75 (aEnt d_M_moveLine [(18, 130), (0, x1), (0, x2)] m XX) (0, (0, 0), v, XX) := by
  intro v hv
  have hD : aMd PB 75 = d_M_moveLine := rfl
  obtain ⟨r, hr⟩ : ∃ r : aR, r = (0, (0, 0), v, XX) := ⟨_, rfl⟩
  have h9 : aT PB 1 75 r (fun w => r = (0, (0, 0), w, XX)) (fM_moveLine m x1 x2) (0, [(18, 130), (0, x1), (0, x2)], [], m, XX) := by
    unfold fM_moveLine
    refine T_run hD 6 (c' := (10, [(18, 130), (0, x1), (0, x2)], [(0, x2), (31, 151), (0, x1), (31, 151)], m, XX)) rfl ?_
    refine T_gd hD (c1 := (11, [(18, 130), (0, x1), (0, x2)], [(0, m 151 x2), (0, x1), (31, 151)], m, XX)) rfl (fun g1 => ?_)
    refine T_gd hD (c1 := (12, [(18, 130), (0, x1), (0, x2)], [], mup m 151 x1 (m 151 x2), XX)) rfl (fun g2 => ?_)
    refine T_run hD 6 (c' := (22, [(18, 130), (0, x1), (0, x2)], [(0, x2), (31, 152), (0, x1), (31, 152)], mup m 151 x1 (m 151 x2), XX)) rfl ?_
    refine T_gk hD (c1 := (23, [(18, 130), (0, x1), (0, x2)], [(0, m 152 x2), (0, x1), (31, 152)], mup m 151 x1 (m 151 x2), XX)) (P := 0 ≤ x2 ∧ x2 < 16) rfl g1 ?_
    refine T_gk hD (c1 := (24, [(18, 130), (0, x1), (0, x2)], [], mup (mup m 151 x1 (m 151 x2)) 152 x1 (m 152 x2), XX)) (P := 0 ≤ x1 ∧ x1 < 16) rfl g2 ?_
    refine T_run hD 6 (c' := (34, [(18, 130), (0, x1), (0, x2)], [(0, x2), (32, 153), (0, x1), (32, 153)], mup (mup m 151 x1 (m 151 x2)) 152 x1 (m 152 x2), XX)) rfl ?_
    refine T_gk hD (c1 := (35, [(18, 130), (0, x1), (0, x2)], [(1, m 153 x2), (0, x1), (32, 153)], mup (mup m 151 x1 (m 151 x2)) 152 x1 (m 152 x2), XX)) (P := 0 ≤ x2 ∧ x2 < 16) rfl g1 ?_
    refine T_gk hD (c1 := (36, [(18, 130), (0, x1), (0, x2)], [], mup (mup (mup m 151 x1 (m 151 x2)) 152 x1 (m 152 x2)) 153 x1 (m 153 x2), XX)) (P := 0 ≤ x1 ∧ x1 < 16) rfl g2 ?_
    refine T_run hD 6 (c' := (46, [(18, 130), (0, x1), (0, x2)], [(0, x2), (31, 154), (0, x1), (31, 154)], mup (mup (mup m 151 x1 (m 151 x2)) 152 x1 (m 152 x2)) 153 x1 (m 153 x2), XX)) rfl ?_
    refine T_gk hD (c1 := (47, [(18, 130), (0, x1), (0, x2)], [(0, m 154 x2), (0, x1), (31, 154)], mup (mup (mup m 151 x1 (m 151 x2)) 152 x1 (m 152 x2)) 153 x1 (m 153 x2), XX)) (P := 0 ≤ x2 ∧ x2 < 16) rfl g1 ?_
    refine T_gk hD (c1 := (48, [(18, 130), (0, x1), (0, x2)], [], mup (mup (mup (mup m 151 x1 (m 151 x2)) 152 x1 (m 152 x2)) 153 x1 (m 153 x2)) 154 x1 (m 154 x2), XX)) (P := 0 ≤ x1 ∧ x1 < 16) rfl g2 ?_
    exact T_fin hD rfl (fun h => h)
  rw [← hr]
  exact h9 v hv hr
def fM_begin (m : aM) (x1 : Int) (x2 : Int) : Option aM :=
  gd (0 ≤ x1 ∧ x1 < 16) (
  some (mup (mup (mup (mup m 151 x1 x2) 152 x1 0) 153 x1 0) 154 x1 (-1)))
set_option maxRecDepth 100000 in
theorem tM_begin (m : aM) (x1 : Int) (x2 : Int) : ∀ v, fM_begin m x1 x2 = some v → Go PB 1 77 (aEnt d_M_begin [(18, 130), (0, x1), (0, x2)] m XX) (0, (0, 0), v, XX) := by
  intro v hv
  have hD : aMd PB 77 = d_M_begin := rfl
  obtain ⟨r, hr⟩ : ∃ r : aR, r = (0, (0, 0), v, XX) := ⟨_, rfl⟩
  have h9 : aT PB 1 77 r (fun w => r = (0, (0, 0), w, XX)) (fM_begin m x1 x2) (0, [(18, 130), (0, x1), (0, x2)], [], m, XX) := by
    unfold fM_begin
    refine T_run hD 4 (c' := (6, [(18, 130), (0, x1), (0, x2)], [(0, x2), (0, x1), (31, 151)], m, XX)) rfl ?_
    refine T_gd hD (c1 := (7, [(18, 130), (0, x1), (0, x2)], [], mup m 151 x1 x2, XX)) rfl (fun g1 => ?_)
    refine T_run hD 4 (c' := (13, [(18, 130), (0, x1), (0, x2)], [(0, 0), (0, x1), (31, 152)], mup m 151 x1 x2, XX)) rfl ?_
    refine T_gk hD (c1 := (14, [(18, 130), (0, x1), (0, x2)], [], mup (mup m 151 x1 x2) 152 x1 0, XX)) (P := 0 ≤ x1 ∧ x1 < 16) rfl g1 ?_
    refine T_run hD 4 (c' := (20, [(18, 130), (0, x1), (0, x2)], [(1, 0), (0, x1), (32, 153)], mup (mup m 151 x1 x2) 152 x1 0, XX)) rfl ?_
    refine T_gk hD (c1 := (21, [(18, 130), (0, x1), (0, x2)], [], mup (mup (mup m 151 x1 x2) 152 x1 0) 153 x1 0, XX)) (P := 0 ≤ x1 ∧ x1 < 16) rfl g1 ?_
    refine T_run hD 4 (c' := (27, [(18, 130), (0, x1), (0, x2)], [(0, (-1)), (0, x1), (31, 154)], mup (mup (mup m 151 x1 x2) 152 x1 0) 153 x1 0, XX)) rfl ?_
    refine T_gk hD (c1 := (28, [(18, 130), (0, x1), (0, x2)], [], mup (mup (mup (mup m 151 x1 x2) 152 x1 0) 153 x1 0) 154 x1 (-1), XX)) (P := 0 ≤ x1 ∧ x1 < 16) rfl g1 ?_
    exact T_fin hD rfl (fun h => h)
  rw [← hr]
  exact h9 v hv hr
abbrev hM_lineOf_2 (m : aM) (x1 : Int) : (Int) → aC → Prop := fun y c => ∃ (z3 : aV), c = (2, [(18, 130), (0, x1), (0, (y)), z3], [], m, XX)
abbrev hM_lineOf_49 (x1 : Int) (x2 : Int) : (aM × Int) → aC → Prop := fun y c => c = (49, [(18, 130), (0, x1), (0, x2), (0, (y.2))], [], (y.1), XX)
def fM_lineOf_49_b (x1 : Int) (x2 : Int) : (aM × Int) → Option ((aM × Int) ⊕ (Int × aM)) := fun (m, x3) =>
  if x2 < x3 then
    (fM_moveLine m x3 (w32 (x3 - 1))).bind fun v3 =>
    some (Sum.inl (v3, w32 (x3 + (-1))))
  else
    (fM_begin m x2 x1).bind fun v4 =>
    some (Sum.inr ((x2, mup v4 130 37 (w32 ((v4 130 37) + 1)))))
def fM_lineOf_49 (m : aM) (x1 : Int) (x2 : Int) (x3 : Int) : Option (Int × aM) := aLoop (fM_lineOf_49_b x1 x2) FU (m, x3)
set_option maxRecDepth 100000 in
theorem tM_lineOf_49 (r : aR) (m : aM) (x1 : Int) (x2 : Int) (x3 : Int) : aT PB 4 76 r (fun w => r = (1, (0, w.1), w.2, XX)) (fM_lineOf_49 m x1 x2 x3) (49, [(18, 130), (0, x1), (0, x2), (0, x3)], [], m, XX) := by
  have hD : aMd PB 76 = d_M_lineOf := rfl
  refine T_loop (Hd := (hM_lineOf_49 x1 x2)) ?_ FU _ _ rfl
  clear m x3
  intro y c hc
  obtain ⟨m, x3⟩ := y
  obtain rfl := hc
  unfold fM_lineOf_49_b
  try dsimp only
  refine T_run hD 2 (c' := (51, [(18, 130), (0, x1), (0, x2), (0, x3)], [(0, x2), (0, x3)], m, XX)) rfl ?_
  refine T_if hD (c1 := (54, _, _, _, _)) (c2 := (68, _, _, _, _)) rfl (fun _ => ?_) (fun _ => ?_)
  · refine T_run hD 5 (c' := (59, [(18, 130), (0, x1), (0, x2), (0, x3)], [(0, w32 (x3 - 1)), (0, x3), (18, 130)], m, XX)) rfl ?_
    refine T_call hD (D2 := d_M_moveLine) (q2 := 75) (as := [(18, 130), (0, x3), (0, w32 (x3 - 1))]) (c1 := (62, [(18, 130), (0, x1), (0, x2), (0, x3)], [], m, XX)) (mk := fun w => (0, (0, 0), w, XX)) (cc := fun v3 => (62, [(18, 130), (0, x1), (0, x2), (0, x3)], [], v3, XX)) rfl rfl (fun y9 h9y => Go.mono (tM_moveLine m x3 (w32 (x3 - 1)) y9 h9y) (by decide)) (fun _ => rfl) (fun v3 => ?_)
    refine T_run hD 2 (c' := (49, [(18, 130), (0, x1), (0, x2), (0, w32 (x3 + (-1)))], [], v3, XX)) rfl ?_
    exact T_back0 rfl
  · refine T_run hD 3 (c' := (71, [(18, 130), (0, x1), (0, x2), (0, x3)], [(0, x1), (0, x2), (18, 130)], m, XX)) rfl ?_
    refine T_call hD (D2 := d_M_begin) (q2 := 77) (as := [(18, 130), (0, x2), (0, x1)]) (c1 := (74, [(18, 130), (0, x1), (0, x2), (0, x3)], [], m, XX)) (mk := fun w => (0, (0, 0), w, XX)) (cc := fun v4 => (74, [(18, 130), (0, x1), (0, x2), (0, x3)], [], v4, XX)) rfl rfl (fun y9 h9y => Go.mono (tM_begin m x2 x1 y9 h9y) (by decide)) (fun _ => rfl) (fun v4 => ?_)
    refine T_run hD 7 (c' := (85, [(18, 130), (0, x1), (0, x2), (0, x3)], [(0, x2)], mup v4 130 37 (w32 ((v4 130 37) + 1)), XX)) rfl ?_
    exact T_fin hD rfl (fun h => h)
def fM_lineOf_25 (m : aM) (x1 : Int) (x2 : Int) : Option (Int × aM) :=
  if x2 < m 130 37 then
    (fM_compareLine m x1 x2).bind fun v2 =>
    if v2 = 0 then
      some ((x2, m))
    else
      fM_lineOf_49 m x1 x2 (m 130 37)
  else
    fM_lineOf_49 m x1 x2 (m 130 37)
set_option maxRecDepth 100000 in
theorem tM_lineOf_25 (r : aR) (m : aM) (x1 : Int) (x2 : Int) (z3 : aV) : aT PB 4 76 r (fun w => r = (1, (0, w.1), w.2, XX)) (fM_lineOf_25 m x1 x2) (25, [(18, 130), (0, x1), (0, x2), z3], [], m, XX) := by
  have hD : aMd PB 76 = d_M_lineOf := rfl
  unfold fM_lineOf_25
  refine T_run hD 3 (c' := (30, [(18, 130), (0, x1), (0, x2), z3], [(0, m 130 37), (0, x2)], m, XX)) rfl ?_
  refine T_if hD (c1 := (33, _, _, _, _)) (c2 := (44, _, _, _, _)) rfl (fun _ => ?_) (fun _ => ?_)
  · refine T_run hD 3 (c' := (36, [(18, 130), (0, x1), (0, x2), z3], [(0, x2), (0, x1), (18, 130)], m, XX)) rfl ?_
    refine T_call hD (D2 := d_M_compareLine) (q2 := 74) (as := [(18, 130), (0, x1), (0, x2)]) (c1 := (39, [(18, 130), (0, x1), (0, x2), z3], [], m, XX)) (mk := fun w => (1, (0, w), m, XX)) (cc := fun v2 => (39, [(18, 130), (0, x1), (0, x2), z3], [(0, v2)], m, XX)) rfl rfl (fun y9 h9y => Go.mono (tM_compareLine m x1 x2 y9 h9y) (by decide)) (fun _ => rfl) (fun v2 => ?_)
    refine T_if hD (c1 := (42, _, _, _, _)) (c2 := (44, _, _, _, _)) rfl (fun _ => ?_) (fun _ => ?_)
    · refine T_run hD 1 (c' := (43, [(18, 130), (0, x1), (0, x2), z3], [(0, x2)], m, XX)) rfl ?_
      exact T_fin hD rfl (fun h => h)
    · refine T_run hD 3 (c' := (49, [(18, 130), (0, x1), (0, x2), (0, m 130 37)], [], m, XX)) rfl ?_
      exact tM_lineOf_49 r m x1 x2 (m 130 37) 
  · refine T_run hD 3 (c' := (49, [(18, 130), (0, x1), (0, x2), (0, m 130 37)], [], m, XX)) rfl ?_
    exact tM_lineOf_49 r m x1 x2 (m 130 37) 
def fM_lineOf_2_b (m : aM) (x1 : Int) : (Int) → Option ((Int) ⊕ (Int × aM)) := fun (x2) =>
  if x2 < m 130 37 then
    (fM_compareLine m x1 x2).bind fun v1 =>
    if 0 < v1 then
      some (Sum.inl (w32 (x2 + 1)))
    else
      (fM_lineOf_25 m x1 x2).map Sum.inr
  else
    (fM_lineOf_25 m x1 x2).map Sum.inr
def fM_lineOf_2 (m : aM) (x1 : Int) (x2 : Int) : Option (Int × aM) := aLoop (fM_lineOf_2_b m x1) FU (x2)
set_option maxRecDepth 100000 in
theorem tM_lineOf_2 (r : aR) (m : aM) (x1 : Int) (x2 : Int) (z3 : aV) : aT PB 4 76 r (fun w => r = (1, (0, w.1), w.2, XX)) (fM_lineOf_2 m x1 x2) (2, [(18, 130), (0, x1), (0, x2), z3], [], m, XX) := by
  have hD : aMd PB 76 = d_M_lineOf := rfl
  refine T_loop (Hd := (hM_lineOf_2 m x1)) ?_ FU _ _ ⟨z3, rfl⟩
  clear x2 z3
  intro x2 c hc
  obtain ⟨z3, rfl⟩ := hc
  unfold fM_lineOf_2_b
  try dsimp only
  refine T_run hD 3 (c' := (7, [(18, 130), (0, x1), (0, x2), z3], [(0, m 130 37), (0, x2)], m, XX)) rfl ?_
  refine T_if hD (c1 := (10, _, _, _, _)) (c2 := (25, _, _, _, _)) rfl (fun _ => ?_) (fun _ => ?_)
  · refine T_run hD 3 (c' := (13, [(18, 130), (0, x1), (0, x2), z3], [(0, x2), (0, x1), (18, 130)], m, XX)) rfl ?_
    refine T_call hD (D2 := d_M_compareLine) (q2 := 74) (as := [(18, 130), (0, x1), (0, x2)]) (c1 := (16, [(18, 130), (0, x1), (0, x2), z3], [], m, XX)) (mk := fun w => (1, (0, w), m, XX)) (cc := fun v1 => (16, [(18, 130), (0, x1), (0, x2), z3], [(0, v1)], m, XX)) rfl rfl (fun y9 h9y => Go.mono (tM_compareLine m x1 x2 y9 h9y) (by decide)) (fun _ => rfl) (fun v1 => ?_)
    refine T_if hD (c1 := (19, _, _, _, _)) (c2 := (25, _, _, _, _)) rfl (fun _ => ?_) (fun _ => ?_)
    · refine T_run hD 2 (c' := (2, [(18, 130), (0, x1), (0, w32 (x2 + 1)), z3], [], m, XX)) rfl ?_
      exact T_back0 ⟨_, rfl⟩
    · exact T_map (tM_lineOf_25 r m x1 x2 z3)
  · exact T_map (tM_lineOf_25 r m x1 x2 z3)
def fM_lineOf (m : aM) (x1 : Int) : Option (Int × aM) :=
  fM_lineOf_2 m x1 0
set_option maxRecDepth 100000 in
theorem tM_lineOf (m : aM) (x1 : Int) : ∀ v, fM_lineOf m x1 = some v → Go PB 4 76 (aEnt d_M_lineOf [(18, 130), (0, x1)] m XX) (1, (0, v.1), v.2, XX) := by
  intro v hv
  have hD : aMd PB 76 = d_M_lineOf := rfl
  obtain ⟨r, hr⟩ : ∃ r : aR, r = (1, (0, v.1), v.2, XX) := ⟨_, rfl⟩
  have h9 : aT PB 4 76 r (fun w => r = (1, (0, w.1), w.2, XX)) (fM_lineOf m x1) (0, [(18, 130), (0, x1), (99, 0), (99, 0)], [], m, XX) := by
    unfold fM_lineOf
    refine T_run hD 2 (c' := (2, [(18, 130), (0, x1), (0, 0), (99, 0)], [], m, XX)) rfl ?_
    exact tM_lineOf_2 r m x1 0 (99, 0)
  rw [← hr]
  exact h9 v hv hr
def fM_gather_100 (m : aM) (x1 : Int) (x2 : Int) (x5 : Int) : Option (Int × aM) :=
  gd (0 ≤ x1 ∧ x1 < 16) (
  some ((1, mup (mup m 153 x1 x5) 154 x1 x2)))
set_option maxRecDepth 100000 in
theorem tM_gather_100 (r : aR) (m : aM) (x1 : Int) (x2 : Int) (x5 : Int) (z3 : aV) (z4 : aV) (z6 : aV) : aT PB 3 78 r (fun w => r = (1, (0, w.1), w.2, XX)) (fM_gather_100 m x1 x2 x5) (100, [(18, 130), (0, x1), (0, x2), z3, z4, (1, x5), z6], [], m, XX) := by
  have hD : aMd PB 78 = d_M_gather := rfl
  unfold fM_gather_100
  refine T_run hD 4 (c' := (107, [(18, 130), (0, x1), (0, x2), z3, z4, (1, x5), z6], [(1, x5), (0, x1), (32, 153)], m, XX)) rfl ?_
  refine T_gd hD (c1 := (108, [(18, 130), (0, x1), (0, x2), z3, z4, (1, x5), z6], [], mup m 153 x1 x5, XX)) rfl (fun g4 => ?_)
  refine T_run hD 4 (c' := (114, [(18, 130), (0, x1), (0, x2), z3, z4, (1, x5), z6], [(0, x2), (0, x1), (31, 154)], mup m 153 x1 x5, XX)) rfl ?_
  refine T_gk hD (c1 := (115, [(18, 130), (0, x1), (0, x2), z3, z4, (1, x5), z6], [], mup (mup m 153 x1 x5) 154 x1 x2, XX)) (P := 0 ≤ x1 ∧ x1 < 16) rfl g4 ?_
  refine T_run hD 1 (c' := (116, [(18, 130), (0, x1), (0, x2), z3, z4, (1, x5), z6], [(0, 1)], mup (mup m 153 x1 x5) 154 x1 x2, XX)) rfl ?_
  exact T_fin hD rfl (fun h => h)
def fM_gather_149 (m : aM) (x1 : Int) (x2 : Int) (s0 : Int) : Option (Int × aM) :=
  gd (0 ≤ x1 ∧ x1 < 16) (
  if m 154 x1 < 0 then
    some ((1, mup m 154 x1 x2))
  else
    if m 130 38 = 3 then
      if s0 < 0 then
        some ((1, mup m 154 x1 x2))
      else
        some ((1, mup m 154 x1 (m 154 x1)))
    else
      if 0 < s0 then
        some ((1, mup m 154 x1 x2))
      else
        some ((1, mup m 154 x1 (m 154 x1))))
set_option maxRecDepth 100000 in
theorem tM_gather_149 (r : aR) (m : aM) (x1 : Int) (x2 : Int) (s0 : Int) (z3 : aV) (z4 : aV) (z5 : aV) (z6 : aV) : aT PB 3 78 r (fun w => r = (1, (0, w.1), w.2, XX)) (fM_gather_149 m x1 x2 s0) (149, [(18, 130), (0, x1), (0, x2), z3, z4, z5, z6], [(0, s0)], m, XX) := by
  have hD : aMd PB 78 = d_M_gather := rfl
  unfold fM_gather_149
  refine T_run hD 7 (c' := (160, [(18, 130), (0, x1), (0, x2), (0, s0), z4, z5, z6], [(0, x1), (31, 154), (0, x1), (31, 154)], m, XX)) rfl ?_
  refine T_gd hD (c1 := (161, [(18, 130), (0, x1), (0, x2), (0, s0), z4, z5, z6], [(0, m 154 x1), (0, x1), (31, 154)], m, XX)) rfl (fun g5 => ?_)
  refine T_if hD (c1 := (183, _, _, _, _)) (c2 := (164, _, _, _, _)) rfl (fun _ => ?_) (fun _ => ?_)
  · refine T_run hD 2 (c' := (193, [(18, 130), (0, x1), (0, x2), (0, s0), z4, z5, z6], [(0, x2), (0, x1), (31, 154)], m, XX)) rfl ?_
    refine T_gk hD (c1 := (194, [(18, 130), (0, x1), (0, x2), (0, s0), z4, z5, z6], [], mup m 154 x1 x2, XX)) (P := 0 ≤ x1 ∧ x1 < 16) rfl g5 ?_
    refine T_run hD 1 (c' := (195, [(18, 130), (0, x1), (0, x2), (0, s0), z4, z5, z6], [(0, 1)], mup m 154 x1 x2, XX)) rfl ?_
    exact T_fin hD rfl (fun h => h)
  · refine T_run hD 3 (c' := (169, [(18, 130), (0, x1), (0, x2), (0, s0), z4, z5, z6], [(0, 3), (0, m 130 38), (0, x1), (31, 154)], m, XX)) rfl ?_
    refine T_if hD (c1 := (172, _, _, _, _)) (c2 := (179, _, _, _, _)) rfl (fun _ => ?_) (fun _ => ?_)
    · refine T_run hD 1 (c' := (173, [(18, 130), (0, x1), (0, x2), (0, s0), z4, z5, z6], [(0, s0), (0, x1), (31, 154)], m, XX)) rfl ?_
      refine T_if hD (c1 := (176, _, _, _, _)) (c2 := (187, _, _, _, _)) rfl (fun _ => ?_) (fun _ => ?_)
      · refine T_run hD 3 (c' := (193, [(18, 130), (0, x1), (0, x2), (0, s0), z4, z5, z6], [(0, x2), (0, x1), (31, 154)], m, XX)) rfl ?_
        refine T_gk hD (c1 := (194, [(18, 130), (0, x1), (0, x2), (0, s0), z4, z5, z6], [], mup m 154 x1 x2, XX)) (P := 0 ≤ x1 ∧ x1 < 16) rfl g5 ?_
        refine T_run hD 1 (c' := (195, [(18, 130), (0, x1), (0, x2), (0, s0), z4, z5, z6], [(0, 1)], mup m 154 x1 x2, XX)) rfl ?_
        exact T_fin hD rfl (fun h => h)
      · refine T_run hD 3 (c' := (192, [(18, 130), (0, x1), (0, x2), (0, s0), z4, z5, z6], [(0, x1), (31, 154), (0, x1), (31, 154)], m, XX)) rfl ?_
        refine T_gk hD (c1 := (193, [(18, 130), (0, x1), (0, x2), (0, s0), z4, z5, z6], [(0, m 154 x1), (0, x1), (31, 154)], m, XX)) (P := 0 ≤ x1 ∧ x1 < 16) rfl g5 ?_
        refine T_gk hD (c1 := (194, [(18, 130), (0, x1), (0, x2), (0, s0), z4, z5, z6], [], mup m 154 x1 (m 154 x1), XX)) (P := 0 ≤ x1 ∧ x1 < 16) rfl g5 ?_
        refine T_run hD 1 (c' := (195, [(18, 130), (0, x1), (0, x2), (0, s0), z4, z5, z6], [(0, 1)], mup m 154 x1 (m 154 x1), XX)) rfl ?_
        exact T_fin hD rfl (fun h => h)
    · refine T_run hD 1 (c' := (180, [(18, 130), (0, x1), (0, x2), (0, s0), z4, z5, z6], [(0, s0), (0, x1), (31, 154)], m, XX)) rfl ?_
      refine T_if hD (c1 := (183, _, _, _, _)) (c2 := (187, _, _, _, _)) rfl (fun _ => ?_) (fun _ => ?_)
      · refine T_run hD 2 (c' := (193, [(18, 130), (0, x1), (0, x2), (0, s0), z4, z5, z6], [(0, x2), (0, x1), (31, 154)], m, XX)) rfl ?_
        refine T_gk hD (c1 := (194, [(18, 130), (0, x1), (0, x2), (0, s0), z4, z5, z6], [], mup m 154 x1 x2, XX)) (P := 0 ≤ x1 ∧ x1 < 16) rfl g5 ?_
        refine T_run hD 1 (c' := (195, [(18, 130), (0, x1), (0, x2), (0, s0), z4, z5, z6], [(0, 1)], mup m 154 x1 x2, XX)) rfl ?_
        exact T_fin hD rfl (fun h => h)
      · refine T_run hD 3 (c' := (192, [(18, 130), (0, x1), (0, x2), (0, s0), z4, z5, z6], [(0, x1), (31, 154), (0, x1), (31, 154)], m, XX)) rfl ?_
        refine T_gk hD (c1 := (193, [(18, 130), (0, x1), (0, x2), (0, s0), z4, z5, z6], [(0, m 154 x1), (0, x1), (31, 154)], m, XX)) (P := 0 ≤ x1 ∧ x1 < 16) rfl g5 ?_
        refine T_gk hD (c1 := (194, [(18, 130), (0, x1), (0, x2), (0, s0), z4, z5, z6], [], mup m 154 x1 (m 154 x1), XX)) (P := 0 ≤ x1 ∧ x1 < 16) rfl g5 ?_
        refine T_run hD 1 (c' := (195, [(18, 130), (0, x1), (0, x2), (0, s0), z4, z5, z6], [(0, 1)], mup m 154 x1 (m 154 x1), XX)) rfl ?_
        exact T_fin hD rfl (fun h => h)
def fM_gather (m : aM) (x1 : Int) (x2 : Int) : Option (Int × aM) :=
  gd (0 ≤ x1 ∧ x1 < 16) (
  if m 130 38 = 1 then
    some ((1, mup m 152 x1 (w32 ((m 152 x1) + 1))))
  else
    (fM_isNone (mup m 152 x1 (w32 ((m 152 x1) + 1))) x2 (m 130 40)).bind fun v2 =>
    if v2 = 0 then
      if m 130 38 = 2 then
        gd (0 ≤ w32 ((w32 (6 * x2)) + (m 130 40)) ∧ w32 ((w32 (6 * x2)) + (m 130 40)) < 96) (
        if 0 < cmp3 (m 137 (w32 ((w32 (6 * x2)) + (m 130 40)))) 0 then
          if cmp3 (w64 ((m 153 x1) + (m 137 (w32 ((w32 (6 * x2)) + (m 130 40)))))) (m 153 x1) < 0 then
            some ((0, mup m 152 x1 (w32 ((m 152 x1) + 1))))
          else
            fM_gather_100 (mup m 152 x1 (w32 ((m 152 x1) + 1))) x1 x2 (w64 ((m 153 x1) + (m 137 (w32 ((w32 (6 * x2)) + (m 130 40))))))
        else
          if 0 < cmp3 (w64 ((m 153 x1) + (m 137 (w32 ((w32 (6 * x2)) + (m 130 40)))))) (m 153 x1) then
            some ((0, mup m 152 x1 (w32 ((m 152 x1) + 1))))
          else
            fM_gather_100 (mup m 152 x1 (w32 ((m 152 x1) + 1))) x1 x2 (w64 ((m 153 x1) + (m 137 (w32 ((w32 (6 * x2)) + (m 130 40)))))))
      else
        if m 154 x1 < 0 then
          fM_gather_149 (mup m 152 x1 (w32 ((m 152 x1) + 1))) x1 x2 0
        else
          (fM_compareCells (mup m 152 x1 (w32 ((m 152 x1) + 1))) (m 130 40) x2 (m 130 40) (m 154 x1)).bind fun v6 =>
          fM_gather_149 (mup m 152 x1 (w32 ((m 152 x1) + 1))) x1 x2 v6
    else
      some ((1, mup m 152 x1 (w32 ((m 152 x1) + 1)))))
set_option maxRecDepth 100000 in
theorem tM_gather (m : aM) (x1 : Int) (x2 : Int) : ∀ v, fM_gather m x1 x2 = some v → Go PB 3 78 (aEnt d_M_gather [(18, 130), (0, x1), (0, x2)] m XX) (1, (0, v.1), v.2, XX) := by
  intro v hv
  have hD : aMd PB 78 = d_M_gather := rfl
  obtain ⟨r, hr⟩ : ∃ r : aR, r = (1, (0, v.1), v.2, XX) := ⟨_, rfl⟩
  have h9 : aT PB 3 78 r (fun w => r = (1, (0, w.1), w.2, XX)) (fM_gather m x1 x2) (0, [(18, 130), (0, x1), (0, x2), (99, 0), (99, 0), (99, 0), (99, 0)], [], m, XX) := by
    unfold fM_gather
    refine T_run hD 4 (c' := (6, [(18, 130), (0, x1), (0, x2), (99, 0), (99, 0), (99, 0), (99, 0)], [(0, x1), (31, 152), (0, x1), (31, 152)], m, XX)) rfl ?_
    refine T_gd hD (c1 := (7, [(18, 130), (0, x1), (0, x2), (99, 0), (99, 0), (99, 0), (99, 0)], [(0, m 152 x1), (0, x1), (31, 152)], m, XX)) rfl (fun g1 => ?_)
    refine T_run hD 2 (c' := (9, [(18, 130), (0, x1), (0, x2), (99, 0), (99, 0), (99, 0), (99, 0)], [(0, w32 ((m 152 x1) + 1)), (0, x1), (31, 152)], m, XX)) rfl ?_
    refine T_gk hD (c1 := (10, [(18, 130), (0, x1), (0, x2), (99, 0), (99, 0), (99, 0), (99, 0)], [], mup m 152 x1 (w32 ((m 152 x1) + 1)), XX)) (P := 0 ≤ x1 ∧ x1 < 16) rfl g1 ?_
    refine T_run hD 3 (c' := (15, [(18, 130), (0, x1), (0, x2), (99, 0), (99, 0), (99, 0), (99, 0)], [(0, 1), (0, m 130 38)], mup m 152 x1 (w32 ((m 152 x1) + 1)), XX)) rfl ?_
    refine T_if hD (c1 := (30, _, _, _, _)) (c2 := (18, _, _, _, _)) rfl (fun _ => ?_) (fun _ => ?_)
    · refine T_run hD 1 (c' := (31, [(18, 130), (0, x1), (0, x2), (99, 0), (99, 0), (99, 0), (99, 0)], [(0, 1)], mup m 152 x1 (w32 ((m 152 x1) + 1)), XX)) rfl ?_
      exact T_fin hD rfl (fun h => h)
    · refine T_run hD 4 (c' := (24, [(18, 130), (0, x1), (0, x2), (99, 0), (99, 0), (99, 0), (99, 0)], [(0, m 130 40), (0, x2), (18, 130)], mup m 152 x1 (w32 ((m 152 x1) + 1)), XX)) rfl ?_
      refine T_call hD (D2 := d_M_isNone) (q2 := 37) (as := [(18, 130), (0, x2), (0, m 130 40)]) (c1 := (27, [(18, 130), (0, x1), (0, x2), (99, 0), (99, 0), (99, 0), (99, 0)], [], mup m 152 x1 (w32 ((m 152 x1) + 1)), XX)) (mk := fun w => (1, (0, w), mup m 152 x1 (w32 ((m 152 x1) + 1)), XX)) (cc := fun v2 => (27, [(18, 130), (0, x1), (0, x2), (99, 0), (99, 0), (99, 0), (99, 0)], [(0, v2)], mup m 152 x1 (w32 ((m 152 x1) + 1)), XX)) rfl rfl (fun y9 h9y => Go.mono (tM_isNone (mup m 152 x1 (w32 ((m 152 x1) + 1))) x2 (m 130 40) y9 h9y) (by decide)) (fun _ => rfl) (fun v2 => ?_)
      refine T_if hD (c1 := (32, _, _, _, _)) (c2 := (30, _, _, _, _)) rfl (fun _ => ?_) (fun _ => ?_)
      · refine T_run hD 3 (c' := (37, [(18, 130), (0, x1), (0, x2), (99, 0), (99, 0), (99, 0), (99, 0)], [(0, 2), (0, m 130 38)], mup m 152 x1 (w32 ((m 152 x1) + 1)), XX)) rfl ?_
        refine T_if hD (c1 := (40, _, _, _, _)) (c2 := (117, _, _, _, _)) rfl (fun _ => ?_) (fun _ => ?_)
        · refine T_run hD 8 (c' := (53, [(18, 130), (0, x1), (0, x2), (99, 0), (99, 0), (99, 0), (99, 0)], [(0, w32 ((w32 (6 * x2)) + (m 130 40))), (32, 137)], mup m 152 x1 (w32 ((m 152 x1) + 1)), XX)) rfl ?_
          refine T_gd hD (c1 := (54, [(18, 130), (0, x1), (0, x2), (99, 0), (99, 0), (99, 0), (99, 0)], [(1, m 137 (w32 ((w32 (6 * x2)) + (m 130 40))))], mup m 152 x1 (w32 ((m 152 x1) + 1)), XX)) rfl (fun g3 => ?_)
          refine T_run hD 4 (c' := (60, [(18, 130), (0, x1), (0, x2), (1, m 137 (w32 ((w32 (6 * x2)) + (m 130 40)))), (99, 0), (99, 0), (99, 0)], [(0, x1), (32, 153)], mup m 152 x1 (w32 ((m 152 x1) + 1)), XX)) rfl ?_
          refine T_gk hD (c1 := (61, [(18, 130), (0, x1), (0, x2), (1, m 137 (w32 ((w32 (6 * x2)) + (m 130 40)))), (99, 0), (99, 0), (99, 0)], [(1, m 153 x1)], mup m 152 x1 (w32 ((m 152 x1) + 1)), XX)) (P := 0 ≤ x1 ∧ x1 < 16) rfl g1 ?_
          refine T_run hD 6 (c' := (68, [(18, 130), (0, x1), (0, x2), (1, m 137 (w32 ((w32 (6 * x2)) + (m 130 40)))), (99, 0), (1, w64 ((m 153 x1) + (m 137 (w32 ((w32 (6 * x2)) + (m 130 40)))))), (99, 0)], [(0, cmp3 (m 137 (w32 ((w32 (6 * x2)) + (m 130 40)))) 0)], mup m 152 x1 (w32 ((m 152 x1) + 1)), XX)) rfl ?_
          refine T_if hD (c1 := (71, _, _, _, _)) (c2 := (86, _, _, _, _)) rfl (fun _ => ?_) (fun _ => ?_)
          · refine T_run hD 4 (c' := (78, [(18, 130), (0, x1), (0, x2), (1, m 137 (w32 ((w32 (6 * x2)) + (m 130 40)))), (99, 0), (1, w64 ((m 153 x1) + (m 137 (w32 ((w32 (6 * x2)) + (m 130 40)))))), (99, 0)], [(0, x1), (32, 153), (1, w64 ((m 153 x1) + (m 137 (w32 ((w32 (6 * x2)) + (m 130 40))))))], mup m 152 x1 (w32 ((m 152 x1) + 1)), XX)) rfl ?_
            refine T_gk hD (c1 := (79, [(18, 130), (0, x1), (0, x2), (1, m 137 (w32 ((w32 (6 * x2)) + (m 130 40)))), (99, 0), (1, w64 ((m 153 x1) + (m 137 (w32 ((w32 (6 * x2)) + (m 130 40)))))), (99, 0)], [(1, m 153 x1), (1, w64 ((m 153 x1) + (m 137 (w32 ((w32 (6 * x2)) + (m 130 40))))))], mup m 152 x1 (w32 ((m 152 x1) + 1)), XX)) (P := 0 ≤ x1 ∧ x1 < 16) rfl g1 ?_
            refine T_run hD 1 (c' := (80, [(18, 130), (0, x1), (0, x2), (1, m 137 (w32 ((w32 (6 * x2)) + (m 130 40)))), (99, 0), (1, w64 ((m 153 x1) + (m 137 (w32 ((w32 (6 * x2)) + (m 130 40)))))), (99, 0)], [(0, cmp3 (w64 ((m 153 x1) + (m 137 (w32 ((w32 (6 * x2)) + (m 130 40)))))) (m 153 x1))], mup m 152 x1 (w32 ((m 152 x1) + 1)), XX)) rfl ?_
            refine T_if hD (c1 := (83, _, _, _, _)) (c2 := (100, _, _, _, _)) rfl (fun _ => ?_) (fun _ => ?_)
            · refine T_run hD 2 (c' := (99, [(18, 130), (0, x1), (0, x2), (1, m 137 (w32 ((w32 (6 * x2)) + (m 130 40)))), (99, 0), (1, w64 ((m 153 x1) + (m 137 (w32 ((w32 (6 * x2)) + (m 130 40)))))), (99, 0)], [(0, 0)], mup m 152 x1 (w32 ((m 152 x1) + 1)), XX)) rfl ?_
              exact T_fin hD rfl (fun h => h)
            · exact tM_gather_100 r (mup m 152 x1 (w32 ((m 152 x1) + 1))) x1 x2 (w64 ((m 153 x1) + (m 137 (w32 ((w32 (6 * x2)) + (m 130 40)))))) (1, m 137 (w32 ((w32 (6 * x2)) + (m 130 40)))) (99, 0) (99, 0)
          · refine T_run hD 4 (c' := (93, [(18, 130), (0, x1), (0, x2), (1, m 137 (w32 ((w32 (6 * x2)) + (m 130 40)))), (99, 0), (1, w64 ((m 153 x1) + (m 137 (w32 ((w32 (6 * x2)) + (m 130 40)))))), (99, 0)], [(0, x1), (32, 153), (1, w64 ((m 153 x1) + (m 137 (w32 ((w32 (6 * x2)) + (m 130 40))))))], mup m 152 x1 (w32 ((m 152 x1) + 1)), XX)) rfl ?_
            refine T_gk hD (c1 := (94, [(18, 130), (0, x1), (0, x2), (1, m 137 (w32 ((w32 (6 * x2)) + (m 130 40)))), (99, 0), (1, w64 ((m 153 x1) + (m 137 (w32 ((w32 (6 * x2)) + (m 130 40)))))), (99, 0)], [(1, m 153 x1), (1, w64 ((m 153 x1) + (m 137 (w32 ((w32 (6 * x2)) + (m 130 40))))))], mup m 152 x1 (w32 ((m 152 x1) + 1)), XX)) (P := 0 ≤ x1 ∧ x1 < 16) rfl g1 ?_
            refine T_run hD 1 (c' := (95, [(18, 130), (0, x1), (0, x2), (1, m 137 (w32 ((w32 (6 * x2)) + (m 130 40)))), (99, 0), (1, w64 ((m 153 x1) + (m 137 (w32 ((w32 (6 * x2)) + (m 130 40)))))), (99, 0)], [(0, cmp3 (w64 ((m 153 x1) + (m 137 (w32 ((w32 (6 * x2)) + (m 130 40)))))) (m 153 x1))], mup m 152 x1 (w32 ((m 152 x1) + 1)), XX)) rfl ?_
            refine T_if hD (c1 := (98, _, _, _, _)) (c2 := (100, _, _, _, _)) rfl (fun _ => ?_) (fun _ => ?_)
            · refine T_run hD 1 (c' := (99, [(18, 130), (0, x1), (0, x2), (1, m 137 (w32 ((w32 (6 * x2)) + (m 130 40)))), (99, 0), (1, w64 ((m 153 x1) + (m 137 (w32 ((w32 (6 * x2)) + (m 130 40)))))), (99, 0)], [(0, 0)], mup m 152 x1 (w32 ((m 152 x1) + 1)), XX)) rfl ?_
              exact T_fin hD rfl (fun h => h)
            · exact tM_gather_100 r (mup m 152 x1 (w32 ((m 152 x1) + 1))) x1 x2 (w64 ((m 153 x1) + (m 137 (w32 ((w32 (6 * x2)) + (m 130 40)))))) (1, m 137 (w32 ((w32 (6 * x2)) + (m 130 40)))) (99, 0) (99, 0)
        · refine T_run hD 3 (c' := (122, [(18, 130), (0, x1), (0, x2), (99, 0), (99, 0), (99, 0), (99, 0)], [(0, x1), (31, 154)], mup m 152 x1 (w32 ((m 152 x1) + 1)), XX)) rfl ?_
          refine T_gk hD (c1 := (123, [(18, 130), (0, x1), (0, x2), (99, 0), (99, 0), (99, 0), (99, 0)], [(0, m 154 x1)], mup m 152 x1 (w32 ((m 152 x1) + 1)), XX)) (P := 0 ≤ x1 ∧ x1 < 16) rfl g1 ?_
          refine T_if hD (c1 := (126, _, _, _, _)) (c2 := (130, _, _, _, _)) rfl (fun _ => ?_) (fun _ => ?_)
          · refine T_run hD 2 (c' := (149, [(18, 130), (0, x1), (0, x2), (99, 0), (99, 0), (99, 0), (99, 0)], [(0, 0)], mup m 152 x1 (w32 ((m 152 x1) + 1)), XX)) rfl ?_
            exact tM_gather_149 r (mup m 152 x1 (w32 ((m 152 x1) + 1))) x1 x2 0 (99, 0) (99, 0) (99, 0) (99, 0)
          · refine T_run hD 9 (c' := (145, [(18, 130), (0, x1), (0, x2), (99, 0), (99, 0), (99, 0), (99, 0)], [(0, x1), (31, 154), (0, m 130 40), (0, x2), (0, m 130 40), (18, 130)], mup m 152 x1 (w32 ((m 152 x1) + 1)), XX)) rfl ?_
            refine T_gk hD (c1 := (146, [(18, 130), (0, x1), (0, x2), (99, 0), (99, 0), (99, 0), (99, 0)], [(0, m 154 x1), (0, m 130 40), (0, x2), (0, m 130 40), (18, 130)], mup m 152 x1 (w32 ((m 152 x1) + 1)), XX)) (P := 0 ≤ x1 ∧ x1 < 16) rfl g1 ?_
            refine T_call hD (D2 := d_M_compareCells) (q2 := 66) (as := [(18, 130), (0, m 130 40), (0, x2), (0, m 130 40), (0, m 154 x1)]) (c1 := (149, [(18, 130), (0, x1), (0, x2), (99, 0), (99, 0), (99, 0), (99, 0)], [], mup m 152 x1 (w32 ((m 152 x1) + 1)), XX)) (mk := fun w => (1, (0, w), mup m 152 x1 (w32 ((m 152 x1) + 1)), XX)) (cc := fun v6 => (149, [(18, 130), (0, x1), (0, x2), (99, 0), (99, 0), (99, 0), (99, 0)], [(0, v6)], mup m 152 x1 (w32 ((m 152 x1) + 1)), XX)) rfl rfl (fun y9 h9y => Go.mono (tM_compareCells (mup m 152 x1 (w32 ((m 152 x1) + 1))) (m 130 40) x2 (m 130 40) (m 154 x1) y9 h9y) (by decide)) (fun _ => rfl) (fun v6 => ?_)
            exact tM_gather_149 r (mup m 152 x1 (w32 ((m 152 x1) + 1))) x1 x2 v6 (99, 0) (99, 0) (99, 0) (99, 0)
      · refine T_run hD 1 (c' := (31, [(18, 130), (0, x1), (0, x2), (99, 0), (99, 0), (99, 0), (99, 0)], [(0, 1)], mup m 152 x1 (w32 ((m 152 x1) + 1)), XX)) rfl ?_
        exact T_fin hD rfl (fun h => h)
  rw [← hr]
  exact h9 v hv hr
abbrev hM_aggregateAll_25 : (aM × Int) → aC → Prop := fun y c => c = (25, [(18, 130), (0, (y.2))], [], (y.1), XX)
def fM_aggregateAll_25_b : (aM × Int) → Option ((aM × Int) ⊕ (Int × aM)) := fun (m, x1) =>
  if x1 < m 130 5 then
    (fM_isChosen m x1).bind fun v2 =>
    if v2.1 = 0 then
      some (Sum.inl (v2.2, w32 (x1 + 1)))
    else
      (fM_lineOf v2.2 x1).bind fun v3 =>
      (fM_gather v3.2 v3.1 x1).bind fun v4 =>
      if v4.1 = 0 then
        some (Sum.inr ((0, v4.2)))
      else
        some (Sum.inl (v4.2, w32 (x1 + 1)))
  else
    some (Sum.inr ((1, m)))
def fM_aggregateAll_25 (m : aM) (x1 : Int) : Option (Int × aM) := aLoop (fM_aggregateAll_25_b ) FU (m, x1)
set_option maxRecDepth 100000 in
theorem tM_aggregateAll_25 (r : aR) (m : aM) (x1 : Int) : aT PB 5 79 r (fun w => r = (1, (0, w.1), w.2, XX)) (fM_aggregateAll_25 m x1) (25, [(18, 130), (0, x1)], [], m, XX) := by
  have hD : aMd PB 79 = d_M_aggregateAll := rfl
  refine T_loop (Hd := (hM_aggregateAll_25 )) ?_ FU _ _ rfl
  clear m x1
  intro y c hc
  obtain ⟨m, x1⟩ := y
  obtain rfl := hc
  unfold fM_aggregateAll_25_b
  try dsimp only
  refine T_run hD 3 (c' := (30, [(18, 130), (0, x1)], [(0, m 130 5), (0, x1)], m, XX)) rfl ?_
  refine T_if hD (c1 := (33, _, _, _, _)) (c2 := (62, _, _, _, _)) rfl (fun _ => ?_) (fun _ => ?_)
  · refine T_run hD 2 (c' := (35, [(18, 130), (0, x1)], [(0, x1), (18, 130)], m, XX)) rfl ?_
    refine T_call hD (D2 := d_M_isChosen) (q2 := 69) (as := [(18, 130), (0, x1)]) (c1 := (38, [(18, 130), (0, x1)], [], m, XX)) (mk := fun w => (1, (0, w.1), w.2, XX)) (cc := fun v2 => (38, [(18, 130), (0, x1)], [(0, v2.1)], v2.2, XX)) rfl rfl (fun y9 h9y => Go.mono (tM_isChosen m x1 y9 h9y) (by decide)) (fun _ => rfl) (fun v2 => ?_)
    refine T_if hD (c1 := (56, _, _, _, _)) (c2 := (41, _, _, _, _)) rfl (fun _ => ?_) (fun _ => ?_)
    · refine T_run hD 2 (c' := (25, [(18, 130), (0, w32 (x1 + 1))], [], v2.2, XX)) rfl ?_
      exact T_back0 rfl
    · refine T_run hD 3 (c' := (44, [(18, 130), (0, x1)], [(0, x1), (18, 130), (18, 130)], v2.2, XX)) rfl ?_
      refine T_call hD (D2 := d_M_lineOf) (q2 := 76) (as := [(18, 130), (0, x1)]) (c1 := (47, [(18, 130), (0, x1)], [(18, 130)], v2.2, XX)) (mk := fun w => (1, (0, w.1), w.2, XX)) (cc := fun v3 => (47, [(18, 130), (0, x1)], [(0, v3.1), (18, 130)], v3.2, XX)) rfl rfl (fun y9 h9y => Go.mono (tM_lineOf v2.2 x1 y9 h9y) (by decide)) (fun _ => rfl) (fun v3 => ?_)
      refine T_run hD 1 (c' := (48, [(18, 130), (0, x1)], [(0, x1), (0, v3.1), (18, 130)], v3.2, XX)) rfl ?_
      refine T_call hD (D2 := d_M_gather) (q2 := 78) (as := [(18, 130), (0, v3.1), (0, x1)]) (c1 := (51, [(18, 130), (0, x1)], [], v3.2, XX)) (mk := fun w => (1, (0, w.1), w.2, XX)) (cc := fun v4 => (51, [(18, 130), (0, x1)], [(0, v4.1)], v4.2, XX)) rfl rfl (fun y9 h9y => Go.mono (tM_gather v3.2 v3.1 x1 y9 h9y) (by decide)) (fun _ => rfl) (fun v4 => ?_)
      refine T_if hD (c1 := (54, _, _, _, _)) (c2 := (56, _, _, _, _)) rfl (fun _ => ?_) (fun _ => ?_)
      · refine T_run hD 1 (c' := (55, [(18, 130), (0, x1)], [(0, 0)], v4.2, XX)) rfl ?_
        exact T_fin hD rfl (fun h => h)
      · refine T_run hD 2 (c' := (25, [(18, 130), (0, w32 (x1 + 1))], [], v4.2, XX)) rfl ?_
        exact T_back0 rfl
  · refine T_run hD 1 (c' := (63, [(18, 130), (0, x1)], [(0, 1)], m, XX)) rfl ?_
    exact T_fin hD rfl (fun h => h)
def fM_aggregateAll (m : aM) : Option (Int × aM) :=
  if m 130 39 < 0 then
    (fM_begin (mup m 130 37 0) 0 0).bind fun v1 =>
    fM_aggregateAll_25 (mup v1 130 37 1) 0
  else
    fM_aggregateAll_25 (mup m 130 37 0) 0
set_option maxRecDepth 100000 in
theorem tM_aggregateAll (m : aM) : ∀ v, fM_aggregateAll m = some v → Go PB 5 79 (aEnt d_M_aggregateAll [(18, 130)] m XX) (1, (0, v.1), v.2, XX) := by
  intro v hv
  have hD : aMd PB 79 = d_M_aggregateAll := rfl
  obtain ⟨r, hr⟩ : ∃ r : aR, r = (1, (0, v.1), v.2, XX) := ⟨_, rfl⟩
  have h9 : aT PB 5 79 r (fun w => r = (1, (0, w.1), w.2, XX)) (fM_aggregateAll m) (0, [(18, 130), (99, 0)], [], m, XX) := by
    unfold fM_aggregateAll
    refine T_run hD 5 (c' := (9, [(18, 130), (99, 0)], [(0, m 130 39)], mup m 130 37 0, XX)) rfl ?_
    refine T_if hD (c1 := (12, _, _, _, _)) (c2 := (23, _, _, _, _)) rfl (fun _ => ?_) (fun _ => ?_)
    · refine T_run hD 3 (c' := (15, [(18, 130), (99, 0)], [(0, 0), (0, 0), (18, 130)], mup m 130 37 0, XX)) rfl ?_
      refine T_call hD (D2 := d_M_begin) (q2 := 77) (as := [(18, 130), (0, 0), (0, 0)]) (c1 := (18, [(18, 130), (99, 0)], [], mup m 130 37 0, XX)) (mk := fun w => (0, (0, 0), w, XX)) (cc := fun v1 => (18, [(18, 130), (99, 0)], [], v1, XX)) rfl rfl (fun y9 h9y => Go.mono (tM_begin (mup m 130 37 0) 0 0 y9 h9y) (by decide)) (fun _ => rfl) (fun v1 => ?_)
      refine T_run hD 5 (c' := (25, [(18, 130), (0, 0)], [], mup v1 130 37 1, XX)) rfl ?_
      exact tM_aggregateAll_25 r (mup v1 130 37 1) 0 
    · refine T_run hD 2 (c' := (25, [(18, 130), (0, 0)], [], mup m 130 37 0, XX)) rfl ?_
      exact tM_aggregateAll_25 r (mup m 130 37 0) 0 
  rw [← hr]
  exact h9 v hv hr
def fM_ask (m : aM) : Option (Int × aM) :=
  if m 130 4 = 0 then
    some (((fM_fail (mup (mup m 130 0 0) 130 37 (-1)) 1).1, (fM_fail (mup (mup m 130 0 0) 130 37 (-1)) 1).2))
  else
    (fM_next (mup (mup (mup (mup m 130 0 0) 130 37 (-1)) 130 25 (-1)) 130 21 240)).bind fun v1 =>
    (fM_question v1).bind fun v2 =>
    if v2.1 = 0 then
      some (((fM_fail v2.2 2).1, (fM_fail v2.2 2).2))
    else
      if v2.2 130 38 = 0 then
        (fM_chooseRows v2.2).bind fun v3 =>
        some ((v3 130 37, v3))
      else
        (fM_aggregateAll v2.2).bind fun v4 =>
        if v4.1 = 0 then
          some (((fM_fail (mup v4.2 130 37 (-1)) 3).1, (fM_fail (mup v4.2 130 37 (-1)) 3).2))
        else
          some ((v4.2 130 37, v4.2))
set_option maxRecDepth 100000 in
theorem tM_ask (m : aM) : ∀ v, fM_ask m = some v → Go PB 10 80 (aEnt d_M_ask [(18, 130)] m XX) (1, (0, v.1), v.2, XX) := by
  intro v hv
  have hD : aMd PB 80 = d_M_ask := rfl
  obtain ⟨r, hr⟩ : ∃ r : aR, r = (1, (0, v.1), v.2, XX) := ⟨_, rfl⟩
  have h9 : aT PB 10 80 r (fun w => r = (1, (0, w.1), w.2, XX)) (fM_ask m) (0, [(18, 130)], [], m, XX) := by
    unfold fM_ask
    refine T_run hD 8 (c' := (14, [(18, 130)], [(0, m 130 4)], mup (mup m 130 0 0) 130 37 (-1), XX)) rfl ?_
    refine T_if hD (c1 := (17, _, _, _, _)) (c2 := (23, _, _, _, _)) rfl (fun _ => ?_) (fun _ => ?_)
    · refine T_run hD 2 (c' := (19, [(18, 130)], [(0, 1), (18, 130)], mup (mup m 130 0 0) 130 37 (-1), XX)) rfl ?_
      refine T_call0 hD (D2 := d_M_fail) (q2 := 21) (as := [(18, 130), (0, 1)]) (c1 := (22, [(18, 130)], [], mup (mup m 130 0 0) 130 37 (-1), XX)) (r2 := (1, (0, (fM_fail (mup (mup m 130 0 0) 130 37 (-1)) 1).1), (fM_fail (mup (mup m 130 0 0) 130 37 (-1)) 1).2, XX)) (c2 := (22, [(18, 130)], [(0, (fM_fail (mup (mup m 130 0 0) 130 37 (-1)) 1).1)], (fM_fail (mup (mup m 130 0 0) 130 37 (-1)) 1).2, XX)) rfl rfl (Go.mono (tM_fail (mup (mup m 130 0 0) 130 37 (-1)) 1) (by decide)) rfl ?_
      exact T_fin hD rfl (fun h => h)
    · refine T_run hD 7 (c' := (36, [(18, 130)], [(18, 130)], mup (mup (mup (mup m 130 0 0) 130 37 (-1)) 130 25 (-1)) 130 21 240, XX)) rfl ?_
      refine T_call hD (D2 := d_M_next) (q2 := 48) (as := [(18, 130)]) (c1 := (39, [(18, 130)], [], mup (mup (mup (mup m 130 0 0) 130 37 (-1)) 130 25 (-1)) 130 21 240, XX)) (mk := fun w => (0, (0, 0), w, XX)) (cc := fun v1 => (39, [(18, 130)], [], v1, XX)) rfl rfl (fun y9 h9y => Go.mono (tM_next (mup (mup (mup (mup m 130 0 0) 130 37 (-1)) 130 25 (-1)) 130 21 240) y9 h9y) (by decide)) (fun _ => rfl) (fun v1 => ?_)
      refine T_run hD 1 (c' := (40, [(18, 130)], [(18, 130)], v1, XX)) rfl ?_
      refine T_call hD (D2 := d_M_question) (q2 := 71) (as := [(18, 130)]) (c1 := (43, [(18, 130)], [], v1, XX)) (mk := fun w => (1, (0, w.1), w.2, XX)) (cc := fun v2 => (43, [(18, 130)], [(0, v2.1)], v2.2, XX)) rfl rfl (fun y9 h9y => Go.mono (tM_question v1 y9 h9y) (by decide)) (fun _ => rfl) (fun v2 => ?_)
      refine T_if hD (c1 := (46, _, _, _, _)) (c2 := (52, _, _, _, _)) rfl (fun _ => ?_) (fun _ => ?_)
      · refine T_run hD 2 (c' := (48, [(18, 130)], [(0, 2), (18, 130)], v2.2, XX)) rfl ?_
        refine T_call0 hD (D2 := d_M_fail) (q2 := 21) (as := [(18, 130), (0, 2)]) (c1 := (51, [(18, 130)], [], v2.2, XX)) (r2 := (1, (0, (fM_fail v2.2 2).1), (fM_fail v2.2 2).2, XX)) (c2 := (51, [(18, 130)], [(0, (fM_fail v2.2 2).1)], (fM_fail v2.2 2).2, XX)) rfl rfl (Go.mono (tM_fail v2.2 2) (by decide)) rfl ?_
        exact T_fin hD rfl (fun h => h)
      · refine T_run hD 2 (c' := (56, [(18, 130)], [(0, v2.2 130 38)], v2.2, XX)) rfl ?_
        refine T_if hD (c1 := (59, _, _, _, _)) (c2 := (66, _, _, _, _)) rfl (fun _ => ?_) (fun _ => ?_)
        · refine T_run hD 1 (c' := (60, [(18, 130)], [(18, 130)], v2.2, XX)) rfl ?_
          refine T_call hD (D2 := d_M_chooseRows) (q2 := 73) (as := [(18, 130)]) (c1 := (63, [(18, 130)], [], v2.2, XX)) (mk := fun w => (0, (0, 0), w, XX)) (cc := fun v3 => (63, [(18, 130)], [], v3, XX)) rfl rfl (fun y9 h9y => Go.mono (tM_chooseRows v2.2 y9 h9y) (by decide)) (fun _ => rfl) (fun v3 => ?_)
          refine T_run hD 3 (c' := (88, [(18, 130)], [(0, v3 130 37)], v3, XX)) rfl ?_
          exact T_fin hD rfl (fun h => h)
        · refine T_run hD 1 (c' := (67, [(18, 130)], [(18, 130)], v2.2, XX)) rfl ?_
          refine T_call hD (D2 := d_M_aggregateAll) (q2 := 79) (as := [(18, 130)]) (c1 := (70, [(18, 130)], [], v2.2, XX)) (mk := fun w => (1, (0, w.1), w.2, XX)) (cc := fun v4 => (70, [(18, 130)], [(0, v4.1)], v4.2, XX)) rfl rfl (fun y9 h9y => Go.mono (tM_aggregateAll v2.2 y9 h9y) (by decide)) (fun _ => rfl) (fun v4 => ?_)
          refine T_if hD (c1 := (73, _, _, _, _)) (c2 := (84, _, _, _, _)) rfl (fun _ => ?_) (fun _ => ?_)
          · refine T_run hD 5 (c' := (80, [(18, 130)], [(0, 3), (18, 130)], mup v4.2 130 37 (-1), XX)) rfl ?_
            refine T_call0 hD (D2 := d_M_fail) (q2 := 21) (as := [(18, 130), (0, 3)]) (c1 := (83, [(18, 130)], [], mup v4.2 130 37 (-1), XX)) (r2 := (1, (0, (fM_fail (mup v4.2 130 37 (-1)) 3).1), (fM_fail (mup v4.2 130 37 (-1)) 3).2, XX)) (c2 := (83, [(18, 130)], [(0, (fM_fail (mup v4.2 130 37 (-1)) 3).1)], (fM_fail (mup v4.2 130 37 (-1)) 3).2, XX)) rfl rfl (Go.mono (tM_fail (mup v4.2 130 37 (-1)) 3) (by decide)) rfl ?_
            exact T_fin hD rfl (fun h => h)
          · refine T_run hD 2 (c' := (88, [(18, 130)], [(0, v4.2 130 37)], v4.2, XX)) rfl ?_
            exact T_fin hD rfl (fun h => h)
  rw [← hr]
  exact h9 v hv hr
def fM_fault (m : aM) : (Int × aM) :=
  (m 130 25, mup m 130 0 0)
set_option maxRecDepth 100000 in
theorem tM_fault (m : aM) : Go PB 1 81 (aEnt d_M_fault [(18, 130)] m XX) (1, (0, (fM_fault m).1), (fM_fault m).2, XX) := by
  have hD : aMd PB 81 = d_M_fault := rfl
  show aU PB 1 81 (fun w => (1, (0, w.1), w.2, XX)) (fM_fault m) (0, [(18, 130)], [], m, XX)
  unfold fM_fault
  refine U_run hD 5 (c' := (9, [(18, 130)], [(0, m 130 25)], mup m 130 0 0, XX)) rfl ?_
  exact Go.fin hD rfl
def fM_lines (m : aM) : (Int × aM) :=
  (m 130 37, mup m 130 0 0)
set_option maxRecDepth 100000 in
theorem tM_lines (m : aM) : Go PB 1 82 (aEnt d_M_lines [(18, 130)] m XX) (1, (0, (fM_lines m).1), (fM_lines m).2, XX) := by
  have hD : aMd PB 82 = d_M_lines := rfl
  show aU PB 1 82 (fun w => (1, (0, w.1), w.2, XX)) (fM_lines m) (0, [(18, 130)], [], m, XX)
  unfold fM_lines
  refine U_run hD 5 (c' := (9, [(18, 130)], [(0, m 130 37)], mup m 130 0 0, XX)) rfl ?_
  exact Go.fin hD rfl
def fM_line_29 (m : aM) (x1 : Int) (s1 : Int) : Option (Int × aM) :=
  if 0 < s1 then
    some ((0, mup m 130 0 s1))
  else
    if m 130 38 = 0 then
      gd (0 ≤ x1 ∧ x1 < 16) (
      some ((m 151 x1, mup m 130 0 s1)))
    else
      gd (0 ≤ x1 ∧ x1 < 16) (
      some ((m 152 x1, mup m 130 0 s1)))
set_option maxRecDepth 100000 in
theorem tM_line_29 (r : aR) (m : aM) (x1 : Int) (s1 : Int) : aT PB 1 83 r (fun w => r = (1, (0, w.1), w.2, XX)) (fM_line_29 m x1 s1) (29, [(18, 130), (0, x1)], [(0, s1), (18, 130)], m, XX) := by
  have hD : aMd PB 83 = d_M_line := rfl
  unfold fM_line_29
  refine T_run hD 3 (c' := (36, [(18, 130), (0, x1)], [(0, s1)], mup m 130 0 s1, XX)) rfl ?_
  refine T_if hD (c1 := (39, _, _, _, _)) (c2 := (43, _, _, _, _)) rfl (fun _ => ?_) (fun _ => ?_)
  · refine T_run hD 2 (c' := (65, [(18, 130), (0, x1)], [(0, 0)], mup m 130 0 s1, XX)) rfl ?_
    exact T_fin hD rfl (fun h => h)
  · refine T_run hD 2 (c' := (47, [(18, 130), (0, x1)], [(0, m 130 38)], mup m 130 0 s1, XX)) rfl ?_
    refine T_if hD (c1 := (50, _, _, _, _)) (c2 := (59, _, _, _, _)) rfl (fun _ => ?_) (fun _ => ?_)
    · refine T_run hD 3 (c' := (55, [(18, 130), (0, x1)], [(0, x1), (31, 151)], mup m 130 0 s1, XX)) rfl ?_
      refine T_gd hD (c1 := (56, [(18, 130), (0, x1)], [(0, m 151 x1)], mup m 130 0 s1, XX)) rfl (fun g1 => ?_)
      refine T_run hD 1 (c' := (65, [(18, 130), (0, x1)], [(0, m 151 x1)], mup m 130 0 s1, XX)) rfl ?_
      exact T_fin hD rfl (fun h => h)
    · refine T_run hD 3 (c' := (64, [(18, 130), (0, x1)], [(0, x1), (31, 152)], mup m 130 0 s1, XX)) rfl ?_
      refine T_gd hD (c1 := (65, [(18, 130), (0, x1)], [(0, m 152 x1)], mup m 130 0 s1, XX)) rfl (fun g2 => ?_)
      exact T_fin hD rfl (fun h => h)
def fM_line (m : aM) (x1 : Int) : Option (Int × aM) :=
  if m 130 37 < 0 then
    fM_line_29 m x1 1
  else
    if x1 < 0 then
      fM_line_29 m x1 2
    else
      if x1 < m 130 37 then
        fM_line_29 m x1 0
      else
        fM_line_29 m x1 2
set_option maxRecDepth 100000 in
theorem tM_line (m : aM) (x1 : Int) : ∀ v, fM_line m x1 = some v → Go PB 1 83 (aEnt d_M_line [(18, 130), (0, x1)] m XX) (1, (0, v.1), v.2, XX) := by
  intro v hv
  have hD : aMd PB 83 = d_M_line := rfl
  obtain ⟨r, hr⟩ : ∃ r : aR, r = (1, (0, v.1), v.2, XX) := ⟨_, rfl⟩
  have h9 : aT PB 1 83 r (fun w => r = (1, (0, w.1), w.2, XX)) (fM_line m x1) (0, [(18, 130), (0, x1)], [], m, XX) := by
    unfold fM_line
    refine T_run hD 3 (c' := (5, [(18, 130), (0, x1)], [(0, m 130 37), (18, 130)], m, XX)) rfl ?_
    refine T_if hD (c1 := (8, _, _, _, _)) (c2 := (12, _, _, _, _)) rfl (fun _ => ?_) (fun _ => ?_)
    · refine T_run hD 2 (c' := (29, [(18, 130), (0, x1)], [(0, 1), (18, 130)], m, XX)) rfl ?_
      exact tM_line_29 r m x1 1 
    · refine T_run hD 1 (c' := (13, [(18, 130), (0, x1)], [(0, x1), (18, 130)], m, XX)) rfl ?_
      refine T_if hD (c1 := (24, _, _, _, _)) (c2 := (16, _, _, _, _)) rfl (fun _ => ?_) (fun _ => ?_)
      · refine T_run hD 2 (c' := (29, [(18, 130), (0, x1)], [(0, 2), (18, 130)], m, XX)) rfl ?_
        exact tM_line_29 r m x1 2 
      · refine T_run hD 3 (c' := (21, [(18, 130), (0, x1)], [(0, m 130 37), (0, x1), (18, 130)], m, XX)) rfl ?_
        refine T_if hD (c1 := (28, _, _, _, _)) (c2 := (24, _, _, _, _)) rfl (fun _ => ?_) (fun _ => ?_)
        · refine T_run hD 1 (c' := (29, [(18, 130), (0, x1)], [(0, 0), (18, 130)], m, XX)) rfl ?_
          exact tM_line_29 r m x1 0 
        · refine T_run hD 2 (c' := (29, [(18, 130), (0, x1)], [(0, 2), (18, 130)], m, XX)) rfl ?_
          exact tM_line_29 r m x1 2 
  rw [← hr]
  exact h9 v hv hr
def fM_aggregate_78 (m : aM) (x1 : Int) (s1 : Int) : Option (Int × aM) :=
  if 0 < s1 then
    some ((0, mup m 130 0 s1))
  else
    if m 130 38 = 1 then
      gd (0 ≤ x1 ∧ x1 < 16) (
      some ((m 152 x1, mup m 130 0 s1)))
    else
      if m 130 38 = 2 then
        gd (0 ≤ x1 ∧ x1 < 16) (
        some ((m 153 x1, mup m 130 0 s1)))
      else
        gd (0 ≤ x1 ∧ x1 < 16) (
        gd (0 ≤ w32 ((w32 (6 * (m 154 x1))) + (m 130 40)) ∧ w32 ((w32 (6 * (m 154 x1))) + (m 130 40)) < 96) (
        some ((m 137 (w32 ((w32 (6 * (m 154 x1))) + (m 130 40))), mup m 130 0 s1))))
set_option maxRecDepth 100000 in
theorem tM_aggregate_78 (r : aR) (m : aM) (x1 : Int) (s1 : Int) : aT PB 1 84 r (fun w => r = (1, (1, w.1), w.2, XX)) (fM_aggregate_78 m x1 s1) (78, [(18, 130), (0, x1)], [(0, s1), (18, 130)], m, XX) := by
  have hD : aMd PB 84 = d_M_aggregate := rfl
  unfold fM_aggregate_78
  refine T_run hD 3 (c' := (85, [(18, 130), (0, x1)], [(0, s1)], mup m 130 0 s1, XX)) rfl ?_
  refine T_if hD (c1 := (88, _, _, _, _)) (c2 := (90, _, _, _, _)) rfl (fun _ => ?_) (fun _ => ?_)
  · refine T_run hD 1 (c' := (89, [(18, 130), (0, x1)], [(1, 0)], mup m 130 0 s1, XX)) rfl ?_
    exact T_fin hD rfl (fun h => h)
  · refine T_run hD 3 (c' := (95, [(18, 130), (0, x1)], [(0, 1), (0, m 130 38)], mup m 130 0 s1, XX)) rfl ?_
    refine T_if hD (c1 := (98, _, _, _, _)) (c2 := (108, _, _, _, _)) rfl (fun _ => ?_) (fun _ => ?_)
    · refine T_run hD 3 (c' := (103, [(18, 130), (0, x1)], [(0, x1), (31, 152)], mup m 130 0 s1, XX)) rfl ?_
      refine T_gd hD (c1 := (104, [(18, 130), (0, x1)], [(0, m 152 x1)], mup m 130 0 s1, XX)) rfl (fun g1 => ?_)
      refine T_run hD 2 (c' := (144, [(18, 130), (0, x1)], [(1, m 152 x1)], mup m 130 0 s1, XX)) rfl ?_
      exact T_fin hD rfl (fun h => h)
    · refine T_run hD 3 (c' := (113, [(18, 130), (0, x1)], [(0, 2), (0, m 130 38)], mup m 130 0 s1, XX)) rfl ?_
      refine T_if hD (c1 := (116, _, _, _, _)) (c2 := (125, _, _, _, _)) rfl (fun _ => ?_) (fun _ => ?_)
      · refine T_run hD 3 (c' := (121, [(18, 130), (0, x1)], [(0, x1), (32, 153)], mup m 130 0 s1, XX)) rfl ?_
        refine T_gd hD (c1 := (122, [(18, 130), (0, x1)], [(1, m 153 x1)], mup m 130 0 s1, XX)) rfl (fun g2 => ?_)
        refine T_run hD 1 (c' := (144, [(18, 130), (0, x1)], [(1, m 153 x1)], mup m 130 0 s1, XX)) rfl ?_
        exact T_fin hD rfl (fun h => h)
      · refine T_run hD 6 (c' := (136, [(18, 130), (0, x1)], [(0, x1), (31, 154), (0, 6), (32, 137)], mup m 130 0 s1, XX)) rfl ?_
        refine T_gd hD (c1 := (137, [(18, 130), (0, x1)], [(0, m 154 x1), (0, 6), (32, 137)], mup m 130 0 s1, XX)) rfl (fun g3 => ?_)
        refine T_run hD 4 (c' := (143, [(18, 130), (0, x1)], [(0, w32 ((w32 (6 * (m 154 x1))) + (m 130 40))), (32, 137)], mup m 130 0 s1, XX)) rfl ?_
        refine T_gd hD (c1 := (144, [(18, 130), (0, x1)], [(1, m 137 (w32 ((w32 (6 * (m 154 x1))) + (m 130 40))))], mup m 130 0 s1, XX)) rfl (fun g4 => ?_)
        exact T_fin hD rfl (fun h => h)
def fM_aggregate_40 (m : aM) (x1 : Int) : Option (Int × aM) :=
  if x1 < 0 then
    fM_aggregate_78 m x1 2
  else
    if x1 < m 130 37 then
      if 1 < m 130 38 then
        gd (0 ≤ x1 ∧ x1 < 16) (
        if m 154 x1 < 0 then
          fM_aggregate_78 m x1 3
        else
          fM_aggregate_78 m x1 0)
      else
        fM_aggregate_78 m x1 0
    else
      fM_aggregate_78 m x1 2
set_option maxRecDepth 100000 in
theorem tM_aggregate_40 (r : aR) (m : aM) (x1 : Int) : aT PB 1 84 r (fun w => r = (1, (1, w.1), w.2, XX)) (fM_aggregate_40 m x1) (40, [(18, 130), (0, x1)], [(18, 130)], m, XX) := by
  have hD : aMd PB 84 = d_M_aggregate := rfl
  unfold fM_aggregate_40
  refine T_run hD 1 (c' := (41, [(18, 130), (0, x1)], [(0, x1), (18, 130)], m, XX)) rfl ?_
  refine T_if hD (c1 := (52, _, _, _, _)) (c2 := (44, _, _, _, _)) rfl (fun _ => ?_) (fun _ => ?_)
  · refine T_run hD 2 (c' := (78, [(18, 130), (0, x1)], [(0, 2), (18, 130)], m, XX)) rfl ?_
    exact tM_aggregate_78 r m x1 2 
  · refine T_run hD 3 (c' := (49, [(18, 130), (0, x1)], [(0, m 130 37), (0, x1), (18, 130)], m, XX)) rfl ?_
    refine T_if hD (c1 := (56, _, _, _, _)) (c2 := (52, _, _, _, _)) rfl (fun _ => ?_) (fun _ => ?_)
    · refine T_run hD 3 (c' := (61, [(18, 130), (0, x1)], [(0, 1), (0, m 130 38), (18, 130)], m, XX)) rfl ?_
      refine T_if hD (c1 := (64, _, _, _, _)) (c2 := (77, _, _, _, _)) rfl (fun _ => ?_) (fun _ => ?_)
      · refine T_run hD 3 (c' := (69, [(18, 130), (0, x1)], [(0, x1), (31, 154), (18, 130)], m, XX)) rfl ?_
        refine T_gd hD (c1 := (70, [(18, 130), (0, x1)], [(0, m 154 x1), (18, 130)], m, XX)) rfl (fun g6 => ?_)
        refine T_if hD (c1 := (73, _, _, _, _)) (c2 := (77, _, _, _, _)) rfl (fun _ => ?_) (fun _ => ?_)
        · refine T_run hD 2 (c' := (78, [(18, 130), (0, x1)], [(0, 3), (18, 130)], m, XX)) rfl ?_
          exact tM_aggregate_78 r m x1 3 
        · refine T_run hD 1 (c' := (78, [(18, 130), (0, x1)], [(0, 0), (18, 130)], m, XX)) rfl ?_
          exact tM_aggregate_78 r m x1 0 
      · refine T_run hD 1 (c' := (78, [(18, 130), (0, x1)], [(0, 0), (18, 130)], m, XX)) rfl ?_
        exact tM_aggregate_78 r m x1 0 
    · refine T_run hD 2 (c' := (78, [(18, 130), (0, x1)], [(0, 2), (18, 130)], m, XX)) rfl ?_
      exact tM_aggregate_78 r m x1 2 
def fM_aggregate (m : aM) (x1 : Int) : Option (Int × aM) :=
  if m 130 37 < 0 then
    fM_aggregate_78 m x1 1
  else
    if m 130 38 = 0 then
      fM_aggregate_78 m x1 1
    else
      if 2 < m 130 38 then
        gd (0 ≤ m 130 40 ∧ m 130 40 < 6) (
        if m 133 (m 130 40) = 3 then
          fM_aggregate_78 m x1 1
        else
          fM_aggregate_40 m x1)
      else
        fM_aggregate_40 m x1
set_option maxRecDepth 100000 in
theorem tM_aggregate (m : aM) (x1 : Int) : ∀ v, fM_aggregate m x1 = some v → Go PB 1 84 (aEnt d_M_aggregate [(18, 130), (0, x1)] m XX) (1, (1, v.1), v.2, XX) := by
  intro v hv
  have hD : aMd PB 84 = d_M_aggregate := rfl
  obtain ⟨r, hr⟩ : ∃ r : aR, r = (1, (1, v.1), v.2, XX) := ⟨_, rfl⟩
  have h9 : aT PB 1 84 r (fun w => r = (1, (1, w.1), w.2, XX)) (fM_aggregate m x1) (0, [(18, 130), (0, x1)], [], m, XX) := by
    unfold fM_aggregate
    refine T_run hD 3 (c' := (5, [(18, 130), (0, x1)], [(0, m 130 37), (18, 130)], m, XX)) rfl ?_
    refine T_if hD (c1 := (36, _, _, _, _)) (c2 := (8, _, _, _, _)) rfl (fun _ => ?_) (fun _ => ?_)
    · refine T_run hD 2 (c' := (78, [(18, 130), (0, x1)], [(0, 1), (18, 130)], m, XX)) rfl ?_
      exact tM_aggregate_78 r m x1 1 
    · refine T_run hD 2 (c' := (12, [(18, 130), (0, x1)], [(0, m 130 38), (18, 130)], m, XX)) rfl ?_
      refine T_if hD (c1 := (36, _, _, _, _)) (c2 := (15, _, _, _, _)) rfl (fun _ => ?_) (fun _ => ?_)
      · refine T_run hD 2 (c' := (78, [(18, 130), (0, x1)], [(0, 1), (18, 130)], m, XX)) rfl ?_
        exact tM_aggregate_78 r m x1 1 
      · refine T_run hD 3 (c' := (20, [(18, 130), (0, x1)], [(0, 2), (0, m 130 38), (18, 130)], m, XX)) rfl ?_
        refine T_if hD (c1 := (23, _, _, _, _)) (c2 := (40, _, _, _, _)) rfl (fun _ => ?_) (fun _ => ?_)
        · refine T_run hD 4 (c' := (31, [(18, 130), (0, x1)], [(0, m 130 40), (31, 133), (18, 130)], m, XX)) rfl ?_
          refine T_gd hD (c1 := (32, [(18, 130), (0, x1)], [(0, m 133 (m 130 40)), (18, 130)], m, XX)) rfl (fun g5 => ?_)
          refine T_run hD 1 (c' := (33, [(18, 130), (0, x1)], [(0, 3), (0, m 133 (m 130 40)), (18, 130)], m, XX)) rfl ?_
          refine T_if hD (c1 := (36, _, _, _, _)) (c2 := (40, _, _, _, _)) rfl (fun _ => ?_) (fun _ => ?_)
          · refine T_run hD 2 (c' := (78, [(18, 130), (0, x1)], [(0, 1), (18, 130)], m, XX)) rfl ?_
            exact tM_aggregate_78 r m x1 1 
          · exact tM_aggregate_40 r m x1 
        · exact tM_aggregate_40 r m x1 
  rw [← hr]
  exact h9 v hv hr
def fM_say (m : aM) (x1 : Int) : Option aM :=
  gd (0 ≤ m 130 45 ∧ m 130 45 < 2000) (
  some (mup (mup m 155 (m 130 45) x1) 130 45 (w32 ((m 130 45) + 1))))
set_option maxRecDepth 100000 in
theorem tM_say (m : aM) (x1 : Int) : ∀ v, fM_say m x1 = some v → Go PB 1 85 (aEnt d_M_say [(18, 130), (0, x1)] m XX) (0, (0, 0), v, XX) := by
  intro v hv
  have hD : aMd PB 85 = d_M_say := rfl
  obtain ⟨r, hr⟩ : ∃ r : aR, r = (0, (0, 0), v, XX) := ⟨_, rfl⟩
  have h9 : aT PB 1 85 r (fun w => r = (0, (0, 0), w, XX)) (fM_say m x1) (0, [(18, 130), (0, x1)], [], m, XX) := by
    unfold fM_say
    refine T_run hD 5 (c' := (9, [(18, 130), (0, x1)], [(0, x1), (0, m 130 45), (31, 155)], m, XX)) rfl ?_
    refine T_gd hD (c1 := (10, [(18, 130), (0, x1)], [], mup m 155 (m 130 45) x1, XX)) rfl (fun g1 => ?_)
    refine T_run hD 6 (c' := (20, [(18, 130), (0, x1)], [], mup (mup m 155 (m 130 45) x1) 130 45 (w32 ((m 130 45) + 1)), XX)) rfl ?_
    exact T_fin hD rfl (fun h => h)
  rw [← hr]
  exact h9 v hv hr
abbrev hM_sayWord_2 : (aM × Int) → aC → Prop := fun y c => ∃ (z1 : aV) (z2 : aV) (z4 : aV), c = (2, [(18, 130), z1, z2, (1, (y.2)), z4], [], (y.1), XX)
def fM_sayWord_2_b : (aM × Int) → Option ((aM × Int) ⊕ aM) := fun (m, x3) =>
  if cmp3 x3 0 = 0 then
    some (Sum.inr (m))
  else
    (fM_say m (w32 (lAnd x3 255))).bind fun v1 =>
    some (Sum.inl (v1, lShr x3 8))
def fM_sayWord_2 (m : aM) (x3 : Int) : Option aM := aLoop (fM_sayWord_2_b ) FU (m, x3)
set_option maxRecDepth 100000 in
theorem tM_sayWord_2 (r : aR) (m : aM) (x3 : Int) (z1 : aV) (z2 : aV) (z4 : aV) : aT PB 2 86 r (fun w => r = (0, (0, 0), w, XX)) (fM_sayWord_2 m x3) (2, [(18, 130), z1, z2, (1, x3), z4], [], m, XX) := by
  have hD : aMd PB 86 = d_M_sayWord := rfl
  refine T_loop (Hd := (hM_sayWord_2 )) ?_ FU _ _ ⟨z1, z2, z4, rfl⟩
  clear m x3 z1 z2 z4
  intro y c hc
  obtain ⟨m, x3⟩ := y
  obtain ⟨z1, z2, z4, rfl⟩ := hc
  unfold fM_sayWord_2_b
  try dsimp only
  refine T_run hD 3 (c' := (5, [(18, 130), z1, z2, (1, x3), z4], [(0, cmp3 x3 0)], m, XX)) rfl ?_
  refine T_if hD (c1 := (26, _, _, _, _)) (c2 := (8, _, _, _, _)) rfl (fun _ => ?_) (fun _ => ?_)
  · exact T_fin hD rfl (fun h => h)
  · refine T_run hD 5 (c' := (15, [(18, 130), z1, z2, (1, x3), z4], [(0, w32 (lAnd x3 255)), (18, 130)], m, XX)) rfl ?_
    refine T_call hD (D2 := d_M_say) (q2 := 85) (as := [(18, 130), (0, w32 (lAnd x3 255))]) (c1 := (18, [(18, 130), z1, z2, (1, x3), z4], [], m, XX)) (mk := fun w => (0, (0, 0), w, XX)) (cc := fun v1 => (18, [(18, 130), z1, z2, (1, x3), z4], [], v1, XX)) rfl rfl (fun y9 h9y => Go.mono (tM_say m (w32 (lAnd x3 255)) y9 h9y) (by decide)) (fun _ => rfl) (fun v1 => ?_)
    refine T_run hD 5 (c' := (2, [(18, 130), z1, aJ z2, (1, lShr x3 8), (99, 0)], [], v1, XX)) rfl ?_
    exact T_back0 ⟨_, _, _, rfl⟩
def fM_sayWord (m : aM) (x1 : Int) : Option aM :=
  fM_sayWord_2 m x1
set_option maxRecDepth 100000 in
theorem tM_sayWord (m : aM) (x1 : Int) : ∀ v, fM_sayWord m x1 = some v → Go PB 2 86 (aEnt d_M_sayWord [(18, 130), (1, x1)] m XX) (0, (0, 0), v, XX) := by
  intro v hv
  have hD : aMd PB 86 = d_M_sayWord := rfl
  obtain ⟨r, hr⟩ : ∃ r : aR, r = (0, (0, 0), v, XX) := ⟨_, rfl⟩
  have h9 : aT PB 2 86 r (fun w => r = (0, (0, 0), w, XX)) (fM_sayWord m x1) (0, [(18, 130), (1, x1), (99, 0), (99, 0), (99, 0)], [], m, XX) := by
    unfold fM_sayWord
    refine T_run hD 2 (c' := (2, [(18, 130), (1, x1), (99, 0), (1, x1), (99, 0)], [], m, XX)) rfl ?_
    exact tM_sayWord_2 r m x1 (1, x1) (99, 0) (99, 0)
  rw [← hr]
  exact h9 v hv hr
abbrev hM_sayNumber_14 (m : aM) (x1 : Int) : (Int) → aC → Prop := fun y c => ∃ (z2 : aV) (z4 : aV) (z5 : aV) (z6 : aV), c = (14, [(18, 130), (1, x1), z2, (1, (y)), z4, z5, z6], [], m, XX)
abbrev hM_sayNumber_43 (x1 : Int) : (aM × Int) → aC → Prop := fun y c => ∃ (z2 : aV) (z4 : aV) (z5 : aV) (z6 : aV), c = (43, [(18, 130), (1, x1), z2, (1, (y.2)), z4, z5, z6], [], (y.1), XX)
def fM_sayNumber_77 (m : aM) (x1 : Int) (x3 : Int) (s1 : Int) (s2 : Int) : Option ((aM × Int) ⊕ aM) :=
  (fM_say m (w32 (w64 (s1 + s2)))).bind fun v4 =>
  some (Sum.inl (v4, w64 (Int.tdiv x3 10)))
set_option maxRecDepth 100000 in
theorem tM_sayNumber_77 (r : aR) (m : aM) (x1 : Int) (x3 : Int) (s1 : Int) (s2 : Int) (z2 : aV) (z4 : aV) (z5 : aV) (z6 : aV) : aT PB 2 87 r (aTurn PB 2 87 r (hM_sayNumber_43 x1) (fun w => r = (0, (0, 0), w, XX))) (fM_sayNumber_77 m x1 x3 s1 s2) (77, [(18, 130), (1, x1), z2, (1, x3), z4, z5, z6], [(1, s2), (1, s1), (18, 130)], m, XX) := by
  have hD : aMd PB 87 = d_M_sayNumber := rfl
  unfold fM_sayNumber_77
  refine T_run hD 2 (c' := (79, [(18, 130), (1, x1), z2, (1, x3), z4, z5, z6], [(0, w32 (w64 (s1 + s2))), (18, 130)], m, XX)) rfl ?_
  refine T_call hD (D2 := d_M_say) (q2 := 85) (as := [(18, 130), (0, w32 (w64 (s1 + s2)))]) (c1 := (82, [(18, 130), (1, x1), z2, (1, x3), z4, z5, z6], [], m, XX)) (mk := fun w => (0, (0, 0), w, XX)) (cc := fun v4 => (82, [(18, 130), (1, x1), z2, (1, x3), z4, z5, z6], [], v4, XX)) rfl rfl (fun y9 h9y => Go.mono (tM_say m (w32 (w64 (s1 + s2))) y9 h9y) (by decide)) (fun _ => rfl) (fun v4 => ?_)
  refine T_run hD 5 (c' := (43, [(18, 130), (1, x1), aJ z2, (1, w64 (Int.tdiv x3 10)), (99, 0), z5, z6], [], v4, XX)) rfl ?_
  exact T_back0 ⟨_, _, _, _, rfl⟩
def fM_sayNumber_43_b (x1 : Int) : (aM × Int) → Option ((aM × Int) ⊕ aM) := fun (m, x3) =>
  if 0 < cmp3 x3 0 then
    if x3 = 0 then none else (
    if cmp3 (Int.tmod (w64 (Int.tdiv x1 x3)) 10) 0 < 0 then
      fM_sayNumber_77 m x1 x3 48 (w64 (-(Int.tmod (w64 (Int.tdiv x1 x3)) 10)))
    else
      fM_sayNumber_77 m x1 x3 48 (Int.tmod (w64 (Int.tdiv x1 x3)) 10))
  else
    some (Sum.inr (m))
def fM_sayNumber_43 (m : aM) (x1 : Int) (x3 : Int) : Option aM := aLoop (fM_sayNumber_43_b x1) FU (m, x3)
set_option maxRecDepth 100000 in
theorem tM_sayNumber_43 (r : aR) (m : aM) (x1 : Int) (x3 : Int) (z2 : aV) (z4 : aV) (z5 : aV) (z6 : aV) : aT PB 2 87 r (fun w => r = (0, (0, 0), w, XX)) (fM_sayNumber_43 m x1 x3) (43, [(18, 130), (1, x1), z2, (1, x3), z4, z5, z6], [], m, XX) := by
  have hD : aMd PB 87 = d_M_sayNumber := rfl
  refine T_loop (Hd := (hM_sayNumber_43 x1)) ?_ FU _ _ ⟨z2, z4, z5, z6, rfl⟩
  clear m x3 z2 z4 z5 z6
  intro y c hc
  obtain ⟨m, x3⟩ := y
  obtain ⟨z2, z4, z5, z6, rfl⟩ := hc
  unfold fM_sayNumber_43_b
  try dsimp only
  refine T_run hD 3 (c' := (46, [(18, 130), (1, x1), z2, (1, x3), z4, z5, z6], [(0, cmp3 x3 0)], m, XX)) rfl ?_
  refine T_if hD (c1 := (49, _, _, _, _)) (c2 := (91, _, _, _, _)) rfl (fun _ => ?_) (fun _ => ?_)
  · refine T_run hD 2 (c' := (51, [(18, 130), (1, x1), z2, (1, x3), z4, z5, z6], [(1, x3), (1, x1)], m, XX)) rfl ?_
    refine T_gn hD (c1 := (52, [(18, 130), (1, x1), z2, (1, x3), z4, z5, z6], [(1, w64 (Int.tdiv x1 x3))], m, XX)) rfl (fun g3 => ?_)
    refine T_run hD 8 (c' := (66, [(18, 130), (1, x1), z2, (1, x3), aJ z4, (1, Int.tmod (w64 (Int.tdiv x1 x3)) 10), (99, 0)], [(0, cmp3 (Int.tmod (w64 (Int.tdiv x1 x3)) 10) 0), (1, 48), (18, 130)], m, XX)) rfl ?_
    refine T_if hD (c1 := (69, _, _, _, _)) (c2 := (75, _, _, _, _)) rfl (fun _ => ?_) (fun _ => ?_)
    · refine T_run hD 3 (c' := (77, [(18, 130), (1, x1), z2, (1, x3), aJ z4, (1, Int.tmod (w64 (Int.tdiv x1 x3)) 10), (99, 0)], [(1, w64 (-(Int.tmod (w64 (Int.tdiv x1 x3)) 10))), (1, 48), (18, 130)], m, XX)) rfl ?_
      exact tM_sayNumber_77 r m x1 x3 48 (w64 (-(Int.tmod (w64 (Int.tdiv x1 x3)) 10))) z2 (aJ z4) (1, Int.tmod (w64 (Int.tdiv x1 x3)) 10) (99, 0)
    · refine T_run hD 1 (c' := (77, [(18, 130), (1, x1), z2, (1, x3), aJ z4, (1, Int.tmod (w64 (Int.tdiv x1 x3)) 10), (99, 0)], [(1, Int.tmod (w64 (Int.tdiv x1 x3)) 10), (1, 48), (18, 130)], m, XX)) rfl ?_
      exact tM_sayNumber_77 r m x1 x3 48 (Int.tmod (w64 (Int.tdiv x1 x3)) 10) z2 (aJ z4) (1, Int.tmod (w64 (Int.tdiv x1 x3)) 10) (99, 0)
  · exact T_fin hD rfl (fun h => h)
def fM_sayNumber_14_b (m : aM) (x1 : Int) : (Int) → Option ((Int) ⊕ aM) := fun (x3) =>
  if x3 = 0 then none else (
  if 0 < cmp3 (w64 (Int.tdiv x1 x3)) 9 then
    some (Sum.inl (w64 (10 * x3)))
  else
    if cmp3 (w64 (Int.tdiv x1 x3)) (-9) < 0 then
      some (Sum.inl (w64 (10 * x3)))
    else
      (fM_sayNumber_43 m x1 x3).map Sum.inr)
def fM_sayNumber_14 (m : aM) (x1 : Int) (x3 : Int) : Option aM := aLoop (fM_sayNumber_14_b m x1) FU (x3)
set_option maxRecDepth 100000 in
theorem tM_sayNumber_14 (r : aR) (m : aM) (x1 : Int) (x3 : Int) (z2 : aV) (z4 : aV) (z5 : aV) (z6 : aV) : aT PB 2 87 r (fun w => r = (0, (0, 0), w, XX)) (fM_sayNumber_14 m x1 x3) (14, [(18, 130), (1, x1), z2, (1, x3), z4, z5, z6], [], m, XX) := by
  have hD : aMd PB 87 = d_M_sayNumber := rfl
  refine T_loop (Hd := (hM_sayNumber_14 m x1)) ?_ FU _ _ ⟨z2, z4, z5, z6, rfl⟩
  clear x3 z2 z4 z5 z6
  intro x3 c hc
  obtain ⟨z2, z4, z5, z6, rfl⟩ := hc
  unfold fM_sayNumber_14_b
  try dsimp only
  refine T_run hD 2 (c' := (16, [(18, 130), (1, x1), z2, (1, x3), z4, z5, z6], [(1, x3), (1, x1)], m, XX)) rfl ?_
  refine T_gn hD (c1 := (17, [(18, 130), (1, x1), z2, (1, x3), z4, z5, z6], [(1, w64 (Int.tdiv x1 x3))], m, XX)) rfl (fun g2 => ?_)
  refine T_run hD 2 (c' := (21, [(18, 130), (1, x1), z2, (1, x3), z4, z5, z6], [(0, cmp3 (w64 (Int.tdiv x1 x3)) 9)], m, XX)) rfl ?_
  refine T_if hD (c1 := (34, _, _, _, _)) (c2 := (24, _, _, _, _)) rfl (fun _ => ?_) (fun _ => ?_)
  · refine T_run hD 5 (c' := (14, [(18, 130), (1, x1), aJ z2, (1, w64 (10 * x3)), (99, 0), z5, z6], [], m, XX)) rfl ?_
    exact T_back0 ⟨_, _, _, _, rfl⟩
  · refine T_run hD 2 (c' := (26, [(18, 130), (1, x1), z2, (1, x3), z4, z5, z6], [(1, x3), (1, x1)], m, XX)) rfl ?_
    refine T_gnk hD (c1 := (27, [(18, 130), (1, x1), z2, (1, x3), z4, z5, z6], [(1, w64 (Int.tdiv x1 x3))], m, XX)) (P := x3 = 0) rfl g2 ?_
    refine T_run hD 2 (c' := (31, [(18, 130), (1, x1), z2, (1, x3), z4, z5, z6], [(0, cmp3 (w64 (Int.tdiv x1 x3)) (-9))], m, XX)) rfl ?_
    refine T_if hD (c1 := (34, _, _, _, _)) (c2 := (43, _, _, _, _)) rfl (fun _ => ?_) (fun _ => ?_)
    · refine T_run hD 5 (c' := (14, [(18, 130), (1, x1), aJ z2, (1, w64 (10 * x3)), (99, 0), z5, z6], [], m, XX)) rfl ?_
      exact T_back0 ⟨_, _, _, _, rfl⟩
    · exact T_map (tM_sayNumber_43 r m x1 x3 z2 z4 z5 z6)
def fM_sayNumber (m : aM) (x1 : Int) : Option aM :=
  if cmp3 x1 0 < 0 then
    (fM_say m 45).bind fun v1 =>
    fM_sayNumber_14 v1 x1 1
  else
    fM_sayNumber_14 m x1 1
set_option maxRecDepth 100000 in
theorem tM_sayNumber (m : aM) (x1 : Int) : ∀ v, fM_sayNumber m x1 = some v → Go PB 2 87 (aEnt d_M_sayNumber [(18, 130), (1, x1)] m XX) (0, (0, 0), v, XX) := by
  intro v hv
  have hD : aMd PB 87 = d_M_sayNumber := rfl
  obtain ⟨r, hr⟩ : ∃ r : aR, r = (0, (0, 0), v, XX) := ⟨_, rfl⟩
  have h9 : aT PB 2 87 r (fun w => r = (0, (0, 0), w, XX)) (fM_sayNumber m x1) (0, [(18, 130), (1, x1), (99, 0), (99, 0), (99, 0), (99, 0), (99, 0)], [], m, XX) := by
    unfold fM_sayNumber
    refine T_run hD 3 (c' := (3, [(18, 130), (1, x1), (99, 0), (99, 0), (99, 0), (99, 0), (99, 0)], [(0, cmp3 x1 0)], m, XX)) rfl ?_
    refine T_if hD (c1 := (6, _, _, _, _)) (c2 := (12, _, _, _, _)) rfl (fun _ => ?_) (fun _ => ?_)
    · refine T_run hD 2 (c' := (9, [(18, 130), (1, x1), (99, 0), (99, 0), (99, 0), (99, 0), (99, 0)], [(0, 45), (18, 130)], m, XX)) rfl ?_
      refine T_call hD (D2 := d_M_say) (q2 := 85) (as := [(18, 130), (0, 45)]) (c1 := (12, [(18, 130), (1, x1), (99, 0), (99, 0), (99, 0), (99, 0), (99, 0)], [], m, XX)) (mk := fun w => (0, (0, 0), w, XX)) (cc := fun v1 => (12, [(18, 130), (1, x1), (99, 0), (99, 0), (99, 0), (99, 0), (99, 0)], [], v1, XX)) rfl rfl (fun y9 h9y => Go.mono (tM_say m 45 y9 h9y) (by decide)) (fun _ => rfl) (fun v1 => ?_)
      refine T_run hD 2 (c' := (14, [(18, 130), (1, x1), (99, 0), (1, 1), (99, 0), (99, 0), (99, 0)], [], v1, XX)) rfl ?_
      exact tM_sayNumber_14 r v1 x1 1 (99, 0) (99, 0) (99, 0) (99, 0)
    · refine T_run hD 2 (c' := (14, [(18, 130), (1, x1), (99, 0), (1, 1), (99, 0), (99, 0), (99, 0)], [], m, XX)) rfl ?_
      exact tM_sayNumber_14 r m x1 1 (99, 0) (99, 0) (99, 0) (99, 0)
  rw [← hr]
  exact h9 v hv hr
abbrev hM_sayCell_86 (m : aM) (x2 : Int) (x4 : Int) (x5 : Int) : (Int × Int) → aC → Prop := fun y c => ∃ (z1 : aV) (z3 : aV), c = (86, [(18, 130), z1, (0, x2), z3, (0, x4), (0, x5), (0, (y.1)), (0, (y.2))], [], m, XX)
abbrev hM_sayCell_184 (x5 : Int) (x6 : Int) : (aM × Int) → aC → Prop := fun y c => ∃ (z1 : aV) (z2 : aV) (z3 : aV) (z4 : aV), c = (184, [(18, 130), z1, z2, z3, z4, (0, x5), (0, x6), (0, (y.2))], [], (y.1), XX)
def fM_sayCell_209 (m : aM) (x5 : Int) (x6 : Int) (x7 : Int) : Option ((aM × Int) ⊕ aM) :=
  gd (0 ≤ x7 ∧ x7 < 600) (
  (fM_say m (m 131 x7)).bind fun v9 =>
  some (Sum.inl (v9, w32 (x7 + 1))))
set_option maxRecDepth 100000 in
theorem tM_sayCell_209 (r : aR) (m : aM) (x5 : Int) (x6 : Int) (x7 : Int) (z1 : aV) (z2 : aV) (z3 : aV) (z4 : aV) : aT PB 4 88 r (aTurn PB 4 88 r (hM_sayCell_184 x5 x6) (fun w => r = (0, (0, 0), w, XX))) (fM_sayCell_209 m x5 x6 x7) (209, [(18, 130), z1, z2, z3, z4, (0, x5), (0, x6), (0, x7)], [], m, XX) := by
  have hD : aMd PB 88 = d_M_sayCell := rfl
  unfold fM_sayCell_209
  refine T_run hD 4 (c' := (216, [(18, 130), z1, z2, z3, z4, (0, x5), (0, x6), (0, x7)], [(0, x7), (31, 131), (18, 130)], m, XX)) rfl ?_
  refine T_gd hD (c1 := (217, [(18, 130), z1, z2, z3, z4, (0, x5), (0, x6), (0, x7)], [(0, m 131 x7), (18, 130)], m, XX)) rfl (fun g8 => ?_)
  refine T_call hD (D2 := d_M_say) (q2 := 85) (as := [(18, 130), (0, m 131 x7)]) (c1 := (220, [(18, 130), z1, z2, z3, z4, (0, x5), (0, x6), (0, x7)], [], m, XX)) (mk := fun w => (0, (0, 0), w, XX)) (cc := fun v9 => (220, [(18, 130), z1, z2, z3, z4, (0, x5), (0, x6), (0, x7)], [], v9, XX)) rfl rfl (fun y9 h9y => Go.mono (tM_say m (m 131 x7) y9 h9y) (by decide)) (fun _ => rfl) (fun v9 => ?_)
  refine T_run hD 2 (c' := (184, [(18, 130), z1, z2, z3, z4, (0, x5), (0, x6), (0, w32 (x7 + 1))], [], v9, XX)) rfl ?_
  exact T_back0 ⟨_, _, _, _, rfl⟩
def fM_sayCell_184_b (x5 : Int) (x6 : Int) : (aM × Int) → Option ((aM × Int) ⊕ aM) := fun (m, x7) =>
  if x7 < x5 then
    gd (0 ≤ x7 ∧ x7 < 600) (
    if m 131 x7 = 34 then
      (fM_say m 34).bind fun v7 =>
      fM_sayCell_209 v7 x5 x6 x7
    else
      fM_sayCell_209 m x5 x6 x7)
  else
    if x6 = 0 then
      some (Sum.inr (m))
    else
      (fM_say m 34).bind fun v10 =>
      some (Sum.inr (v10))
def fM_sayCell_184 (m : aM) (x5 : Int) (x6 : Int) (x7 : Int) : Option aM := aLoop (fM_sayCell_184_b x5 x6) FU (m, x7)
set_option maxRecDepth 100000 in
theorem tM_sayCell_184 (r : aR) (m : aM) (x5 : Int) (x6 : Int) (x7 : Int) (z1 : aV) (z2 : aV) (z3 : aV) (z4 : aV) : aT PB 4 88 r (fun w => r = (0, (0, 0), w, XX)) (fM_sayCell_184 m x5 x6 x7) (184, [(18, 130), z1, z2, z3, z4, (0, x5), (0, x6), (0, x7)], [], m, XX) := by
  have hD : aMd PB 88 = d_M_sayCell := rfl
  refine T_loop (Hd := (hM_sayCell_184 x5 x6)) ?_ FU _ _ ⟨z1, z2, z3, z4, rfl⟩
  clear m x7 z1 z2 z3 z4
  intro y c hc
  obtain ⟨m, x7⟩ := y
  obtain ⟨z1, z2, z3, z4, rfl⟩ := hc
  unfold fM_sayCell_184_b
  try dsimp only
  refine T_run hD 2 (c' := (188, [(18, 130), z1, z2, z3, z4, (0, x5), (0, x6), (0, x7)], [(0, x5), (0, x7)], m, XX)) rfl ?_
  refine T_if hD (c1 := (191, _, _, _, _)) (c2 := (226, _, _, _, _)) rfl (fun _ => ?_) (fun _ => ?_)
  · refine T_run hD 3 (c' := (197, [(18, 130), z1, z2, z3, z4, (0, x5), (0, x6), (0, x7)], [(0, x7), (31, 131)], m, XX)) rfl ?_
    refine T_gd hD (c1 := (198, [(18, 130), z1, z2, z3, z4, (0, x5), (0, x6), (0, x7)], [(0, m 131 x7)], m, XX)) rfl (fun g6 => ?_)
    refine T_run hD 1 (c' := (200, [(18, 130), z1, z2, z3, z4, (0, x5), (0, x6), (0, x7)], [(0, 34), (0, m 131 x7)], m, XX)) rfl ?_
    refine T_if hD (c1 := (203, _, _, _, _)) (c2 := (209, _, _, _, _)) rfl (fun _ => ?_) (fun _ => ?_)
    · refine T_run hD 2 (c' := (206, [(18, 130), z1, z2, z3, z4, (0, x5), (0, x6), (0, x7)], [(0, 34), (18, 130)], m, XX)) rfl ?_
      refine T_call hD (D2 := d_M_say) (q2 := 85) (as := [(18, 130), (0, 34)]) (c1 := (209, [(18, 130), z1, z2, z3, z4, (0, x5), (0, x6), (0, x7)], [], m, XX)) (mk := fun w => (0, (0, 0), w, XX)) (cc := fun v7 => (209, [(18, 130), z1, z2, z3, z4, (0, x5), (0, x6), (0, x7)], [], v7, XX)) rfl rfl (fun y9 h9y => Go.mono (tM_say m 34 y9 h9y) (by decide)) (fun _ => rfl) (fun v7 => ?_)
      exact tM_sayCell_209 r v7 x5 x6 x7 z1 z2 z3 z4
    · exact tM_sayCell_209 r m x5 x6 x7 z1 z2 z3 z4
  · refine T_run hD 1 (c' := (228, [(18, 130), z1, z2, z3, z4, (0, x5), (0, x6), (0, x7)], [(0, x6)], m, XX)) rfl ?_
    refine T_if hD (c1 := (237, _, _, _, _)) (c2 := (231, _, _, _, _)) rfl (fun _ => ?_) (fun _ => ?_)
    · exact T_fin hD rfl (fun h => h)
    · refine T_run hD 2 (c' := (234, [(18, 130), z1, z2, z3, z4, (0, x5), (0, x6), (0, x7)], [(0, 34), (18, 130)], m, XX)) rfl ?_
      refine T_call hD (D2 := d_M_say) (q2 := 85) (as := [(18, 130), (0, 34)]) (c1 := (237, [(18, 130), z1, z2, z3, z4, (0, x5), (0, x6), (0, x7)], [], m, XX)) (mk := fun w => (0, (0, 0), w, XX)) (cc := fun v10 => (237, [(18, 130), z1, z2, z3, z4, (0, x5), (0, x6), (0, x7)], [], v10, XX)) rfl rfl (fun y9 h9y => Go.mono (tM_say m 34 y9 h9y) (by decide)) (fun _ => rfl) (fun v10 => ?_)
      exact T_fin hD rfl (fun h => h)
def fM_sayCell_169 (m : aM) (x4 : Int) (x5 : Int) (x6 : Int) : Option aM :=
  if x6 = 0 then
    fM_sayCell_184 m x5 x6 x4
  else
    (fM_say m 34).bind fun v11 =>
    fM_sayCell_184 v11 x5 x6 x4
set_option maxRecDepth 100000 in
theorem tM_sayCell_169 (r : aR) (m : aM) (x4 : Int) (x5 : Int) (x6 : Int) (z1 : aV) (z2 : aV) (z3 : aV) (z7 : aV) : aT PB 4 88 r (fun w => r = (0, (0, 0), w, XX)) (fM_sayCell_169 m x4 x5 x6) (169, [(18, 130), z1, z2, z3, (0, x4), (0, x5), (0, x6), z7], [], m, XX) := by
  have hD : aMd PB 88 = d_M_sayCell := rfl
  unfold fM_sayCell_169
  refine T_run hD 1 (c' := (171, [(18, 130), z1, z2, z3, (0, x4), (0, x5), (0, x6), z7], [(0, x6)], m, XX)) rfl ?_
  refine T_if hD (c1 := (180, _, _, _, _)) (c2 := (174, _, _, _, _)) rfl (fun _ => ?_) (fun _ => ?_)
  · refine T_run hD 2 (c' := (184, [(18, 130), z1, z2, z3, (0, x4), (0, x5), (0, x6), (0, x4)], [], m, XX)) rfl ?_
    exact tM_sayCell_184 r m x5 x6 x4 z1 z2 z3 (0, x4)
  · refine T_run hD 2 (c' := (177, [(18, 130), z1, z2, z3, (0, x4), (0, x5), (0, x6), z7], [(0, 34), (18, 130)], m, XX)) rfl ?_
    refine T_call hD (D2 := d_M_say) (q2 := 85) (as := [(18, 130), (0, 34)]) (c1 := (180, [(18, 130), z1, z2, z3, (0, x4), (0, x5), (0, x6), z7], [], m, XX)) (mk := fun w => (0, (0, 0), w, XX)) (cc := fun v11 => (180, [(18, 130), z1, z2, z3, (0, x4), (0, x5), (0, x6), z7], [], v11, XX)) rfl rfl (fun y9 h9y => Go.mono (tM_say m 34 y9 h9y) (by decide)) (fun _ => rfl) (fun v11 => ?_)
    refine T_run hD 2 (c' := (184, [(18, 130), z1, z2, z3, (0, x4), (0, x5), (0, x6), (0, x4)], [], v11, XX)) rfl ?_
    exact tM_sayCell_184 r v11 x5 x6 x4 z1 z2 z3 (0, x4)
def fM_sayCell_86_b (m : aM) (x2 : Int) (x4 : Int) (x5 : Int) : (Int × Int) → Option ((Int × Int) ⊕ aM) := fun (x6, x7) =>
  if x7 < x5 then
    gd (0 ≤ x2 ∧ x2 < 6) (
    if m 133 x2 = 3 then
      if x6 = 0 then
        gd (0 ≤ x7 ∧ x7 < 600) (
        if m 131 x7 = 44 then
          some (Sum.inl (1, w32 (x7 + 1)))
        else
          if m 131 x7 = 34 then
            some (Sum.inl (1, w32 (x7 + 1)))
          else
            if m 131 x7 = 10 then
              some (Sum.inl (1, w32 (x7 + 1)))
            else
              if m 131 x7 = 13 then
                some (Sum.inl (1, w32 (x7 + 1)))
              else
                some (Sum.inl (0, w32 (x7 + 1))))
      else
        some (Sum.inl (1, w32 (x7 + 1)))
    else
      (fM_sayCell_169 m x4 x5 x6).map Sum.inr)
  else
    (fM_sayCell_169 m x4 x5 x6).map Sum.inr
def fM_sayCell_86 (m : aM) (x2 : Int) (x4 : Int) (x5 : Int) (x6 : Int) (x7 : Int) : Option aM := aLoop (fM_sayCell_86_b m x2 x4 x5) FU (x6, x7)
set_option maxRecDepth 100000 in
theorem tM_sayCell_86 (r : aR) (m : aM) (x2 : Int) (x4 : Int) (x5 : Int) (x6 : Int) (x7 : Int) (z1 : aV) (z3 : aV) : aT PB 4 88 r (fun w => r = (0, (0, 0), w, XX)) (fM_sayCell_86 m x2 x4 x5 x6 x7) (86, [(18, 130), z1, (0, x2), z3, (0, x4), (0, x5), (0, x6), (0, x7)], [], m, XX) := by
  have hD : aMd PB 88 = d_M_sayCell := rfl
  refine T_loop (Hd := (hM_sayCell_86 m x2 x4 x5)) ?_ FU _ _ ⟨z1, z3, rfl⟩
  clear x6 x7 z1 z3
  intro y c hc
  obtain ⟨x6, x7⟩ := y
  obtain ⟨z1, z3, rfl⟩ := hc
  unfold fM_sayCell_86_b
  try dsimp only
  refine T_run hD 2 (c' := (90, [(18, 130), z1, (0, x2), z3, (0, x4), (0, x5), (0, x6), (0, x7)], [(0, x5), (0, x7)], m, XX)) rfl ?_
  refine T_if hD (c1 := (93, _, _, _, _)) (c2 := (169, _, _, _, _)) rfl (fun _ => ?_) (fun _ => ?_)
  · refine T_run hD 3 (c' := (98, [(18, 130), z1, (0, x2), z3, (0, x4), (0, x5), (0, x6), (0, x7)], [(0, x2), (31, 133)], m, XX)) rfl ?_
    refine T_gd hD (c1 := (99, [(18, 130), z1, (0, x2), z3, (0, x4), (0, x5), (0, x6), (0, x7)], [(0, m 133 x2)], m, XX)) rfl (fun g4 => ?_)
    refine T_run hD 1 (c' := (100, [(18, 130), z1, (0, x2), z3, (0, x4), (0, x5), (0, x6), (0, x7)], [(0, 3), (0, m 133 x2)], m, XX)) rfl ?_
    refine T_if hD (c1 := (103, _, _, _, _)) (c2 := (169, _, _, _, _)) rfl (fun _ => ?_) (fun _ => ?_)
    · refine T_run hD 1 (c' := (105, [(18, 130), z1, (0, x2), z3, (0, x4), (0, x5), (0, x6), (0, x7)], [(0, x6)], m, XX)) rfl ?_
      refine T_if hD (c1 := (108, _, _, _, _)) (c2 := (156, _, _, _, _)) rfl (fun _ => ?_) (fun _ => ?_)
      · refine T_run hD 3 (c' := (114, [(18, 130), z1, (0, x2), z3, (0, x4), (0, x5), (0, x6), (0, x7)], [(0, x7), (31, 131)], m, XX)) rfl ?_
        refine T_gd hD (c1 := (115, [(18, 130), z1, (0, x2), z3, (0, x4), (0, x5), (0, x6), (0, x7)], [(0, m 131 x7)], m, XX)) rfl (fun g5 => ?_)
        refine T_run hD 1 (c' := (117, [(18, 130), z1, (0, x2), z3, (0, x4), (0, x5), (0, x6), (0, x7)], [(0, 44), (0, m 131 x7)], m, XX)) rfl ?_
        refine T_if hD (c1 := (156, _, _, _, _)) (c2 := (120, _, _, _, _)) rfl (fun _ => ?_) (fun _ => ?_)
        · refine T_run hD 5 (c' := (86, [(18, 130), z1, (0, x2), z3, (0, x4), (0, x5), (0, 1), (0, w32 (x7 + 1))], [], m, XX)) rfl ?_
          exact T_back0 ⟨_, _, rfl⟩
        · refine T_run hD 3 (c' := (126, [(18, 130), z1, (0, x2), z3, (0, x4), (0, x5), (0, x6), (0, x7)], [(0, x7), (31, 131)], m, XX)) rfl ?_
          refine T_gk hD (c1 := (127, [(18, 130), z1, (0, x2), z3, (0, x4), (0, x5), (0, x6), (0, x7)], [(0, m 131 x7)], m, XX)) (P := 0 ≤ x7 ∧ x7 < 600) rfl g5 ?_
          refine T_run hD 1 (c' := (129, [(18, 130), z1, (0, x2), z3, (0, x4), (0, x5), (0, x6), (0, x7)], [(0, 34), (0, m 131 x7)], m, XX)) rfl ?_
          refine T_if hD (c1 := (156, _, _, _, _)) (c2 := (132, _, _, _, _)) rfl (fun _ => ?_) (fun _ => ?_)
          · refine T_run hD 5 (c' := (86, [(18, 130), z1, (0, x2), z3, (0, x4), (0, x5), (0, 1), (0, w32 (x7 + 1))], [], m, XX)) rfl ?_
            exact T_back0 ⟨_, _, rfl⟩
          · refine T_run hD 3 (c' := (138, [(18, 130), z1, (0, x2), z3, (0, x4), (0, x5), (0, x6), (0, x7)], [(0, x7), (31, 131)], m, XX)) rfl ?_
            refine T_gk hD (c1 := (139, [(18, 130), z1, (0, x2), z3, (0, x4), (0, x5), (0, x6), (0, x7)], [(0, m 131 x7)], m, XX)) (P := 0 ≤ x7 ∧ x7 < 600) rfl g5 ?_
            refine T_run hD 1 (c' := (141, [(18, 130), z1, (0, x2), z3, (0, x4), (0, x5), (0, x6), (0, x7)], [(0, 10), (0, m 131 x7)], m, XX)) rfl ?_
            refine T_if hD (c1 := (156, _, _, _, _)) (c2 := (144, _, _, _, _)) rfl (fun _ => ?_) (fun _ => ?_)
            · refine T_run hD 5 (c' := (86, [(18, 130), z1, (0, x2), z3, (0, x4), (0, x5), (0, 1), (0, w32 (x7 + 1))], [], m, XX)) rfl ?_
              exact T_back0 ⟨_, _, rfl⟩
            · refine T_run hD 3 (c' := (150, [(18, 130), z1, (0, x2), z3, (0, x4), (0, x5), (0, x6), (0, x7)], [(0, x7), (31, 131)], m, XX)) rfl ?_
              refine T_gk hD (c1 := (151, [(18, 130), z1, (0, x2), z3, (0, x4), (0, x5), (0, x6), (0, x7)], [(0, m 131 x7)], m, XX)) (P := 0 ≤ x7 ∧ x7 < 600) rfl g5 ?_
              refine T_run hD 1 (c' := (153, [(18, 130), z1, (0, x2), z3, (0, x4), (0, x5), (0, x6), (0, x7)], [(0, 13), (0, m 131 x7)], m, XX)) rfl ?_
              refine T_if hD (c1 := (156, _, _, _, _)) (c2 := (160, _, _, _, _)) rfl (fun _ => ?_) (fun _ => ?_)
              · refine T_run hD 5 (c' := (86, [(18, 130), z1, (0, x2), z3, (0, x4), (0, x5), (0, 1), (0, w32 (x7 + 1))], [], m, XX)) rfl ?_
                exact T_back0 ⟨_, _, rfl⟩
              · refine T_run hD 4 (c' := (86, [(18, 130), z1, (0, x2), z3, (0, x4), (0, x5), (0, 0), (0, w32 (x7 + 1))], [], m, XX)) rfl ?_
                exact T_back0 ⟨_, _, rfl⟩
      · refine T_run hD 5 (c' := (86, [(18, 130), z1, (0, x2), z3, (0, x4), (0, x5), (0, 1), (0, w32 (x7 + 1))], [], m, XX)) rfl ?_
        exact T_back0 ⟨_, _, rfl⟩
    · exact T_map (tM_sayCell_169 r m x4 x5 x6 z1 (0, x2) z3 (0, x7))
  · exact T_map (tM_sayCell_169 r m x4 x5 x6 z1 (0, x2) z3 (0, x7))
def fM_sayCell (m : aM) (x1 : Int) (x2 : Int) : Option aM :=
  (fM_isNone m x1 x2).bind fun v1 =>
  if v1 = 0 then
    gd (0 ≤ w32 ((w32 (6 * x1)) + x2) ∧ w32 ((w32 (6 * x1)) + x2) < 96) (
    gd (0 ≤ x2 ∧ x2 < 6) (
    if m 133 x2 = 3 then
      if m 134 (w32 ((w32 (6 * x1)) + x2)) = w32 ((m 134 (w32 ((w32 (6 * x1)) + x2))) + (m 135 (w32 ((w32 (6 * x1)) + x2)))) then
        fM_sayCell_86 m x2 (m 134 (w32 ((w32 (6 * x1)) + x2))) (w32 ((m 134 (w32 ((w32 (6 * x1)) + x2))) + (m 135 (w32 ((w32 (6 * x1)) + x2))))) 1 (m 134 (w32 ((w32 (6 * x1)) + x2)))
      else
        (fM_isWhole m (m 134 (w32 ((w32 (6 * x1)) + x2))) (w32 ((m 134 (w32 ((w32 (6 * x1)) + x2))) + (m 135 (w32 ((w32 (6 * x1)) + x2)))))).bind fun v12 =>
        if v12.1 = 0 then
          (fM_isDate v12.2 (m 134 (w32 ((w32 (6 * x1)) + x2))) (w32 ((m 134 (w32 ((w32 (6 * x1)) + x2))) + (m 135 (w32 ((w32 (6 * x1)) + x2)))))).bind fun v13 =>
          if v13.1 = 0 then
            fM_sayCell_86 v13.2 x2 (m 134 (w32 ((w32 (6 * x1)) + x2))) (w32 ((m 134 (w32 ((w32 (6 * x1)) + x2))) + (m 135 (w32 ((w32 (6 * x1)) + x2))))) 0 (m 134 (w32 ((w32 (6 * x1)) + x2)))
          else
            fM_sayCell_86 v13.2 x2 (m 134 (w32 ((w32 (6 * x1)) + x2))) (w32 ((m 134 (w32 ((w32 (6 * x1)) + x2))) + (m 135 (w32 ((w32 (6 * x1)) + x2))))) 1 (m 134 (w32 ((w32 (6 * x1)) + x2)))
        else
          fM_sayCell_86 v12.2 x2 (m 134 (w32 ((w32 (6 * x1)) + x2))) (w32 ((m 134 (w32 ((w32 (6 * x1)) + x2))) + (m 135 (w32 ((w32 (6 * x1)) + x2))))) 1 (m 134 (w32 ((w32 (6 * x1)) + x2)))
    else
      fM_sayCell_86 m x2 (m 134 (w32 ((w32 (6 * x1)) + x2))) (w32 ((m 134 (w32 ((w32 (6 * x1)) + x2))) + (m 135 (w32 ((w32 (6 * x1)) + x2))))) 0 (m 134 (w32 ((w32 (6 * x1)) + x2)))))
  else
    some (m)
set_option maxRecDepth 100000 in
theorem tM_sayCell (m : aM) (x1 : Int) (x2 : Int) : ∀ v, fM_sayCell m x1 x2 = some v → Go PB 4 88 (aEnt d_M_sayCell [(18, 130), (0, x1), (0, x2)] m XX) (0, (0, 0), v, XX) := by
  intro v hv
  have hD : aMd PB 88 = d_M_sayCell := rfl
  obtain ⟨r, hr⟩ : ∃ r : aR, r = (0, (0, 0), v, XX) := ⟨_, rfl⟩
  have h9 : aT PB 4 88 r (fun w => r = (0, (0, 0), w, XX)) (fM_sayCell m x1 x2) (0, [(18, 130), (0, x1), (0, x2), (99, 0), (99, 0), (99, 0), (99, 0), (99, 0)], [], m, XX) := by
    unfold fM_sayCell
    refine T_run hD 9 (c' := (10, [(18, 130), (0, x1), (0, x2), (0, w32 ((w32 (6 * x1)) + x2)), (99, 0), (99, 0), (99, 0), (99, 0)], [(0, x2), (0, x1), (18, 130)], m, XX)) rfl ?_
    refine T_call hD (D2 := d_M_isNone) (q2 := 37) (as := [(18, 130), (0, x1), (0, x2)]) (c1 := (13, [(18, 130), (0, x1), (0, x2), (0, w32 ((w32 (6 * x1)) + x2)), (99, 0), (99, 0), (99, 0), (99, 0)], [], m, XX)) (mk := fun w => (1, (0, w), m, XX)) (cc := fun v1 => (13, [(18, 130), (0, x1), (0, x2), (0, w32 ((w32 (6 * x1)) + x2)), (99, 0), (99, 0), (99, 0), (99, 0)], [(0, v1)], m, XX)) rfl rfl (fun y9 h9y => Go.mono (tM_isNone m x1 x2 y9 h9y) (by decide)) (fun _ => rfl) (fun v1 => ?_)
    refine T_if hD (c1 := (17, _, _, _, _)) (c2 := (16, _, _, _, _)) rfl (fun _ => ?_) (fun _ => ?_)
    · refine T_run hD 3 (c' := (22, [(18, 130), (0, x1), (0, x2), (0, w32 ((w32 (6 * x1)) + x2)), (99, 0), (99, 0), (99, 0), (99, 0)], [(0, w32 ((w32 (6 * x1)) + x2)), (31, 134)], m, XX)) rfl ?_
      refine T_gd hD (c1 := (23, [(18, 130), (0, x1), (0, x2), (0, w32 ((w32 (6 * x1)) + x2)), (99, 0), (99, 0), (99, 0), (99, 0)], [(0, m 134 (w32 ((w32 (6 * x1)) + x2)))], m, XX)) rfl (fun g2 => ?_)
      refine T_run hD 5 (c' := (32, [(18, 130), (0, x1), (0, x2), (0, w32 ((w32 (6 * x1)) + x2)), (0, m 134 (w32 ((w32 (6 * x1)) + x2))), (99, 0), (99, 0), (99, 0)], [(0, w32 ((w32 (6 * x1)) + x2)), (31, 135), (0, m 134 (w32 ((w32 (6 * x1)) + x2)))], m, XX)) rfl ?_
      refine T_gk hD (c1 := (33, [(18, 130), (0, x1), (0, x2), (0, w32 ((w32 (6 * x1)) + x2)), (0, m 134 (w32 ((w32 (6 * x1)) + x2))), (99, 0), (99, 0), (99, 0)], [(0, m 135 (w32 ((w32 (6 * x1)) + x2))), (0, m 134 (w32 ((w32 (6 * x1)) + x2)))], m, XX)) (P := 0 ≤ w32 ((w32 (6 * x1)) + x2) ∧ w32 ((w32 (6 * x1)) + x2) < 96) rfl g2 ?_
      refine T_run hD 5 (c' := (41, [(18, 130), (0, x1), (0, x2), (0, w32 ((w32 (6 * x1)) + x2)), (0, m 134 (w32 ((w32 (6 * x1)) + x2))), (0, w32 ((m 134 (w32 ((w32 (6 * x1)) + x2))) + (m 135 (w32 ((w32 (6 * x1)) + x2))))), (99, 0), (99, 0)], [(0, x2), (31, 133)], m, XX)) rfl ?_
      refine T_gd hD (c1 := (42, [(18, 130), (0, x1), (0, x2), (0, w32 ((w32 (6 * x1)) + x2)), (0, m 134 (w32 ((w32 (6 * x1)) + x2))), (0, w32 ((m 134 (w32 ((w32 (6 * x1)) + x2))) + (m 135 (w32 ((w32 (6 * x1)) + x2))))), (99, 0), (99, 0)], [(0, m 133 x2)], m, XX)) rfl (fun g3 => ?_)
      refine T_run hD 1 (c' := (43, [(18, 130), (0, x1), (0, x2), (0, w32 ((w32 (6 * x1)) + x2)), (0, m 134 (w32 ((w32 (6 * x1)) + x2))), (0, w32 ((m 134 (w32 ((w32 (6 * x1)) + x2))) + (m 135 (w32 ((w32 (6 * x1)) + x2))))), (99, 0), (99, 0)], [(0, 3), (0, m 133 x2)], m, XX)) rfl ?_
      refine T_if hD (c1 := (46, _, _, _, _)) (c2 := (79, _, _, _, _)) rfl (fun _ => ?_) (fun _ => ?_)
      · refine T_run hD 2 (c' := (50, [(18, 130), (0, x1), (0, x2), (0, w32 ((w32 (6 * x1)) + x2)), (0, m 134 (w32 ((w32 (6 * x1)) + x2))), (0, w32 ((m 134 (w32 ((w32 (6 * x1)) + x2))) + (m 135 (w32 ((w32 (6 * x1)) + x2))))), (99, 0), (99, 0)], [(0, w32 ((m 134 (w32 ((w32 (6 * x1)) + x2))) + (m 135 (w32 ((w32 (6 * x1)) + x2))))), (0, m 134 (w32 ((w32 (6 * x1)) + x2)))], m, XX)) rfl ?_
        refine T_if hD (c1 := (75, _, _, _, _)) (c2 := (53, _, _, _, _)) rfl (fun _ => ?_) (fun _ => ?_)
        · refine T_run hD 5 (c' := (86, [(18, 130), (0, x1), (0, x2), (0, w32 ((w32 (6 * x1)) + x2)), (0, m 134 (w32 ((w32 (6 * x1)) + x2))), (0, w32 ((m 134 (w32 ((w32 (6 * x1)) + x2))) + (m 135 (w32 ((w32 (6 * x1)) + x2))))), (0, 1), (0, m 134 (w32 ((w32 (6 * x1)) + x2)))], [], m, XX)) rfl ?_
          exact tM_sayCell_86 r m x2 (m 134 (w32 ((w32 (6 * x1)) + x2))) (w32 ((m 134 (w32 ((w32 (6 * x1)) + x2))) + (m 135 (w32 ((w32 (6 * x1)) + x2))))) 1 (m 134 (w32 ((w32 (6 * x1)) + x2))) (0, x1) (0, w32 ((w32 (6 * x1)) + x2))
        · refine T_run hD 3 (c' := (58, [(18, 130), (0, x1), (0, x2), (0, w32 ((w32 (6 * x1)) + x2)), (0, m 134 (w32 ((w32 (6 * x1)) + x2))), (0, w32 ((m 134 (w32 ((w32 (6 * x1)) + x2))) + (m 135 (w32 ((w32 (6 * x1)) + x2))))), (99, 0), (99, 0)], [(0, w32 ((m 134 (w32 ((w32 (6 * x1)) + x2))) + (m 135 (w32 ((w32 (6 * x1)) + x2))))), (0, m 134 (w32 ((w32 (6 * x1)) + x2))), (18, 130)], m, XX)) rfl ?_
          refine T_call hD (D2 := d_M_isWhole) (q2 := 26) (as := [(18, 130), (0, m 134 (w32 ((w32 (6 * x1)) + x2))), (0, w32 ((m 134 (w32 ((w32 (6 * x1)) + x2))) + (m 135 (w32 ((w32 (6 * x1)) + x2)))))]) (c1 := (61, [(18, 130), (0, x1), (0, x2), (0, w32 ((w32 (6 * x1)) + x2)), (0, m 134 (w32 ((w32 (6 * x1)) + x2))), (0, w32 ((m 134 (w32 ((w32 (6 * x1)) + x2))) + (m 135 (w32 ((w32 (6 * x1)) + x2))))), (99, 0), (99, 0)], [], m, XX)) (mk := fun w => (1, (0, w.1), w.2, XX)) (cc := fun v12 => (61, [(18, 130), (0, x1), (0, x2), (0, w32 ((w32 (6 * x1)) + x2)), (0, m 134 (w32 ((w32 (6 * x1)) + x2))), (0, w32 ((m 134 (w32 ((w32 (6 * x1)) + x2))) + (m 135 (w32 ((w32 (6 * x1)) + x2))))), (99, 0), (99, 0)], [(0, v12.1)], v12.2, XX)) rfl rfl (fun y9 h9y => Go.mono (tM_isWhole m (m 134 (w32 ((w32 (6 * x1)) + x2))) (w32 ((m 134 (w32 ((w32 (6 * x1)) + x2))) + (m 135 (w32 ((w32 (6 * x1)) + x2))))) y9 h9y) (by decide)) (fun _ => rfl) (fun v12 => ?_)
          refine T_if hD (c1 := (64, _, _, _, _)) (c2 := (75, _, _, _, _)) rfl (fun _ => ?_) (fun _ => ?_)
          · refine T_run hD 3 (c' := (69, [(18, 130), (0, x1), (0, x2), (0, w32 ((w32 (6 * x1)) + x2)), (0, m 134 (w32 ((w32 (6 * x1)) + x2))), (0, w32 ((m 134 (w32 ((w32 (6 * x1)) + x2))) + (m 135 (w32 ((w32 (6 * x1)) + x2))))), (99, 0), (99, 0)], [(0, w32 ((m 134 (w32 ((w32 (6 * x1)) + x2))) + (m 135 (w32 ((w32 (6 * x1)) + x2))))), (0, m 134 (w32 ((w32 (6 * x1)) + x2))), (18, 130)], v12.2, XX)) rfl ?_
            refine T_call hD (D2 := d_M_isDate) (q2 := 28) (as := [(18, 130), (0, m 134 (w32 ((w32 (6 * x1)) + x2))), (0, w32 ((m 134 (w32 ((w32 (6 * x1)) + x2))) + (m 135 (w32 ((w32 (6 * x1)) + x2)))))]) (c1 := (72, [(18, 130), (0, x1), (0, x2), (0, w32 ((w32 (6 * x1)) + x2)), (0, m 134 (w32 ((w32 (6 * x1)) + x2))), (0, w32 ((m 134 (w32 ((w32 (6 * x1)) + x2))) + (m 135 (w32 ((w32 (6 * x1)) + x2))))), (99, 0), (99, 0)], [], v12.2, XX)) (mk := fun w => (1, (0, w.1), w.2, XX)) (cc := fun v13 => (72, [(18, 130), (0, x1), (0, x2), (0, w32 ((w32 (6 * x1)) + x2)), (0, m 134 (w32 ((w32 (6 * x1)) + x2))), (0, w32 ((m 134 (w32 ((w32 (6 * x1)) + x2))) + (m 135 (w32 ((w32 (6 * x1)) + x2))))), (99, 0), (99, 0)], [(0, v13.1)], v13.2, XX)) rfl rfl (fun y9 h9y => Go.mono (tM_isDate v12.2 (m 134 (w32 ((w32 (6 * x1)) + x2))) (w32 ((m 134 (w32 ((w32 (6 * x1)) + x2))) + (m 135 (w32 ((w32 (6 * x1)) + x2))))) y9 h9y) (by decide)) (fun _ => rfl) (fun v13 => ?_)
            refine T_if hD (c1 := (79, _, _, _, _)) (c2 := (75, _, _, _, _)) rfl (fun _ => ?_) (fun _ => ?_)
            · refine T_run hD 4 (c' := (86, [(18, 130), (0, x1), (0, x2), (0, w32 ((w32 (6 * x1)) + x2)), (0, m 134 (w32 ((w32 (6 * x1)) + x2))), (0, w32 ((m 134 (w32 ((w32 (6 * x1)) + x2))) + (m 135 (w32 ((w32 (6 * x1)) + x2))))), (0, 0), (0, m 134 (w32 ((w32 (6 * x1)) + x2)))], [], v13.2, XX)) rfl ?_
              exact tM_sayCell_86 r v13.2 x2 (m 134 (w32 ((w32 (6 * x1)) + x2))) (w32 ((m 134 (w32 ((w32 (6 * x1)) + x2))) + (m 135 (w32 ((w32 (6 * x1)) + x2))))) 0 (m 134 (w32 ((w32 (6 * x1)) + x2))) (0, x1) (0, w32 ((w32 (6 * x1)) + x2))
            · refine T_run hD 5 (c' := (86, [(18, 130), (0, x1), (0, x2), (0, w32 ((w32 (6 * x1)) + x2)), (0, m 134 (w32 ((w32 (6 * x1)) + x2))), (0, w32 ((m 134 (w32 ((w32 (6 * x1)) + x2))) + (m 135 (w32 ((w32 (6 * x1)) + x2))))), (0, 1), (0, m 134 (w32 ((w32 (6 * x1)) + x2)))], [], v13.2, XX)) rfl ?_
              exact tM_sayCell_86 r v13.2 x2 (m 134 (w32 ((w32 (6 * x1)) + x2))) (w32 ((m 134 (w32 ((w32 (6 * x1)) + x2))) + (m 135 (w32 ((w32 (6 * x1)) + x2))))) 1 (m 134 (w32 ((w32 (6 * x1)) + x2))) (0, x1) (0, w32 ((w32 (6 * x1)) + x2))
          · refine T_run hD 5 (c' := (86, [(18, 130), (0, x1), (0, x2), (0, w32 ((w32 (6 * x1)) + x2)), (0, m 134 (w32 ((w32 (6 * x1)) + x2))), (0, w32 ((m 134 (w32 ((w32 (6 * x1)) + x2))) + (m 135 (w32 ((w32 (6 * x1)) + x2))))), (0, 1), (0, m 134 (w32 ((w32 (6 * x1)) + x2)))], [], v12.2, XX)) rfl ?_
            exact tM_sayCell_86 r v12.2 x2 (m 134 (w32 ((w32 (6 * x1)) + x2))) (w32 ((m 134 (w32 ((w32 (6 * x1)) + x2))) + (m 135 (w32 ((w32 (6 * x1)) + x2))))) 1 (m 134 (w32 ((w32 (6 * x1)) + x2))) (0, x1) (0, w32 ((w32 (6 * x1)) + x2))
      · refine T_run hD 4 (c' := (86, [(18, 130), (0, x1), (0, x2), (0, w32 ((w32 (6 * x1)) + x2)), (0, m 134 (w32 ((w32 (6 * x1)) + x2))), (0, w32 ((m 134 (w32 ((w32 (6 * x1)) + x2))) + (m 135 (w32 ((w32 (6 * x1)) + x2))))), (0, 0), (0, m 134 (w32 ((w32 (6 * x1)) + x2)))], [], m, XX)) rfl ?_
        exact tM_sayCell_86 r m x2 (m 134 (w32 ((w32 (6 * x1)) + x2))) (w32 ((m 134 (w32 ((w32 (6 * x1)) + x2))) + (m 135 (w32 ((w32 (6 * x1)) + x2))))) 0 (m 134 (w32 ((w32 (6 * x1)) + x2))) (0, x1) (0, w32 ((w32 (6 * x1)) + x2))
    · exact T_fin hD rfl (fun h => h)
  rw [← hr]
  exact h9 v hv hr
abbrev hM_sayNames_2 : (aM × Int) → aC → Prop := fun y c => c = (2, [(18, 130), (0, (y.2))], [], (y.1), XX)
def fM_sayNames_20 (m : aM) (x1 : Int) : Option ((aM × Int) ⊕ aM) :=
  gd (0 ≤ x1 ∧ x1 < 6) (
  (fM_sayWord m (m 132 x1)).bind fun v3 =>
  some (Sum.inl (v3, w32 (x1 + 1))))
set_option maxRecDepth 100000 in
theorem tM_sayNames_20 (r : aR) (m : aM) (x1 : Int) : aT PB 3 89 r (aTurn PB 3 89 r (hM_sayNames_2 ) (fun w => r = (0, (0, 0), w, XX))) (fM_sayNames_20 m x1) (20, [(18, 130), (0, x1)], [], m, XX) := by
  have hD : aMd PB 89 = d_M_sayNames := rfl
  unfold fM_sayNames_20
  refine T_run hD 4 (c' := (26, [(18, 130), (0, x1)], [(0, x1), (32, 132), (18, 130)], m, XX)) rfl ?_
  refine T_gd hD (c1 := (27, [(18, 130), (0, x1)], [(1, m 132 x1), (18, 130)], m, XX)) rfl (fun g2 => ?_)
  refine T_call hD (D2 := d_M_sayWord) (q2 := 86) (as := [(18, 130), (1, m 132 x1)]) (c1 := (30, [(18, 130), (0, x1)], [], m, XX)) (mk := fun w => (0, (0, 0), w, XX)) (cc := fun v3 => (30, [(18, 130), (0, x1)], [], v3, XX)) rfl rfl (fun y9 h9y => Go.mono (tM_sayWord m (m 132 x1) y9 h9y) (by decide)) (fun _ => rfl) (fun v3 => ?_)
  refine T_run hD 2 (c' := (2, [(18, 130), (0, w32 (x1 + 1))], [], v3, XX)) rfl ?_
  exact T_back0 rfl
def fM_sayNames_2_b : (aM × Int) → Option ((aM × Int) ⊕ aM) := fun (m, x1) =>
  if x1 < m 130 4 then
    if 0 < x1 then
      (fM_say m 44).bind fun v1 =>
      fM_sayNames_20 v1 x1
    else
      fM_sayNames_20 m x1
  else
    (fM_say m 10).bind fun v4 =>
    some (Sum.inr (v4))
def fM_sayNames_2 (m : aM) (x1 : Int) : Option aM := aLoop (fM_sayNames_2_b ) FU (m, x1)
set_option maxRecDepth 100000 in
theorem tM_sayNames_2 (r : aR) (m : aM) (x1 : Int) : aT PB 3 89 r (fun w => r = (0, (0, 0), w, XX)) (fM_sayNames_2 m x1) (2, [(18, 130), (0, x1)], [], m, XX) := by
  have hD : aMd PB 89 = d_M_sayNames := rfl
  refine T_loop (Hd := (hM_sayNames_2 )) ?_ FU _ _ rfl
  clear m x1
  intro y c hc
  obtain ⟨m, x1⟩ := y
  obtain rfl := hc
  unfold fM_sayNames_2_b
  try dsimp only
  refine T_run hD 3 (c' := (7, [(18, 130), (0, x1)], [(0, m 130 4), (0, x1)], m, XX)) rfl ?_
  refine T_if hD (c1 := (10, _, _, _, _)) (c2 := (36, _, _, _, _)) rfl (fun _ => ?_) (fun _ => ?_)
  · refine T_run hD 1 (c' := (11, [(18, 130), (0, x1)], [(0, x1)], m, XX)) rfl ?_
    refine T_if hD (c1 := (14, _, _, _, _)) (c2 := (20, _, _, _, _)) rfl (fun _ => ?_) (fun _ => ?_)
    · refine T_run hD 2 (c' := (17, [(18, 130), (0, x1)], [(0, 44), (18, 130)], m, XX)) rfl ?_
      refine T_call hD (D2 := d_M_say) (q2 := 85) (as := [(18, 130), (0, 44)]) (c1 := (20, [(18, 130), (0, x1)], [], m, XX)) (mk := fun w => (0, (0, 0), w, XX)) (cc := fun v1 => (20, [(18, 130), (0, x1)], [], v1, XX)) rfl rfl (fun y9 h9y => Go.mono (tM_say m 44 y9 h9y) (by decide)) (fun _ => rfl) (fun v1 => ?_)
      exact tM_sayNames_20 r v1 x1 
    · exact tM_sayNames_20 r m x1 
  · refine T_run hD 2 (c' := (39, [(18, 130), (0, x1)], [(0, 10), (18, 130)], m, XX)) rfl ?_
    refine T_call hD (D2 := d_M_say) (q2 := 85) (as := [(18, 130), (0, 10)]) (c1 := (42, [(18, 130), (0, x1)], [], m, XX)) (mk := fun w => (0, (0, 0), w, XX)) (cc := fun v4 => (42, [(18, 130), (0, x1)], [], v4, XX)) rfl rfl (fun y9 h9y => Go.mono (tM_say m 10 y9 h9y) (by decide)) (fun _ => rfl) (fun v4 => ?_)
    exact T_fin hD rfl (fun h => h)
def fM_sayNames (m : aM) : Option aM :=
  fM_sayNames_2 m 0
set_option maxRecDepth 100000 in
theorem tM_sayNames (m : aM) : ∀ v, fM_sayNames m = some v → Go PB 3 89 (aEnt d_M_sayNames [(18, 130)] m XX) (0, (0, 0), v, XX) := by
  intro v hv
  have hD : aMd PB 89 = d_M_sayNames := rfl
  obtain ⟨r, hr⟩ : ∃ r : aR, r = (0, (0, 0), v, XX) := ⟨_, rfl⟩
  have h9 : aT PB 3 89 r (fun w => r = (0, (0, 0), w, XX)) (fM_sayNames m) (0, [(18, 130), (99, 0)], [], m, XX) := by
    unfold fM_sayNames
    refine T_run hD 2 (c' := (2, [(18, 130), (0, 0)], [], m, XX)) rfl ?_
    exact tM_sayNames_2 r m 0 
  rw [← hr]
  exact h9 v hv hr
abbrev hM_sayRow_2 (x1 : Int) : (aM × Int) → aC → Prop := fun y c => c = (2, [(18, 130), (0, x1), (0, (y.2))], [], (y.1), XX)
def fM_sayRow_20 (m : aM) (x1 : Int) (x2 : Int) : Option ((aM × Int) ⊕ aM) :=
  (fM_sayCell m x1 x2).bind fun v2 =>
  some (Sum.inl (v2, w32 (x2 + 1)))
set_option maxRecDepth 100000 in
theorem tM_sayRow_20 (r : aR) (m : aM) (x1 : Int) (x2 : Int) : aT PB 5 90 r (aTurn PB 5 90 r (hM_sayRow_2 x1) (fun w => r = (0, (0, 0), w, XX))) (fM_sayRow_20 m x1 x2) (20, [(18, 130), (0, x1), (0, x2)], [], m, XX) := by
  have hD : aMd PB 90 = d_M_sayRow := rfl
  unfold fM_sayRow_20
  refine T_run hD 3 (c' := (23, [(18, 130), (0, x1), (0, x2)], [(0, x2), (0, x1), (18, 130)], m, XX)) rfl ?_
  refine T_call hD (D2 := d_M_sayCell) (q2 := 88) (as := [(18, 130), (0, x1), (0, x2)]) (c1 := (26, [(18, 130), (0, x1), (0, x2)], [], m, XX)) (mk := fun w => (0, (0, 0), w, XX)) (cc := fun v2 => (26, [(18, 130), (0, x1), (0, x2)], [], v2, XX)) rfl rfl (fun y9 h9y => Go.mono (tM_sayCell m x1 x2 y9 h9y) (by decide)) (fun _ => rfl) (fun v2 => ?_)
  refine T_run hD 2 (c' := (2, [(18, 130), (0, x1), (0, w32 (x2 + 1))], [], v2, XX)) rfl ?_
  exact T_back0 rfl
def fM_sayRow_2_b (x1 : Int) : (aM × Int) → Option ((aM × Int) ⊕ aM) := fun (m, x2) =>
  if x2 < m 130 4 then
    if 0 < x2 then
      (fM_say m 44).bind fun v1 =>
      fM_sayRow_20 v1 x1 x2
    else
      fM_sayRow_20 m x1 x2
  else
    (fM_say m 10).bind fun v3 =>
    some (Sum.inr (v3))
def fM_sayRow_2 (m : aM) (x1 : Int) (x2 : Int) : Option aM := aLoop (fM_sayRow_2_b x1) FU (m, x2)
set_option maxRecDepth 100000 in
theorem tM_sayRow_2 (r : aR) (m : aM) (x1 : Int) (x2 : Int) : aT PB 5 90 r (fun w => r = (0, (0, 0), w, XX)) (fM_sayRow_2 m x1 x2) (2, [(18, 130), (0, x1), (0, x2)], [], m, XX) := by
  have hD : aMd PB 90 = d_M_sayRow := rfl
  refine T_loop (Hd := (hM_sayRow_2 x1)) ?_ FU _ _ rfl
  clear m x2
  intro y c hc
  obtain ⟨m, x2⟩ := y
  obtain rfl := hc
  unfold fM_sayRow_2_b
  try dsimp only
  refine T_run hD 3 (c' := (7, [(18, 130), (0, x1), (0, x2)], [(0, m 130 4), (0, x2)], m, XX)) rfl ?_
  refine T_if hD (c1 := (10, _, _, _, _)) (c2 := (32, _, _, _, _)) rfl (fun _ => ?_) (fun _ => ?_)
  · refine T_run hD 1 (c' := (11, [(18, 130), (0, x1), (0, x2)], [(0, x2)], m, XX)) rfl ?_
    refine T_if hD (c1 := (14, _, _, _, _)) (c2 := (20, _, _, _, _)) rfl (fun _ => ?_) (fun _ => ?_)
    · refine T_run hD 2 (c' := (17, [(18, 130), (0, x1), (0, x2)], [(0, 44), (18, 130)], m, XX)) rfl ?_
      refine T_call hD (D2 := d_M_say) (q2 := 85) (as := [(18, 130), (0, 44)]) (c1 := (20, [(18, 130), (0, x1), (0, x2)], [], m, XX)) (mk := fun w => (0, (0, 0), w, XX)) (cc := fun v1 => (20, [(18, 130), (0, x1), (0, x2)], [], v1, XX)) rfl rfl (fun y9 h9y => Go.mono (tM_say m 44 y9 h9y) (by decide)) (fun _ => rfl) (fun v1 => ?_)
      exact tM_sayRow_20 r v1 x1 x2 
    · exact tM_sayRow_20 r m x1 x2 
  · refine T_run hD 2 (c' := (35, [(18, 130), (0, x1), (0, x2)], [(0, 10), (18, 130)], m, XX)) rfl ?_
    refine T_call hD (D2 := d_M_say) (q2 := 85) (as := [(18, 130), (0, 10)]) (c1 := (38, [(18, 130), (0, x1), (0, x2)], [], m, XX)) (mk := fun w => (0, (0, 0), w, XX)) (cc := fun v3 => (38, [(18, 130), (0, x1), (0, x2)], [], v3, XX)) rfl rfl (fun y9 h9y => Go.mono (tM_say m 10 y9 h9y) (by decide)) (fun _ => rfl) (fun v3 => ?_)
    exact T_fin hD rfl (fun h => h)
def fM_sayRow (m : aM) (x1 : Int) : Option aM :=
  fM_sayRow_2 m x1 0
set_option maxRecDepth 100000 in
theorem tM_sayRow (m : aM) (x1 : Int) : ∀ v, fM_sayRow m x1 = some v → Go PB 5 90 (aEnt d_M_sayRow [(18, 130), (0, x1)] m XX) (0, (0, 0), v, XX) := by
  intro v hv
  have hD : aMd PB 90 = d_M_sayRow := rfl
  obtain ⟨r, hr⟩ : ∃ r : aR, r = (0, (0, 0), v, XX) := ⟨_, rfl⟩
  have h9 : aT PB 5 90 r (fun w => r = (0, (0, 0), w, XX)) (fM_sayRow m x1) (0, [(18, 130), (0, x1), (99, 0)], [], m, XX) := by
    unfold fM_sayRow
    refine T_run hD 2 (c' := (2, [(18, 130), (0, x1), (0, 0)], [], m, XX)) rfl ?_
    exact tM_sayRow_2 r m x1 0 
  rw [← hr]
  exact h9 v hv hr
def fM_sayLine_102 (m : aM) : Option aM :=
  (fM_say m 10).bind fun v3 =>
  some (v3)
set_option maxRecDepth 100000 in
theorem tM_sayLine_102 (r : aR) (m : aM) (z1 : aV) : aT PB 5 91 r (fun w => r = (0, (0, 0), w, XX)) (fM_sayLine_102 m) (102, [(18, 130), z1], [], m, XX) := by
  have hD : aMd PB 91 = d_M_sayLine := rfl
  unfold fM_sayLine_102
  refine T_run hD 2 (c' := (105, [(18, 130), z1], [(0, 10), (18, 130)], m, XX)) rfl ?_
  refine T_call hD (D2 := d_M_say) (q2 := 85) (as := [(18, 130), (0, 10)]) (c1 := (108, [(18, 130), z1], [], m, XX)) (mk := fun w => (0, (0, 0), w, XX)) (cc := fun v3 => (108, [(18, 130), z1], [], v3, XX)) rfl rfl (fun y9 h9y => Go.mono (tM_say m 10 y9 h9y) (by decide)) (fun _ => rfl) (fun v3 => ?_)
  exact T_fin hD rfl (fun h => h)
def fM_sayLine_79 (m : aM) (x1 : Int) : Option aM :=
  gd (0 ≤ x1 ∧ x1 < 16) (
  if m 154 x1 < 0 then
    fM_sayLine_102 m
  else
    (fM_sayCell m (m 154 x1) (m 130 40)).bind fun v6 =>
    fM_sayLine_102 v6)
set_option maxRecDepth 100000 in
theorem tM_sayLine_79 (r : aR) (m : aM) (x1 : Int) : aT PB 5 91 r (fun w => r = (0, (0, 0), w, XX)) (fM_sayLine_79 m x1) (79, [(18, 130), (0, x1)], [], m, XX) := by
  have hD : aMd PB 91 = d_M_sayLine := rfl
  unfold fM_sayLine_79
  refine T_run hD 3 (c' := (84, [(18, 130), (0, x1)], [(0, x1), (31, 154)], m, XX)) rfl ?_
  refine T_gd hD (c1 := (85, [(18, 130), (0, x1)], [(0, m 154 x1)], m, XX)) rfl (fun g5 => ?_)
  refine T_if hD (c1 := (102, _, _, _, _)) (c2 := (88, _, _, _, _)) rfl (fun _ => ?_) (fun _ => ?_)
  · exact tM_sayLine_102 r m  (0, x1)
  · refine T_run hD 4 (c' := (94, [(18, 130), (0, x1)], [(0, x1), (31, 154), (18, 130)], m, XX)) rfl ?_
    refine T_gk hD (c1 := (95, [(18, 130), (0, x1)], [(0, m 154 x1), (18, 130)], m, XX)) (P := 0 ≤ x1 ∧ x1 < 16) rfl g5 ?_
    refine T_run hD 2 (c' := (99, [(18, 130), (0, x1)], [(0, m 130 40), (0, m 154 x1), (18, 130)], m, XX)) rfl ?_
    refine T_call hD (D2 := d_M_sayCell) (q2 := 88) (as := [(18, 130), (0, m 154 x1), (0, m 130 40)]) (c1 := (102, [(18, 130), (0, x1)], [], m, XX)) (mk := fun w => (0, (0, 0), w, XX)) (cc := fun v6 => (102, [(18, 130), (0, x1)], [], v6, XX)) rfl rfl (fun y9 h9y => Go.mono (tM_sayCell m (m 154 x1) (m 130 40) y9 h9y) (by decide)) (fun _ => rfl) (fun v6 => ?_)
    exact tM_sayLine_102 r v6  (0, x1)
def fM_sayLine_27 (m : aM) (x1 : Int) : Option aM :=
  if m 130 38 = 1 then
    gd (0 ≤ x1 ∧ x1 < 16) (
    (fM_sayNumber m (m 152 x1)).bind fun v2 =>
    fM_sayLine_102 v2)
  else
    gd (0 ≤ x1 ∧ x1 < 16) (
    if m 154 x1 < 0 then
      fM_sayLine_79 m x1
    else
      if m 130 38 = 2 then
        (fM_sayNumber m (m 153 x1)).bind fun v7 =>
        fM_sayLine_102 v7
      else
        fM_sayLine_79 m x1)
set_option maxRecDepth 100000 in
theorem tM_sayLine_27 (r : aR) (m : aM) (x1 : Int) : aT PB 5 91 r (fun w => r = (0, (0, 0), w, XX)) (fM_sayLine_27 m x1) (27, [(18, 130), (0, x1)], [], m, XX) := by
  have hD : aMd PB 91 = d_M_sayLine := rfl
  unfold fM_sayLine_27
  refine T_run hD 3 (c' := (32, [(18, 130), (0, x1)], [(0, 1), (0, m 130 38)], m, XX)) rfl ?_
  refine T_if hD (c1 := (35, _, _, _, _)) (c2 := (49, _, _, _, _)) rfl (fun _ => ?_) (fun _ => ?_)
  · refine T_run hD 4 (c' := (41, [(18, 130), (0, x1)], [(0, x1), (31, 152), (18, 130)], m, XX)) rfl ?_
    refine T_gd hD (c1 := (42, [(18, 130), (0, x1)], [(0, m 152 x1), (18, 130)], m, XX)) rfl (fun g1 => ?_)
    refine T_run hD 1 (c' := (43, [(18, 130), (0, x1)], [(1, m 152 x1), (18, 130)], m, XX)) rfl ?_
    refine T_call hD (D2 := d_M_sayNumber) (q2 := 87) (as := [(18, 130), (1, m 152 x1)]) (c1 := (46, [(18, 130), (0, x1)], [], m, XX)) (mk := fun w => (0, (0, 0), w, XX)) (cc := fun v2 => (46, [(18, 130), (0, x1)], [], v2, XX)) rfl rfl (fun y9 h9y => Go.mono (tM_sayNumber m (m 152 x1) y9 h9y) (by decide)) (fun _ => rfl) (fun v2 => ?_)
    refine T_run hD 1 (c' := (102, [(18, 130), (0, x1)], [], v2, XX)) rfl ?_
    exact tM_sayLine_102 r v2  (0, x1)
  · refine T_run hD 3 (c' := (54, [(18, 130), (0, x1)], [(0, x1), (31, 154)], m, XX)) rfl ?_
    refine T_gd hD (c1 := (55, [(18, 130), (0, x1)], [(0, m 154 x1)], m, XX)) rfl (fun g4 => ?_)
    refine T_if hD (c1 := (79, _, _, _, _)) (c2 := (58, _, _, _, _)) rfl (fun _ => ?_) (fun _ => ?_)
    · exact tM_sayLine_79 r m x1 
    · refine T_run hD 3 (c' := (63, [(18, 130), (0, x1)], [(0, 2), (0, m 130 38)], m, XX)) rfl ?_
      refine T_if hD (c1 := (66, _, _, _, _)) (c2 := (79, _, _, _, _)) rfl (fun _ => ?_) (fun _ => ?_)
      · refine T_run hD 4 (c' := (72, [(18, 130), (0, x1)], [(0, x1), (32, 153), (18, 130)], m, XX)) rfl ?_
        refine T_gk hD (c1 := (73, [(18, 130), (0, x1)], [(1, m 153 x1), (18, 130)], m, XX)) (P := 0 ≤ x1 ∧ x1 < 16) rfl g4 ?_
        refine T_call hD (D2 := d_M_sayNumber) (q2 := 87) (as := [(18, 130), (1, m 153 x1)]) (c1 := (76, [(18, 130), (0, x1)], [], m, XX)) (mk := fun w => (0, (0, 0), w, XX)) (cc := fun v7 => (76, [(18, 130), (0, x1)], [], v7, XX)) rfl rfl (fun y9 h9y => Go.mono (tM_sayNumber m (m 153 x1) y9 h9y) (by decide)) (fun _ => rfl) (fun v7 => ?_)
        refine T_run hD 1 (c' := (102, [(18, 130), (0, x1)], [], v7, XX)) rfl ?_
        exact tM_sayLine_102 r v7  (0, x1)
      · exact tM_sayLine_79 r m x1 
def fM_sayLine (m : aM) (x1 : Int) : Option aM :=
  if m 130 39 < 0 then
    fM_sayLine_27 m x1
  else
    gd (0 ≤ x1 ∧ x1 < 16) (
    (fM_sayCell m (m 151 x1) (m 130 39)).bind fun v9 =>
    (fM_say v9 44).bind fun v10 =>
    fM_sayLine_27 v10 x1)
set_option maxRecDepth 100000 in
theorem tM_sayLine (m : aM) (x1 : Int) : ∀ v, fM_sayLine m x1 = some v → Go PB 5 91 (aEnt d_M_sayLine [(18, 130), (0, x1)] m XX) (0, (0, 0), v, XX) := by
  intro v hv
  have hD : aMd PB 91 = d_M_sayLine := rfl
  obtain ⟨r, hr⟩ : ∃ r : aR, r = (0, (0, 0), v, XX) := ⟨_, rfl⟩
  have h9 : aT PB 5 91 r (fun w => r = (0, (0, 0), w, XX)) (fM_sayLine m x1) (0, [(18, 130), (0, x1)], [], m, XX) := by
    unfold fM_sayLine
    refine T_run hD 2 (c' := (4, [(18, 130), (0, x1)], [(0, m 130 39)], m, XX)) rfl ?_
    refine T_if hD (c1 := (27, _, _, _, _)) (c2 := (7, _, _, _, _)) rfl (fun _ => ?_) (fun _ => ?_)
    · exact tM_sayLine_27 r m x1 
    · refine T_run hD 4 (c' := (13, [(18, 130), (0, x1)], [(0, x1), (31, 151), (18, 130)], m, XX)) rfl ?_
      refine T_gd hD (c1 := (14, [(18, 130), (0, x1)], [(0, m 151 x1), (18, 130)], m, XX)) rfl (fun g8 => ?_)
      refine T_run hD 2 (c' := (18, [(18, 130), (0, x1)], [(0, m 130 39), (0, m 151 x1), (18, 130)], m, XX)) rfl ?_
      refine T_call hD (D2 := d_M_sayCell) (q2 := 88) (as := [(18, 130), (0, m 151 x1), (0, m 130 39)]) (c1 := (21, [(18, 130), (0, x1)], [], m, XX)) (mk := fun w => (0, (0, 0), w, XX)) (cc := fun v9 => (21, [(18, 130), (0, x1)], [], v9, XX)) rfl rfl (fun y9 h9y => Go.mono (tM_sayCell m (m 151 x1) (m 130 39) y9 h9y) (by decide)) (fun _ => rfl) (fun v9 => ?_)
      refine T_run hD 2 (c' := (24, [(18, 130), (0, x1)], [(0, 44), (18, 130)], v9, XX)) rfl ?_
      refine T_call hD (D2 := d_M_say) (q2 := 85) (as := [(18, 130), (0, 44)]) (c1 := (27, [(18, 130), (0, x1)], [], v9, XX)) (mk := fun w => (0, (0, 0), w, XX)) (cc := fun v10 => (27, [(18, 130), (0, x1)], [], v10, XX)) rfl rfl (fun y9 h9y => Go.mono (tM_say v9 44 y9 h9y) (by decide)) (fun _ => rfl) (fun v10 => ?_)
      exact tM_sayLine_27 r v10 x1 
  rw [← hr]
  exact h9 v hv hr
abbrev hM_write_61 (x1 : Int) : (aM × Int) → aC → Prop := fun y c => c = (61, [(18, 130), (0, x1), (0, (y.2))], [], (y.1), XX)
abbrev hM_write_192 : (aM × Int) → aC → Prop := fun y c => ∃ (z1 : aV), c = (192, [(18, 130), z1, (0, (y.2))], [], (y.1), XX)
def fM_write_95 (m : aM) (x1 : Int) (x2 : Int) (s1 : Int) : Option ((aM × Int) ⊕ (Int × aM)) :=
  (fM_sayRow m s1).bind fun v2 =>
  some (Sum.inl (v2, w32 (x2 + 1)))
set_option maxRecDepth 100000 in
theorem tM_write_95 (r : aR) (m : aM) (x1 : Int) (x2 : Int) (s1 : Int) : aT PB 6 92 r (aTurn PB 6 92 r (hM_write_61 x1) (fun w => r = (1, (0, w.1), w.2, XX))) (fM_write_95 m x1 x2 s1) (95, [(18, 130), (0, x1), (0, x2)], [(0, s1), (18, 130)], m, XX) := by
  have hD : aMd PB 92 = d_M_write := rfl
  unfold fM_write_95
  refine T_call hD (D2 := d_M_sayRow) (q2 := 90) (as := [(18, 130), (0, s1)]) (c1 := (98, [(18, 130), (0, x1), (0, x2)], [], m, XX)) (mk := fun w => (0, (0, 0), w, XX)) (cc := fun v2 => (98, [(18, 130), (0, x1), (0, x2)], [], v2, XX)) rfl rfl (fun y9 h9y => Go.mono (tM_sayRow m s1 y9 h9y) (by decide)) (fun _ => rfl) (fun v2 => ?_)
  refine T_run hD 2 (c' := (61, [(18, 130), (0, x1), (0, w32 (x2 + 1))], [], v2, XX)) rfl ?_
  exact T_back0 rfl
def fM_write_77 (m : aM) (x1 : Int) (x2 : Int) (s0 : Int) (s1 : Int) : Option ((aM × Int) ⊕ (Int × aM)) :=
  if s0 < s1 then
    if x1 = 0 then
      fM_write_95 m x1 x2 x2
    else
      gd (0 ≤ x2 ∧ x2 < 16) (
      fM_write_95 m x1 x2 (m 151 x2))
  else
    some (Sum.inr ((m 130 45, m)))
set_option maxRecDepth 100000 in
theorem tM_write_77 (r : aR) (m : aM) (x1 : Int) (x2 : Int) (s0 : Int) (s1 : Int) : aT PB 6 92 r (aTurn PB 6 92 r (hM_write_61 x1) (fun w => r = (1, (0, w.1), w.2, XX))) (fM_write_77 m x1 x2 s0 s1) (77, [(18, 130), (0, x1), (0, x2)], [(0, s1), (0, s0)], m, XX) := by
  have hD : aMd PB 92 = d_M_write := rfl
  unfold fM_write_77
  refine T_if hD (c1 := (80, _, _, _, _)) (c2 := (104, _, _, _, _)) rfl (fun _ => ?_) (fun _ => ?_)
  · refine T_run hD 2 (c' := (82, [(18, 130), (0, x1), (0, x2)], [(0, x1), (18, 130)], m, XX)) rfl ?_
    refine T_if hD (c1 := (94, _, _, _, _)) (c2 := (85, _, _, _, _)) rfl (fun _ => ?_) (fun _ => ?_)
    · refine T_run hD 1 (c' := (95, [(18, 130), (0, x1), (0, x2)], [(0, x2), (18, 130)], m, XX)) rfl ?_
      exact tM_write_95 r m x1 x2 x2 
    · refine T_run hD 3 (c' := (90, [(18, 130), (0, x1), (0, x2)], [(0, x2), (31, 151), (18, 130)], m, XX)) rfl ?_
      refine T_gd hD (c1 := (91, [(18, 130), (0, x1), (0, x2)], [(0, m 151 x2), (18, 130)], m, XX)) rfl (fun g3 => ?_)
      refine T_run hD 1 (c' := (95, [(18, 130), (0, x1), (0, x2)], [(0, m 151 x2), (18, 130)], m, XX)) rfl ?_
      exact tM_write_95 r m x1 x2 (m 151 x2) 
  · refine T_run hD 2 (c' := (108, [(18, 130), (0, x1), (0, x2)], [(0, m 130 45)], m, XX)) rfl ?_
    exact T_fin hD rfl (fun h => h)
def fM_write_61_b (x1 : Int) : (aM × Int) → Option ((aM × Int) ⊕ (Int × aM)) := fun (m, x2) =>
  if x1 = 0 then
    fM_write_77 m x1 x2 x2 (m 130 5)
  else
    fM_write_77 m x1 x2 x2 (m 130 37)
def fM_write_61 (m : aM) (x1 : Int) (x2 : Int) : Option (Int × aM) := aLoop (fM_write_61_b x1) FU (m, x2)
set_option maxRecDepth 100000 in
theorem tM_write_61 (r : aR) (m : aM) (x1 : Int) (x2 : Int) : aT PB 6 92 r (fun w => r = (1, (0, w.1), w.2, XX)) (fM_write_61 m x1 x2) (61, [(18, 130), (0, x1), (0, x2)], [], m, XX) := by
  have hD : aMd PB 92 = d_M_write := rfl
  refine T_loop (Hd := (hM_write_61 x1)) ?_ FU _ _ rfl
  clear m x2
  intro y c hc
  obtain ⟨m, x2⟩ := y
  obtain rfl := hc
  unfold fM_write_61_b
  try dsimp only
  refine T_run hD 2 (c' := (63, [(18, 130), (0, x1), (0, x2)], [(0, x1), (0, x2)], m, XX)) rfl ?_
  refine T_if hD (c1 := (73, _, _, _, _)) (c2 := (66, _, _, _, _)) rfl (fun _ => ?_) (fun _ => ?_)
  · refine T_run hD 2 (c' := (77, [(18, 130), (0, x1), (0, x2)], [(0, m 130 5), (0, x2)], m, XX)) rfl ?_
    exact tM_write_77 r m x1 x2 x2 (m 130 5) 
  · refine T_run hD 3 (c' := (77, [(18, 130), (0, x1), (0, x2)], [(0, m 130 37), (0, x2)], m, XX)) rfl ?_
    exact tM_write_77 r m x1 x2 x2 (m 130 37) 
def fM_write_55 (m : aM) (x1 : Int) : Option (Int × aM) :=
  (fM_sayNames m).bind fun v1 =>
  fM_write_61 v1 x1 0
set_option maxRecDepth 100000 in
theorem tM_write_55 (r : aR) (m : aM) (x1 : Int) (z2 : aV) : aT PB 6 92 r (fun w => r = (1, (0, w.1), w.2, XX)) (fM_write_55 m x1) (55, [(18, 130), (0, x1), z2], [], m, XX) := by
  have hD : aMd PB 92 = d_M_write := rfl
  unfold fM_write_55
  refine T_run hD 1 (c' := (56, [(18, 130), (0, x1), z2], [(18, 130)], m, XX)) rfl ?_
  refine T_call hD (D2 := d_M_sayNames) (q2 := 89) (as := [(18, 130)]) (c1 := (59, [(18, 130), (0, x1), z2], [], m, XX)) (mk := fun w => (0, (0, 0), w, XX)) (cc := fun v1 => (59, [(18, 130), (0, x1), z2], [], v1, XX)) rfl rfl (fun y9 h9y => Go.mono (tM_sayNames m y9 h9y) (by decide)) (fun _ => rfl) (fun v1 => ?_)
  refine T_run hD 2 (c' := (61, [(18, 130), (0, x1), (0, 0)], [], v1, XX)) rfl ?_
  exact tM_write_61 r v1 x1 0 
def fM_write_192_b : (aM × Int) → Option ((aM × Int) ⊕ (Int × aM)) := fun (m, x2) =>
  if x2 < m 130 37 then
    (fM_sayLine m x2).bind fun v6 =>
    some (Sum.inl (v6, w32 (x2 + 1)))
  else
    some (Sum.inr ((m 130 45, m)))
def fM_write_192 (m : aM) (x2 : Int) : Option (Int × aM) := aLoop (fM_write_192_b ) FU (m, x2)
set_option maxRecDepth 100000 in
theorem tM_write_192 (r : aR) (m : aM) (x2 : Int) (z1 : aV) : aT PB 6 92 r (fun w => r = (1, (0, w.1), w.2, XX)) (fM_write_192 m x2) (192, [(18, 130), z1, (0, x2)], [], m, XX) := by
  have hD : aMd PB 92 = d_M_write := rfl
  refine T_loop (Hd := (hM_write_192 )) ?_ FU _ _ ⟨z1, rfl⟩
  clear m x2 z1
  intro y c hc
  obtain ⟨m, x2⟩ := y
  obtain ⟨z1, rfl⟩ := hc
  unfold fM_write_192_b
  try dsimp only
  refine T_run hD 3 (c' := (197, [(18, 130), z1, (0, x2)], [(0, m 130 37), (0, x2)], m, XX)) rfl ?_
  refine T_if hD (c1 := (200, _, _, _, _)) (c2 := (211, _, _, _, _)) rfl (fun _ => ?_) (fun _ => ?_)
  · refine T_run hD 2 (c' := (202, [(18, 130), z1, (0, x2)], [(0, x2), (18, 130)], m, XX)) rfl ?_
    refine T_call hD (D2 := d_M_sayLine) (q2 := 91) (as := [(18, 130), (0, x2)]) (c1 := (205, [(18, 130), z1, (0, x2)], [], m, XX)) (mk := fun w => (0, (0, 0), w, XX)) (cc := fun v6 => (205, [(18, 130), z1, (0, x2)], [], v6, XX)) rfl rfl (fun y9 h9y => Go.mono (tM_sayLine m x2 y9 h9y) (by decide)) (fun _ => rfl) (fun v6 => ?_)
    refine T_run hD 2 (c' := (192, [(18, 130), aJ z1, (0, w32 (x2 + 1))], [], v6, XX)) rfl ?_
    exact T_back0 ⟨_, rfl⟩
  · refine T_run hD 2 (c' := (215, [(18, 130), z1, (0, x2)], [(0, m 130 45)], m, XX)) rfl ?_
    exact T_fin hD rfl (fun h => h)
def fM_write_181 (m : aM) (s1 : Int) : Option (Int × aM) :=
  (fM_sayWord m s1).bind fun v4 =>
  (fM_say v4 10).bind fun v5 =>
  fM_write_192 v5 0
set_option maxRecDepth 100000 in
theorem tM_write_181 (r : aR) (m : aM) (s1 : Int) (z1 : aV) (z2 : aV) : aT PB 6 92 r (fun w => r = (1, (0, w.1), w.2, XX)) (fM_write_181 m s1) (181, [(18, 130), z1, z2], [(1, s1), (18, 130)], m, XX) := by
  have hD : aMd PB 92 = d_M_write := rfl
  unfold fM_write_181
  refine T_call hD (D2 := d_M_sayWord) (q2 := 86) (as := [(18, 130), (1, s1)]) (c1 := (184, [(18, 130), z1, z2], [], m, XX)) (mk := fun w => (0, (0, 0), w, XX)) (cc := fun v4 => (184, [(18, 130), z1, z2], [], v4, XX)) rfl rfl (fun y9 h9y => Go.mono (tM_sayWord m s1 y9 h9y) (by decide)) (fun _ => rfl) (fun v4 => ?_)
  refine T_run hD 2 (c' := (187, [(18, 130), z1, z2], [(0, 10), (18, 130)], v4, XX)) rfl ?_
  refine T_call hD (D2 := d_M_say) (q2 := 85) (as := [(18, 130), (0, 10)]) (c1 := (190, [(18, 130), z1, z2], [], v4, XX)) (mk := fun w => (0, (0, 0), w, XX)) (cc := fun v5 => (190, [(18, 130), z1, z2], [], v5, XX)) rfl rfl (fun y9 h9y => Go.mono (tM_say v4 10 y9 h9y) (by decide)) (fun _ => rfl) (fun v5 => ?_)
  refine T_run hD 2 (c' := (192, [(18, 130), aJ z1, (0, 0)], [], v5, XX)) rfl ?_
  exact tM_write_192 r v5 0 (aJ z1)
def fM_write_135 (m : aM) : Option (Int × aM) :=
  if m 130 38 = 1 then
    fM_write_181 m 500069396323
  else
    if m 130 38 = 2 then
      fM_write_181 m 7173491
    else
      if m 130 38 = 3 then
        fM_write_181 m 500151969132
      else
        fM_write_181 m 1953722221
set_option maxRecDepth 100000 in
theorem tM_write_135 (r : aR) (m : aM) (z1 : aV) (z2 : aV) : aT PB 6 92 r (fun w => r = (1, (0, w.1), w.2, XX)) (fM_write_135 m) (135, [(18, 130), z1, z2], [], m, XX) := by
  have hD : aMd PB 92 = d_M_write := rfl
  unfold fM_write_135
  refine T_run hD 4 (c' := (141, [(18, 130), z1, z2], [(0, 1), (0, m 130 38), (18, 130)], m, XX)) rfl ?_
  refine T_if hD (c1 := (144, _, _, _, _)) (c2 := (150, _, _, _, _)) rfl (fun _ => ?_) (fun _ => ?_)
  · refine T_run hD 2 (c' := (181, [(18, 130), z1, z2], [(1, 500069396323), (18, 130)], m, XX)) rfl ?_
    exact tM_write_181 r m 500069396323 z1 z2
  · refine T_run hD 3 (c' := (155, [(18, 130), z1, z2], [(0, 2), (0, m 130 38), (18, 130)], m, XX)) rfl ?_
    refine T_if hD (c1 := (158, _, _, _, _)) (c2 := (164, _, _, _, _)) rfl (fun _ => ?_) (fun _ => ?_)
    · refine T_run hD 2 (c' := (181, [(18, 130), z1, z2], [(1, 7173491), (18, 130)], m, XX)) rfl ?_
      exact tM_write_181 r m 7173491 z1 z2
    · refine T_run hD 3 (c' := (169, [(18, 130), z1, z2], [(0, 3), (0, m 130 38), (18, 130)], m, XX)) rfl ?_
      refine T_if hD (c1 := (172, _, _, _, _)) (c2 := (178, _, _, _, _)) rfl (fun _ => ?_) (fun _ => ?_)
      · refine T_run hD 2 (c' := (181, [(18, 130), z1, z2], [(1, 500151969132), (18, 130)], m, XX)) rfl ?_
        exact tM_write_181 r m 500151969132 z1 z2
      · refine T_run hD 1 (c' := (181, [(18, 130), z1, z2], [(1, 1953722221), (18, 130)], m, XX)) rfl ?_
        exact tM_write_181 r m 1953722221 z1 z2
def fM_write_27 (m : aM) (x1 : Int) (s1 : Int) : Option (Int × aM) :=
  if 0 < s1 then
    some ((0, mup m 130 0 s1))
  else
    if x1 = 0 then
      fM_write_55 (mup (mup m 130 0 s1) 130 45 0) x1
    else
      if m 130 38 = 0 then
        fM_write_55 (mup (mup m 130 0 s1) 130 45 0) x1
      else
        if m 130 39 < 0 then
          fM_write_135 (mup (mup m 130 0 s1) 130 45 0)
        else
          gd (0 ≤ m 130 39 ∧ m 130 39 < 6) (
          (fM_sayWord (mup (mup m 130 0 s1) 130 45 0) (m 132 (m 130 39))).bind fun v8 =>
          (fM_say v8 44).bind fun v9 =>
          fM_write_135 v9)
set_option maxRecDepth 100000 in
theorem tM_write_27 (r : aR) (m : aM) (x1 : Int) (s1 : Int) (z2 : aV) : aT PB 6 92 r (fun w => r = (1, (0, w.1), w.2, XX)) (fM_write_27 m x1 s1) (27, [(18, 130), (0, x1), z2], [(0, s1), (18, 130)], m, XX) := by
  have hD : aMd PB 92 = d_M_write := rfl
  unfold fM_write_27
  refine T_run hD 3 (c' := (34, [(18, 130), (0, x1), z2], [(0, s1)], mup m 130 0 s1, XX)) rfl ?_
  refine T_if hD (c1 := (37, _, _, _, _)) (c2 := (39, _, _, _, _)) rfl (fun _ => ?_) (fun _ => ?_)
  · refine T_run hD 1 (c' := (38, [(18, 130), (0, x1), z2], [(0, 0)], mup m 130 0 s1, XX)) rfl ?_
    exact T_fin hD rfl (fun h => h)
  · refine T_run hD 4 (c' := (45, [(18, 130), (0, x1), z2], [(0, x1)], mup (mup m 130 0 s1) 130 45 0, XX)) rfl ?_
    refine T_if hD (c1 := (55, _, _, _, _)) (c2 := (48, _, _, _, _)) rfl (fun _ => ?_) (fun _ => ?_)
    · exact tM_write_55 r (mup (mup m 130 0 s1) 130 45 0) x1 z2
    · refine T_run hD 2 (c' := (52, [(18, 130), (0, x1), z2], [(0, m 130 38)], mup (mup m 130 0 s1) 130 45 0, XX)) rfl ?_
      refine T_if hD (c1 := (55, _, _, _, _)) (c2 := (109, _, _, _, _)) rfl (fun _ => ?_) (fun _ => ?_)
      · exact tM_write_55 r (mup (mup m 130 0 s1) 130 45 0) x1 z2
      · refine T_run hD 2 (c' := (113, [(18, 130), (0, x1), z2], [(0, m 130 39)], mup (mup m 130 0 s1) 130 45 0, XX)) rfl ?_
        refine T_if hD (c1 := (135, _, _, _, _)) (c2 := (116, _, _, _, _)) rfl (fun _ => ?_) (fun _ => ?_)
        · exact tM_write_135 r (mup (mup m 130 0 s1) 130 45 0)  (0, x1) z2
        · refine T_run hD 5 (c' := (125, [(18, 130), (0, x1), z2], [(0, m 130 39), (32, 132), (18, 130)], mup (mup m 130 0 s1) 130 45 0, XX)) rfl ?_
          refine T_gd hD (c1 := (126, [(18, 130), (0, x1), z2], [(1, m 132 (m 130 39)), (18, 130)], mup (mup m 130 0 s1) 130 45 0, XX)) rfl (fun g7 => ?_)
          refine T_call hD (D2 := d_M_sayWord) (q2 := 86) (as := [(18, 130), (1, m 132 (m 130 39))]) (c1 := (129, [(18, 130), (0, x1), z2], [], mup (mup m 130 0 s1) 130 45 0, XX)) (mk := fun w => (0, (0, 0), w, XX)) (cc := fun v8 => (129, [(18, 130), (0, x1), z2], [], v8, XX)) rfl rfl (fun y9 h9y => Go.mono (tM_sayWord (mup (mup m 130 0 s1) 130 45 0) (m 132 (m 130 39)) y9 h9y) (by decide)) (fun _ => rfl) (fun v8 => ?_)
          refine T_run hD 2 (c' := (132, [(18, 130), (0, x1), z2], [(0, 44), (18, 130)], v8, XX)) rfl ?_
          refine T_call hD (D2 := d_M_say) (q2 := 85) (as := [(18, 130), (0, 44)]) (c1 := (135, [(18, 130), (0, x1), z2], [], v8, XX)) (mk := fun w => (0, (0, 0), w, XX)) (cc := fun v9 => (135, [(18, 130), (0, x1), z2], [], v9, XX)) rfl rfl (fun y9 h9y => Go.mono (tM_say v8 44 y9 h9y) (by decide)) (fun _ => rfl) (fun v9 => ?_)
          exact tM_write_135 r v9  (0, x1) z2
def fM_write (m : aM) (x1 : Int) : Option (Int × aM) :=
  if x1 = 0 then
    if m 130 4 = 0 then
      fM_write_27 m x1 1
    else
      fM_write_27 m x1 0
  else
    if m 130 37 < 0 then
      fM_write_27 m x1 1
    else
      fM_write_27 m x1 0
set_option maxRecDepth 100000 in
theorem tM_write (m : aM) (x1 : Int) : ∀ v, fM_write m x1 = some v → Go PB 6 92 (aEnt d_M_write [(18, 130), (0, x1)] m XX) (1, (0, v.1), v.2, XX) := by
  intro v hv
  have hD : aMd PB 92 = d_M_write := rfl
  obtain ⟨r, hr⟩ : ∃ r : aR, r = (1, (0, v.1), v.2, XX) := ⟨_, rfl⟩
  have h9 : aT PB 6 92 r (fun w => r = (1, (0, w.1), w.2, XX)) (fM_write m x1) (0, [(18, 130), (0, x1), (99, 0)], [], m, XX) := by
    unfold fM_write
    refine T_run hD 2 (c' := (2, [(18, 130), (0, x1), (99, 0)], [(0, x1), (18, 130)], m, XX)) rfl ?_
    refine T_if hD (c1 := (15, _, _, _, _)) (c2 := (5, _, _, _, _)) rfl (fun _ => ?_) (fun _ => ?_)
    · refine T_run hD 2 (c' := (19, [(18, 130), (0, x1), (99, 0)], [(0, m 130 4), (18, 130)], m, XX)) rfl ?_
      refine T_if hD (c1 := (22, _, _, _, _)) (c2 := (26, _, _, _, _)) rfl (fun _ => ?_) (fun _ => ?_)
      · refine T_run hD 2 (c' := (27, [(18, 130), (0, x1), (99, 0)], [(0, 1), (18, 130)], m, XX)) rfl ?_
        exact tM_write_27 r m x1 1 (99, 0)
      · refine T_run hD 1 (c' := (27, [(18, 130), (0, x1), (99, 0)], [(0, 0), (18, 130)], m, XX)) rfl ?_
        exact tM_write_27 r m x1 0 (99, 0)
    · refine T_run hD 2 (c' := (9, [(18, 130), (0, x1), (99, 0)], [(0, m 130 37), (18, 130)], m, XX)) rfl ?_
      refine T_if hD (c1 := (12, _, _, _, _)) (c2 := (26, _, _, _, _)) rfl (fun _ => ?_) (fun _ => ?_)
      · refine T_run hD 3 (c' := (27, [(18, 130), (0, x1), (99, 0)], [(0, 1), (18, 130)], m, XX)) rfl ?_
        exact tM_write_27 r m x1 1 (99, 0)
      · refine T_run hD 1 (c' := (27, [(18, 130), (0, x1), (99, 0)], [(0, 0), (18, 130)], m, XX)) rfl ?_
        exact tM_write_27 r m x1 0 (99, 0)
  rw [← hr]
  exact h9 v hv hr
def fM_out_18 (m : aM) (x1 : Int) (s1 : Int) : Option (Int × aM) :=
  if 0 < s1 then
    some ((0, mup m 130 0 s1))
  else
    gd (0 ≤ x1 ∧ x1 < 2000) (
    some ((m 155 x1, mup m 130 0 s1)))
set_option maxRecDepth 100000 in
theorem tM_out_18 (r : aR) (m : aM) (x1 : Int) (s1 : Int) : aT PB 1 93 r (fun w => r = (1, (0, w.1), w.2, XX)) (fM_out_18 m x1 s1) (18, [(18, 130), (0, x1)], [(0, s1), (18, 130)], m, XX) := by
  have hD : aMd PB 93 = d_M_out := rfl
  unfold fM_out_18
  refine T_run hD 3 (c' := (25, [(18, 130), (0, x1)], [(0, s1)], mup m 130 0 s1, XX)) rfl ?_
  refine T_if hD (c1 := (28, _, _, _, _)) (c2 := (32, _, _, _, _)) rfl (fun _ => ?_) (fun _ => ?_)
  · refine T_run hD 2 (c' := (38, [(18, 130), (0, x1)], [(0, 0)], mup m 130 0 s1, XX)) rfl ?_
    exact T_fin hD rfl (fun h => h)
  · refine T_run hD 3 (c' := (37, [(18, 130), (0, x1)], [(0, x1), (31, 155)], mup m 130 0 s1, XX)) rfl ?_
    refine T_gd hD (c1 := (38, [(18, 130), (0, x1)], [(0, m 155 x1)], mup m 130 0 s1, XX)) rfl (fun g1 => ?_)
    exact T_fin hD rfl (fun h => h)
def fM_out (m : aM) (x1 : Int) : Option (Int × aM) :=
  if x1 < 0 then
    fM_out_18 m x1 1
  else
    if x1 < m 130 45 then
      fM_out_18 m x1 0
    else
      fM_out_18 m x1 1
set_option maxRecDepth 100000 in
theorem tM_out (m : aM) (x1 : Int) : ∀ v, fM_out m x1 = some v → Go PB 1 93 (aEnt d_M_out [(18, 130), (0, x1)] m XX) (1, (0, v.1), v.2, XX) := by
  intro v hv
  have hD : aMd PB 93 = d_M_out := rfl
  obtain ⟨r, hr⟩ : ∃ r : aR, r = (1, (0, v.1), v.2, XX) := ⟨_, rfl⟩
  have h9 : aT PB 1 93 r (fun w => r = (1, (0, w.1), w.2, XX)) (fM_out m x1) (0, [(18, 130), (0, x1)], [], m, XX) := by
    unfold fM_out
    refine T_run hD 2 (c' := (2, [(18, 130), (0, x1)], [(0, x1), (18, 130)], m, XX)) rfl ?_
    refine T_if hD (c1 := (13, _, _, _, _)) (c2 := (5, _, _, _, _)) rfl (fun _ => ?_) (fun _ => ?_)
    · refine T_run hD 2 (c' := (18, [(18, 130), (0, x1)], [(0, 1), (18, 130)], m, XX)) rfl ?_
      exact tM_out_18 r m x1 1 
    · refine T_run hD 3 (c' := (10, [(18, 130), (0, x1)], [(0, m 130 45), (0, x1), (18, 130)], m, XX)) rfl ?_
      refine T_if hD (c1 := (17, _, _, _, _)) (c2 := (13, _, _, _, _)) rfl (fun _ => ?_) (fun _ => ?_)
      · refine T_run hD 1 (c' := (18, [(18, 130), (0, x1)], [(0, 0), (18, 130)], m, XX)) rfl ?_
        exact tM_out_18 r m x1 0 
      · refine T_run hD 2 (c' := (18, [(18, 130), (0, x1)], [(0, 1), (18, 130)], m, XX)) rfl ?_
        exact tM_out_18 r m x1 1 
  rw [← hr]
  exact h9 v hv hr
