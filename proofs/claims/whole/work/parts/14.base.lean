def fC_free (m : aM) (x0 : Int) : Int :=
  w32 ((LEN (x0 + 1)) - (m x0 1))
set_option maxRecDepth 100000 in
theorem tC_free (m : aM) (x0 : Int) (hx0 : ck x0) : Go PB 1 108 (aEnt d_C_free [(11, x0)] m XX) (1, (0, (fC_free m x0)), m, XX) := by
  have hD : aMd PB 108 = d_C_free := rfl
  show aU PB 1 108 (fun w => (1, (0, w), m, XX)) (fC_free m x0) (0, [(11, x0)], [], m, XX)
  unfold fC_free
  refine U_run hD 1 (c' := (1, [(11, x0)], [(11, x0)], m, XX)) rfl ?_
  refine U_step hD (c' := (4, [(11, x0)], [(30, x0 + 1)], m, XX)) (by rcases hx0 with rfl | rfl | rfl | rfl <;> rfl) ?_
  refine U_run hD 4 (c' := (10, [(11, x0)], [(0, w32 ((LEN (x0 + 1)) - (m x0 1)))], m, XX)) rfl ?_
  exact Go.fin hD rfl
def fX_byteOf (x0 : Int) (x2 : Int) : Int :=
  bAnd (w32 (lUshr x0 (w32 (8 * x2)))) 255
set_option maxRecDepth 100000 in
theorem tX_byteOf (m : aM) (x0 : Int) (x2 : Int) : Go PB 1 15 (aEnt d_X_byteOf [(1, x0), (0, x2)] m XX) (1, (0, (fX_byteOf x0 x2)), m, XX) := by
  have hD : aMd PB 15 = d_X_byteOf := rfl
  show aU PB 1 15 (fun w => (1, (0, w), m, XX)) (fX_byteOf x0 x2) (0, [(1, x0), (99, 0), (0, x2)], [], m, XX)
  unfold fX_byteOf
  refine U_run hD 8 (c' := (11, [(1, x0), (99, 0), (0, x2)], [(0, bAnd (w32 (lUshr x0 (w32 (8 * x2)))) 255)], m, XX)) rfl ?_
  exact Go.fin hD rfl
def fX_mayStand_12 (x0 : Int) (x1 : Int) : Int :=
  if x1 = 0 then
    if x0 = 10 then
      1
    else
      if x0 = 13 then
        1
      else
        0
  else
    0
set_option maxRecDepth 100000 in
theorem tX_mayStand_12 (m : aM) (x0 : Int) (x1 : Int) : aU PB 1 16 (fun w => (1, (0, w), m, XX)) (fX_mayStand_12 x0 x1) (12, [(0, x0), (0, x1)], [], m, XX) := by
  have hD : aMd PB 16 = d_X_mayStand := rfl
  unfold fX_mayStand_12
  refine U_run hD 1 (c' := (13, [(0, x0), (0, x1)], [(0, x1)], m, XX)) rfl ?_
  refine U_if hD (c1 := (16, _, _, _, _)) (c2 := (32, _, _, _, _)) rfl (fun _ => ?_) (fun _ => ?_)
  · refine U_run hD 2 (c' := (19, [(0, x0), (0, x1)], [(0, 10), (0, x0)], m, XX)) rfl ?_
    refine U_if hD (c1 := (28, _, _, _, _)) (c2 := (22, _, _, _, _)) rfl (fun _ => ?_) (fun _ => ?_)
    · refine U_run hD 2 (c' := (33, [(0, x0), (0, x1)], [(0, 1)], m, XX)) rfl ?_
      exact Go.fin hD rfl
    · refine U_run hD 2 (c' := (25, [(0, x0), (0, x1)], [(0, 13), (0, x0)], m, XX)) rfl ?_
      refine U_if hD (c1 := (28, _, _, _, _)) (c2 := (32, _, _, _, _)) rfl (fun _ => ?_) (fun _ => ?_)
      · refine U_run hD 2 (c' := (33, [(0, x0), (0, x1)], [(0, 1)], m, XX)) rfl ?_
        exact Go.fin hD rfl
      · refine U_run hD 1 (c' := (33, [(0, x0), (0, x1)], [(0, 0)], m, XX)) rfl ?_
        exact Go.fin hD rfl
  · refine U_run hD 1 (c' := (33, [(0, x0), (0, x1)], [(0, 0)], m, XX)) rfl ?_
    exact Go.fin hD rfl
def fX_mayStand (x0 : Int) (x1 : Int) : Int :=
  if x0 < 32 then
    fX_mayStand_12 x0 x1
  else
    if 126 < x0 then
      fX_mayStand_12 x0 x1
    else
      1
set_option maxRecDepth 100000 in
theorem tX_mayStand (m : aM) (x0 : Int) (x1 : Int) : Go PB 1 16 (aEnt d_X_mayStand [(0, x0), (0, x1)] m XX) (1, (0, (fX_mayStand x0 x1)), m, XX) := by
  have hD : aMd PB 16 = d_X_mayStand := rfl
  show aU PB 1 16 (fun w => (1, (0, w), m, XX)) (fX_mayStand x0 x1) (0, [(0, x0), (0, x1)], [], m, XX)
  unfold fX_mayStand
  refine U_run hD 2 (c' := (3, [(0, x0), (0, x1)], [(0, 32), (0, x0)], m, XX)) rfl ?_
  refine U_if hD (c1 := (12, _, _, _, _)) (c2 := (6, _, _, _, _)) rfl (fun _ => ?_) (fun _ => ?_)
  · exact tX_mayStand_12 m x0 x1 
  · refine U_run hD 2 (c' := (9, [(0, x0), (0, x1)], [(0, 126), (0, x0)], m, XX)) rfl ?_
    refine U_if hD (c1 := (12, _, _, _, _)) (c2 := (28, _, _, _, _)) rfl (fun _ => ?_) (fun _ => ?_)
    · exact tX_mayStand_12 m x0 x1 
    · refine U_run hD 2 (c' := (33, [(0, x0), (0, x1)], [(0, 1)], m, XX)) rfl ?_
      exact Go.fin hD rfl
def fC_add (m : aM) (x0 : Int) (x1 : Int) : Option aM :=
  if m x0 1 < LEN (x0 + 1) then
    gd (0 ≤ m x0 1 ∧ m x0 1 < LEN (x0 + 1)) (
    some (mup (mup m (x0 + 1) (m x0 1) ((x1 % 65536) % 65536)) x0 1 (w32 (((mup m (x0 + 1) (m x0 1) ((x1 % 65536) % 65536)) x0 1) + 1))))
  else
    some (m)
set_option maxRecDepth 100000 in
theorem tC_add (m : aM) (x0 : Int) (x1 : Int) (hx0 : ck x0) : ∀ v, fC_add m x0 x1 = some v → Go PB 1 109 (aEnt d_C_add [(11, x0), (0, x1)] m XX) (0, (0, 0), v, XX) := by
  intro v hv
  have hD : aMd PB 109 = d_C_add := rfl
  obtain ⟨r, hr⟩ : ∃ r : aR, r = (0, (0, 0), v, XX) := ⟨_, rfl⟩
  have h9 : aT PB 1 109 r (fun w => r = (0, (0, 0), w, XX)) (fC_add m x0 x1) (0, [(11, x0), (0, x1)], [], m, XX) := by
    unfold fC_add
    refine T_run hD 3 (c' := (5, [(11, x0), (0, x1)], [(11, x0), (0, m x0 1)], m, XX)) rfl ?_
    refine T_step hD (c' := (8, [(11, x0), (0, x1)], [(30, x0 + 1), (0, m x0 1)], m, XX)) (by rcases hx0 with rfl | rfl | rfl | rfl <;> rfl) ?_
    refine T_run hD 1 (c' := (9, [(11, x0), (0, x1)], [(0, LEN (x0 + 1)), (0, m x0 1)], m, XX)) rfl ?_
    refine T_if hD (c1 := (12, _, _, _, _)) (c2 := (33, _, _, _, _)) rfl (fun _ => ?_) (fun _ => ?_)
    · refine T_run hD 1 (c' := (13, [(11, x0), (0, x1)], [(11, x0)], m, XX)) rfl ?_
      refine T_step hD (c' := (16, [(11, x0), (0, x1)], [(30, x0 + 1)], m, XX)) (by rcases hx0 with rfl | rfl | rfl | rfl <;> rfl) ?_
      refine T_run hD 4 (c' := (22, [(11, x0), (0, x1)], [(0, x1 % 65536), (0, m x0 1), (30, x0 + 1)], m, XX)) rfl ?_
      refine T_gd hD (c1 := (23, [(11, x0), (0, x1)], [], mup m (x0 + 1) (m x0 1) ((x1 % 65536) % 65536), XX)) rfl (fun g1 => ?_)
      refine T_run hD 6 (c' := (33, [(11, x0), (0, x1)], [], mup (mup m (x0 + 1) (m x0 1) ((x1 % 65536) % 65536)) x0 1 (w32 (((mup m (x0 + 1) (m x0 1) ((x1 % 65536) % 65536)) x0 1) + 1)), XX)) rfl ?_
      exact T_fin hD rfl (fun h => h)
    · exact T_fin hD rfl (fun h => h)
  rw [← hr]
  exact h9 v hv hr
def fC_keepFirst (m : aM) (x0 : Int) (x1 : Int) : aM :=
  if x1 < 0 then
    m
  else
    if m x0 1 < x1 then
      m
    else
      mup m x0 1 x1
set_option maxRecDepth 100000 in
theorem tC_keepFirst (m : aM) (x0 : Int) (x1 : Int) (hx0 : ck x0) : Go PB 1 112 (aEnt d_C_keepFirst [(11, x0), (0, x1)] m XX) (0, (0, 0), (fC_keepFirst m x0 x1), XX) := by
  have hD : aMd PB 112 = d_C_keepFirst := rfl
  show aU PB 1 112 (fun w => (0, (0, 0), w, XX)) (fC_keepFirst m x0 x1) (0, [(11, x0), (0, x1)], [], m, XX)
  unfold fC_keepFirst
  refine U_run hD 1 (c' := (1, [(11, x0), (0, x1)], [(0, x1)], m, XX)) rfl ?_
  refine U_if hD (c1 := (17, _, _, _, _)) (c2 := (4, _, _, _, _)) rfl (fun _ => ?_) (fun _ => ?_)
  · exact Go.fin hD rfl
  · refine U_run hD 3 (c' := (9, [(11, x0), (0, x1)], [(0, m x0 1), (0, x1)], m, XX)) rfl ?_
    refine U_if hD (c1 := (17, _, _, _, _)) (c2 := (12, _, _, _, _)) rfl (fun _ => ?_) (fun _ => ?_)
    · exact Go.fin hD rfl
    · refine U_run hD 3 (c' := (17, [(11, x0), (0, x1)], [], mup m x0 1 x1, XX)) rfl ?_
      exact Go.fin hD rfl
def fC_at (m : aM) (x0 : Int) (x1 : Int) : Option Int :=
  if x1 < 0 then
    some ((-1))
  else
    if x1 < m x0 1 then
      if x1 < LEN (x0 + 1) then
        gd (0 ≤ x1 ∧ x1 < LEN (x0 + 1)) (
        some (m (x0 + 1) x1))
      else
        some ((-1))
    else
      some ((-1))
set_option maxRecDepth 100000 in
theorem tC_at (m : aM) (x0 : Int) (x1 : Int) (hx0 : ck x0) : ∀ v, fC_at m x0 x1 = some v → Go PB 1 107 (aEnt d_C_at [(11, x0), (0, x1)] m XX) (1, (0, v), m, XX) := by
  intro v hv
  have hD : aMd PB 107 = d_C_at := rfl
  obtain ⟨r, hr⟩ : ∃ r : aR, r = (1, (0, v), m, XX) := ⟨_, rfl⟩
  have h9 : aT PB 1 107 r (fun w => r = (1, (0, w), m, XX)) (fC_at m x0 x1) (0, [(11, x0), (0, x1)], [], m, XX) := by
    unfold fC_at
    refine T_run hD 1 (c' := (1, [(11, x0), (0, x1)], [(0, x1)], m, XX)) rfl ?_
    refine T_if hD (c1 := (30, _, _, _, _)) (c2 := (4, _, _, _, _)) rfl (fun _ => ?_) (fun _ => ?_)
    · refine T_run hD 1 (c' := (31, [(11, x0), (0, x1)], [(0, (-1))], m, XX)) rfl ?_
      exact T_fin hD rfl (fun h => h)
    · refine T_run hD 3 (c' := (9, [(11, x0), (0, x1)], [(0, m x0 1), (0, x1)], m, XX)) rfl ?_
      refine T_if hD (c1 := (12, _, _, _, _)) (c2 := (30, _, _, _, _)) rfl (fun _ => ?_) (fun _ => ?_)
      · refine T_run hD 2 (c' := (14, [(11, x0), (0, x1)], [(11, x0), (0, x1)], m, XX)) rfl ?_
        refine T_step hD (c' := (17, [(11, x0), (0, x1)], [(30, x0 + 1), (0, x1)], m, XX)) (by rcases hx0 with rfl | rfl | rfl | rfl <;> rfl) ?_
        refine T_run hD 1 (c' := (18, [(11, x0), (0, x1)], [(0, LEN (x0 + 1)), (0, x1)], m, XX)) rfl ?_
        refine T_if hD (c1 := (21, _, _, _, _)) (c2 := (30, _, _, _, _)) rfl (fun _ => ?_) (fun _ => ?_)
        · refine T_run hD 1 (c' := (22, [(11, x0), (0, x1)], [(11, x0)], m, XX)) rfl ?_
          refine T_step hD (c' := (25, [(11, x0), (0, x1)], [(30, x0 + 1)], m, XX)) (by rcases hx0 with rfl | rfl | rfl | rfl <;> rfl) ?_
          refine T_run hD 1 (c' := (26, [(11, x0), (0, x1)], [(0, x1), (30, x0 + 1)], m, XX)) rfl ?_
          refine T_gd hD (c1 := (27, [(11, x0), (0, x1)], [(0, m (x0 + 1) x1)], m, XX)) rfl (fun g1 => ?_)
          refine T_run hD 1 (c' := (31, [(11, x0), (0, x1)], [(0, m (x0 + 1) x1)], m, XX)) rfl ?_
          exact T_fin hD rfl (fun h => h)
        · refine T_run hD 1 (c' := (31, [(11, x0), (0, x1)], [(0, (-1))], m, XX)) rfl ?_
          exact T_fin hD rfl (fun h => h)
      · refine T_run hD 1 (c' := (31, [(11, x0), (0, x1)], [(0, (-1))], m, XX)) rfl ?_
        exact T_fin hD rfl (fun h => h)
  rw [← hr]
  exact h9 v hv hr
def fR_endRecord_34 (m : aM) (x1 : Int) : (Int × aM) :=
  (0, mup (mup (mup m 8 4 (w32 ((m 8 4) + 1))) 8 6 0) 8 7 x1)
set_option maxRecDepth 100000 in
theorem tR_endRecord_34 (m : aM) (x1 : Int) : aU PB 1 150 (fun w => (1, (0, w.1), w.2, XX)) (fR_endRecord_34 m x1) (34, [(13, 8), (0, x1)], [], m, XX) := by
  have hD : aMd PB 150 = d_R_endRecord := rfl
  unfold fR_endRecord_34
  refine U_run hD 13 (c' := (55, [(13, 8), (0, x1)], [(0, 0)], mup (mup (mup m 8 4 (w32 ((m 8 4) + 1))) 8 6 0) 8 7 x1, XX)) rfl ?_
  exact Go.fin hD rfl
def fR_endRecord (m : aM) (x1 : Int) : (Int × aM) :=
  if m 8 4 = 0 then
    fR_endRecord_34 (mup m 8 5 (m 8 6)) x1
  else
    if m 8 6 = m 8 5 then
      fR_endRecord_34 m x1
    else
      fR_endRecord_34 (mup m 8 8 0) x1
set_option maxRecDepth 100000 in
theorem tR_endRecord (m : aM) (x1 : Int) : Go PB 1 150 (aEnt d_R_endRecord [(13, 8), (0, x1)] m XX) (1, (0, (fR_endRecord m x1).1), (fR_endRecord m x1).2, XX) := by
  have hD : aMd PB 150 = d_R_endRecord := rfl
  show aU PB 1 150 (fun w => (1, (0, w.1), w.2, XX)) (fR_endRecord m x1) (0, [(13, 8), (0, x1)], [], m, XX)
  unfold fR_endRecord
  refine U_run hD 2 (c' := (4, [(13, 8), (0, x1)], [(0, m 8 4)], m, XX)) rfl ?_
  refine U_if hD (c1 := (7, _, _, _, _)) (c2 := (18, _, _, _, _)) rfl (fun _ => ?_) (fun _ => ?_)
  · refine U_run hD 5 (c' := (34, [(13, 8), (0, x1)], [], mup m 8 5 (m 8 6), XX)) rfl ?_
    exact tR_endRecord_34 (mup m 8 5 (m 8 6)) x1 
  · refine U_run hD 4 (c' := (26, [(13, 8), (0, x1)], [(0, m 8 5), (0, m 8 6)], m, XX)) rfl ?_
    refine U_if hD (c1 := (34, _, _, _, _)) (c2 := (29, _, _, _, _)) rfl (fun _ => ?_) (fun _ => ?_)
    · exact tR_endRecord_34 m x1 
    · refine U_run hD 3 (c' := (34, [(13, 8), (0, x1)], [], mup m 8 8 0, XX)) rfl ?_
      exact tR_endRecord_34 (mup m 8 8 0) x1 
def fR_endField_65 (m : aM) : Option aM :=
  some (mup (mup m 8 3 (w32 ((m 8 3) + 1))) 8 6 (w32 ((m 8 6) + 1)))
set_option maxRecDepth 100000 in
theorem tR_endField_65 (r : aR) (m : aM) (z1 : aV) (z2 : aV) : aT PB 1 149 r (fun w => r = (0, (0, 0), w, XX)) (fR_endField_65 m) (65, [(13, 8), z1, z2], [], m, XX) := by
  have hD : aMd PB 149 = d_R_endField := rfl
  unfold fR_endField_65
  refine T_run hD 12 (c' := (85, [(13, 8), z1, z2], [], mup (mup m 8 3 (w32 ((m 8 3) + 1))) 8 6 (w32 ((m 8 6) + 1)), XX)) rfl ?_
  exact T_fin hD rfl (fun h => h)
def fR_endField_34 (m : aM) (x1 : Int) (x2 : Int) (s0 : Int) (s1 : Int) (s2 : Int) : Option aM :=
  gd (0 ≤ s1 ∧ s1 < LEN s0) (
  if x2 = 0 then
    gd (0 ≤ (mup m s0 s1 s2) 8 3 ∧ (mup m s0 s1 s2) 8 3 < 102) (
    gd (x2 = 0 ∨ x2 = 1) (
    fR_endField_65 (mup (mup (mup m s0 s1 s2) 10 ((mup m s0 s1 s2) 8 3) x1) 11 ((mup m s0 s1 s2) 8 3) x2)))
  else
    gd (0 ≤ (mup m s0 s1 s2) 8 3 ∧ (mup m s0 s1 s2) 8 3 < 102) (
    gd (x2 = 0 ∨ x2 = 1) (
    fR_endField_65 (mup (mup (mup m s0 s1 s2) 10 ((mup m s0 s1 s2) 8 3) (w32 (x1 - 1))) 11 ((mup m s0 s1 s2) 8 3) x2))))
set_option maxRecDepth 100000 in
theorem tR_endField_34 (r : aR) (m : aM) (x1 : Int) (x2 : Int) (s0 : Int) (s1 : Int) (s2 : Int) : aT PB 1 149 r (fun w => r = (0, (0, 0), w, XX)) (fR_endField_34 m x1 x2 s0 s1 s2) (34, [(13, 8), (0, x1), (0, x2)], [(0, s2), (0, s1), (31, s0)], m, XX) := by
  have hD : aMd PB 149 = d_R_endField := rfl
  unfold fR_endField_34
  refine T_gd hD (c1 := (35, [(13, 8), (0, x1), (0, x2)], [], mup m s0 s1 s2, XX)) rfl (fun g1 => ?_)
  refine T_run hD 5 (c' := (44, [(13, 8), (0, x1), (0, x2)], [(0, x2), (0, (mup m s0 s1 s2) 8 3), (31, 10)], mup m s0 s1 s2, XX)) rfl ?_
  refine T_if hD (c1 := (53, _, _, _, _)) (c2 := (47, _, _, _, _)) rfl (fun _ => ?_) (fun _ => ?_)
  · refine T_run hD 1 (c' := (54, [(13, 8), (0, x1), (0, x2)], [(0, x1), (0, (mup m s0 s1 s2) 8 3), (31, 10)], mup m s0 s1 s2, XX)) rfl ?_
    refine T_gd hD (c1 := (55, [(13, 8), (0, x1), (0, x2)], [], mup (mup m s0 s1 s2) 10 ((mup m s0 s1 s2) 8 3) x1, XX)) rfl (fun g2 => ?_)
    refine T_run hD 5 (c' := (64, [(13, 8), (0, x1), (0, x2)], [(0, x2), (0, (mup m s0 s1 s2) 8 3), (33, 11)], mup (mup m s0 s1 s2) 10 ((mup m s0 s1 s2) 8 3) x1, XX)) rfl ?_
    refine T_gdk hD (c1 := (65, [(13, 8), (0, x1), (0, x2)], [], mup (mup (mup m s0 s1 s2) 10 ((mup m s0 s1 s2) 8 3) x1) 11 ((mup m s0 s1 s2) 8 3) x2, XX)) (Q := 0 ≤ (mup m s0 s1 s2) 8 3 ∧ (mup m s0 s1 s2) 8 3 < 102) rfl g2 (fun _ => ?_)
    exact tR_endField_65 r (mup (mup (mup m s0 s1 s2) 10 ((mup m s0 s1 s2) 8 3) x1) 11 ((mup m s0 s1 s2) 8 3) x2)  (0, x1) (0, x2)
  · refine T_run hD 4 (c' := (54, [(13, 8), (0, x1), (0, x2)], [(0, w32 (x1 - 1)), (0, (mup m s0 s1 s2) 8 3), (31, 10)], mup m s0 s1 s2, XX)) rfl ?_
    refine T_gd hD (c1 := (55, [(13, 8), (0, x1), (0, x2)], [], mup (mup m s0 s1 s2) 10 ((mup m s0 s1 s2) 8 3) (w32 (x1 - 1)), XX)) rfl (fun g3 => ?_)
    refine T_run hD 5 (c' := (64, [(13, 8), (0, x1), (0, x2)], [(0, x2), (0, (mup m s0 s1 s2) 8 3), (33, 11)], mup (mup m s0 s1 s2) 10 ((mup m s0 s1 s2) 8 3) (w32 (x1 - 1)), XX)) rfl ?_
    refine T_gdk hD (c1 := (65, [(13, 8), (0, x1), (0, x2)], [], mup (mup (mup m s0 s1 s2) 10 ((mup m s0 s1 s2) 8 3) (w32 (x1 - 1))) 11 ((mup m s0 s1 s2) 8 3) x2, XX)) (Q := 0 ≤ (mup m s0 s1 s2) 8 3 ∧ (mup m s0 s1 s2) 8 3 < 102) rfl g3 (fun _ => ?_)
    exact tR_endField_65 r (mup (mup (mup m s0 s1 s2) 10 ((mup m s0 s1 s2) 8 3) (w32 (x1 - 1))) 11 ((mup m s0 s1 s2) 8 3) x2)  (0, x1) (0, x2)
def fR_endField (m : aM) (x1 : Int) (x2 : Int) : Option aM :=
  if m 8 3 < 102 then
    if x2 = 0 then
      fR_endField_34 m x1 x2 9 (m 8 3) (m 8 7)
    else
      fR_endField_34 m x1 x2 9 (m 8 3) (w32 ((m 8 7) + 1))
  else
    fR_endField_65 m
set_option maxRecDepth 100000 in
theorem tR_endField (m : aM) (x1 : Int) (x2 : Int) : ∀ v, fR_endField m x1 x2 = some v → Go PB 1 149 (aEnt d_R_endField [(13, 8), (0, x1), (0, x2)] m XX) (0, (0, 0), v, XX) := by
  intro v hv
  have hD : aMd PB 149 = d_R_endField := rfl
  obtain ⟨r, hr⟩ : ∃ r : aR, r = (0, (0, 0), v, XX) := ⟨_, rfl⟩
  have h9 : aT PB 1 149 r (fun w => r = (0, (0, 0), w, XX)) (fR_endField m x1 x2) (0, [(13, 8), (0, x1), (0, x2)], [], m, XX) := by
    unfold fR_endField
    refine T_run hD 3 (c' := (6, [(13, 8), (0, x1), (0, x2)], [(0, 102), (0, m 8 3)], m, XX)) rfl ?_
    refine T_if hD (c1 := (9, _, _, _, _)) (c2 := (65, _, _, _, _)) rfl (fun _ => ?_) (fun _ => ?_)
    · refine T_run hD 5 (c' := (18, [(13, 8), (0, x1), (0, x2)], [(0, x2), (0, m 8 3), (31, 9)], m, XX)) rfl ?_
      refine T_if hD (c1 := (30, _, _, _, _)) (c2 := (21, _, _, _, _)) rfl (fun _ => ?_) (fun _ => ?_)
      · refine T_run hD 2 (c' := (34, [(13, 8), (0, x1), (0, x2)], [(0, m 8 7), (0, m 8 3), (31, 9)], m, XX)) rfl ?_
        exact tR_endField_34 r m x1 x2 9 (m 8 3) (m 8 7) 
      · refine T_run hD 5 (c' := (34, [(13, 8), (0, x1), (0, x2)], [(0, w32 ((m 8 7) + 1)), (0, m 8 3), (31, 9)], m, XX)) rfl ?_
        exact tR_endField_34 r m x1 x2 9 (m 8 3) (w32 ((m 8 7) + 1)) 
    · exact tR_endField_65 r m  (0, x1) (0, x2)
  rw [← hr]
  exact h9 v hv hr
def fR_stateBehind_110 (m : aM) (x2 : Int) (x3 : Int) (s1 : Int) (s2 : Int) : Option (Int × aM) :=
  (fR_endField m s1 s2).bind fun v1 =>
  if x2 = 13 then
    some ((5, v1))
  else
    if x2 = 10 then
      some (((fR_endRecord v1 (w32 (x3 + 1))).1, (fR_endRecord v1 (w32 (x3 + 1))).2))
    else
      some ((1, mup v1 8 7 (w32 (x3 + 1))))
set_option maxRecDepth 100000 in
theorem tR_stateBehind_110 (r : aR) (m : aM) (x2 : Int) (x3 : Int) (s1 : Int) (s2 : Int) (z1 : aV) : aT PB 2 148 r (fun w => r = (1, (0, w.1), w.2, XX)) (fR_stateBehind_110 m x2 x3 s1 s2) (110, [(13, 8), z1, (0, x2), (0, x3)], [(0, s2), (0, s1), (13, 8)], m, XX) := by
  have hD : aMd PB 148 = d_R_stateBehind := rfl
  unfold fR_stateBehind_110
  refine T_call hD (D2 := d_R_endField) (q2 := 149) (as := [(13, 8), (0, s1), (0, s2)]) (c1 := (113, [(13, 8), z1, (0, x2), (0, x3)], [], m, XX)) (mk := fun w => (0, (0, 0), w, XX)) (cc := fun v1 => (113, [(13, 8), z1, (0, x2), (0, x3)], [], v1, XX)) rfl rfl (fun y9 h9y => Go.mono (tR_endField m s1 s2 y9 h9y) (by decide)) (fun _ => rfl) (fun v1 => ?_)
  refine T_run hD 2 (c' := (116, [(13, 8), z1, (0, x2), (0, x3)], [(0, 13), (0, x2)], v1, XX)) rfl ?_
  refine T_if hD (c1 := (119, _, _, _, _)) (c2 := (121, _, _, _, _)) rfl (fun _ => ?_) (fun _ => ?_)
  · refine T_run hD 1 (c' := (120, [(13, 8), z1, (0, x2), (0, x3)], [(0, 5)], v1, XX)) rfl ?_
    exact T_fin hD rfl (fun h => h)
  · refine T_run hD 2 (c' := (124, [(13, 8), z1, (0, x2), (0, x3)], [(0, 10), (0, x2)], v1, XX)) rfl ?_
    refine T_if hD (c1 := (127, _, _, _, _)) (c2 := (135, _, _, _, _)) rfl (fun _ => ?_) (fun _ => ?_)
    · refine T_run hD 4 (c' := (131, [(13, 8), z1, (0, x2), (0, x3)], [(0, w32 (x3 + 1)), (13, 8)], v1, XX)) rfl ?_
      refine T_call0 hD (D2 := d_R_endRecord) (q2 := 150) (as := [(13, 8), (0, w32 (x3 + 1))]) (c1 := (134, [(13, 8), z1, (0, x2), (0, x3)], [], v1, XX)) (r2 := (1, (0, (fR_endRecord v1 (w32 (x3 + 1))).1), (fR_endRecord v1 (w32 (x3 + 1))).2, XX)) (c2 := (134, [(13, 8), z1, (0, x2), (0, x3)], [(0, (fR_endRecord v1 (w32 (x3 + 1))).1)], (fR_endRecord v1 (w32 (x3 + 1))).2, XX)) rfl rfl (Go.mono (tR_endRecord v1 (w32 (x3 + 1))) (by decide)) rfl ?_
      exact T_fin hD rfl (fun h => h)
    · refine T_run hD 6 (c' := (143, [(13, 8), z1, (0, x2), (0, x3)], [(0, 1)], mup v1 8 7 (w32 (x3 + 1)), XX)) rfl ?_
      exact T_fin hD rfl (fun h => h)
def fR_stateBehind_98 (m : aM) (x1 : Int) (x2 : Int) (x3 : Int) : Option (Int × aM) :=
  if x1 = 4 then
    fR_stateBehind_110 m x2 x3 x3 1
  else
    fR_stateBehind_110 m x2 x3 x3 0
set_option maxRecDepth 100000 in
theorem tR_stateBehind_98 (r : aR) (m : aM) (x1 : Int) (x2 : Int) (x3 : Int) : aT PB 2 148 r (fun w => r = (1, (0, w.1), w.2, XX)) (fR_stateBehind_98 m x1 x2 x3) (98, [(13, 8), (0, x1), (0, x2), (0, x3)], [], m, XX) := by
  have hD : aMd PB 148 = d_R_stateBehind := rfl
  unfold fR_stateBehind_98
  refine T_run hD 4 (c' := (102, [(13, 8), (0, x1), (0, x2), (0, x3)], [(0, 4), (0, x1), (0, x3), (13, 8)], m, XX)) rfl ?_
  refine T_if hD (c1 := (105, _, _, _, _)) (c2 := (109, _, _, _, _)) rfl (fun _ => ?_) (fun _ => ?_)
  · refine T_run hD 2 (c' := (110, [(13, 8), (0, x1), (0, x2), (0, x3)], [(0, 1), (0, x3), (13, 8)], m, XX)) rfl ?_
    exact tR_stateBehind_110 r m x2 x3 x3 1 (0, x1)
  · refine T_run hD 1 (c' := (110, [(13, 8), (0, x1), (0, x2), (0, x3)], [(0, 0), (0, x3), (13, 8)], m, XX)) rfl ?_
    exact tR_stateBehind_110 r m x2 x3 x3 0 (0, x1)
def fR_stateBehind (m : aM) (x1 : Int) (x2 : Int) (x3 : Int) : Option (Int × aM) :=
  if x1 = 6 then
    some ((6, m))
  else
    if x1 = 3 then
      if x2 = 34 then
        some ((4, m))
      else
        some ((3, m))
    else
      if x1 = 5 then
        if x2 = 10 then
          some (((fR_endRecord m (w32 (x3 + 1))).1, (fR_endRecord m (w32 (x3 + 1))).2))
        else
          some ((6, m))
      else
        if x2 = 34 then
          if x1 = 2 then
            some ((6, m))
          else
            some ((3, m))
        else
          if x2 = 44 then
            fR_stateBehind_98 m x1 x2 x3
          else
            if x2 = 10 then
              fR_stateBehind_98 m x1 x2 x3
            else
              if x2 = 13 then
                fR_stateBehind_98 m x1 x2 x3
              else
                if x1 = 4 then
                  some ((6, m))
                else
                  some ((2, m))
set_option maxRecDepth 100000 in
theorem tR_stateBehind (m : aM) (x1 : Int) (x2 : Int) (x3 : Int) : ∀ v, fR_stateBehind m x1 x2 x3 = some v → Go PB 2 148 (aEnt d_R_stateBehind [(13, 8), (0, x1), (0, x2), (0, x3)] m XX) (1, (0, v.1), v.2, XX) := by
  intro v hv
  have hD : aMd PB 148 = d_R_stateBehind := rfl
  obtain ⟨r, hr⟩ : ∃ r : aR, r = (1, (0, v.1), v.2, XX) := ⟨_, rfl⟩
  have h9 : aT PB 2 148 r (fun w => r = (1, (0, w.1), w.2, XX)) (fR_stateBehind m x1 x2 x3) (0, [(13, 8), (0, x1), (0, x2), (0, x3)], [], m, XX) := by
    unfold fR_stateBehind
    refine T_run hD 2 (c' := (3, [(13, 8), (0, x1), (0, x2), (0, x3)], [(0, 6), (0, x1)], m, XX)) rfl ?_
    refine T_if hD (c1 := (6, _, _, _, _)) (c2 := (9, _, _, _, _)) rfl (fun _ => ?_) (fun _ => ?_)
    · refine T_run hD 1 (c' := (8, [(13, 8), (0, x1), (0, x2), (0, x3)], [(0, 6)], m, XX)) rfl ?_
      exact T_fin hD rfl (fun h => h)
    · refine T_run hD 2 (c' := (11, [(13, 8), (0, x1), (0, x2), (0, x3)], [(0, 3), (0, x1)], m, XX)) rfl ?_
      refine T_if hD (c1 := (14, _, _, _, _)) (c2 := (26, _, _, _, _)) rfl (fun _ => ?_) (fun _ => ?_)
      · refine T_run hD 2 (c' := (17, [(13, 8), (0, x1), (0, x2), (0, x3)], [(0, 34), (0, x2)], m, XX)) rfl ?_
        refine T_if hD (c1 := (20, _, _, _, _)) (c2 := (24, _, _, _, _)) rfl (fun _ => ?_) (fun _ => ?_)
        · refine T_run hD 2 (c' := (25, [(13, 8), (0, x1), (0, x2), (0, x3)], [(0, 4)], m, XX)) rfl ?_
          exact T_fin hD rfl (fun h => h)
        · refine T_run hD 1 (c' := (25, [(13, 8), (0, x1), (0, x2), (0, x3)], [(0, 3)], m, XX)) rfl ?_
          exact T_fin hD rfl (fun h => h)
      · refine T_run hD 2 (c' := (28, [(13, 8), (0, x1), (0, x2), (0, x3)], [(0, 5), (0, x1)], m, XX)) rfl ?_
        refine T_if hD (c1 := (31, _, _, _, _)) (c2 := (50, _, _, _, _)) rfl (fun _ => ?_) (fun _ => ?_)
        · refine T_run hD 2 (c' := (34, [(13, 8), (0, x1), (0, x2), (0, x3)], [(0, 10), (0, x2)], m, XX)) rfl ?_
          refine T_if hD (c1 := (37, _, _, _, _)) (c2 := (47, _, _, _, _)) rfl (fun _ => ?_) (fun _ => ?_)
          · refine T_run hD 4 (c' := (41, [(13, 8), (0, x1), (0, x2), (0, x3)], [(0, w32 (x3 + 1)), (13, 8)], m, XX)) rfl ?_
            refine T_call0 hD (D2 := d_R_endRecord) (q2 := 150) (as := [(13, 8), (0, w32 (x3 + 1))]) (c1 := (44, [(13, 8), (0, x1), (0, x2), (0, x3)], [], m, XX)) (r2 := (1, (0, (fR_endRecord m (w32 (x3 + 1))).1), (fR_endRecord m (w32 (x3 + 1))).2, XX)) (c2 := (44, [(13, 8), (0, x1), (0, x2), (0, x3)], [(0, (fR_endRecord m (w32 (x3 + 1))).1)], (fR_endRecord m (w32 (x3 + 1))).2, XX)) rfl rfl (Go.mono (tR_endRecord m (w32 (x3 + 1))) (by decide)) rfl ?_
            refine T_run hD 1 (c' := (49, [(13, 8), (0, x1), (0, x2), (0, x3)], [(0, (fR_endRecord m (w32 (x3 + 1))).1)], (fR_endRecord m (w32 (x3 + 1))).2, XX)) rfl ?_
            exact T_fin hD rfl (fun h => h)
          · refine T_run hD 1 (c' := (49, [(13, 8), (0, x1), (0, x2), (0, x3)], [(0, 6)], m, XX)) rfl ?_
            exact T_fin hD rfl (fun h => h)
        · refine T_run hD 2 (c' := (53, [(13, 8), (0, x1), (0, x2), (0, x3)], [(0, 34), (0, x2)], m, XX)) rfl ?_
          refine T_if hD (c1 := (56, _, _, _, _)) (c2 := (68, _, _, _, _)) rfl (fun _ => ?_) (fun _ => ?_)
          · refine T_run hD 2 (c' := (58, [(13, 8), (0, x1), (0, x2), (0, x3)], [(0, 2), (0, x1)], m, XX)) rfl ?_
            refine T_if hD (c1 := (61, _, _, _, _)) (c2 := (66, _, _, _, _)) rfl (fun _ => ?_) (fun _ => ?_)
            · refine T_run hD 2 (c' := (67, [(13, 8), (0, x1), (0, x2), (0, x3)], [(0, 6)], m, XX)) rfl ?_
              exact T_fin hD rfl (fun h => h)
            · refine T_run hD 1 (c' := (67, [(13, 8), (0, x1), (0, x2), (0, x3)], [(0, 3)], m, XX)) rfl ?_
              exact T_fin hD rfl (fun h => h)
          · refine T_run hD 2 (c' := (71, [(13, 8), (0, x1), (0, x2), (0, x3)], [(0, 44), (0, x2)], m, XX)) rfl ?_
            refine T_if hD (c1 := (98, _, _, _, _)) (c2 := (74, _, _, _, _)) rfl (fun _ => ?_) (fun _ => ?_)
            · exact tR_stateBehind_98 r m x1 x2 x3 
            · refine T_run hD 2 (c' := (77, [(13, 8), (0, x1), (0, x2), (0, x3)], [(0, 10), (0, x2)], m, XX)) rfl ?_
              refine T_if hD (c1 := (98, _, _, _, _)) (c2 := (80, _, _, _, _)) rfl (fun _ => ?_) (fun _ => ?_)
              · exact tR_stateBehind_98 r m x1 x2 x3 
              · refine T_run hD 2 (c' := (83, [(13, 8), (0, x1), (0, x2), (0, x3)], [(0, 13), (0, x2)], m, XX)) rfl ?_
                refine T_if hD (c1 := (98, _, _, _, _)) (c2 := (86, _, _, _, _)) rfl (fun _ => ?_) (fun _ => ?_)
                · exact tR_stateBehind_98 r m x1 x2 x3 
                · refine T_run hD 2 (c' := (88, [(13, 8), (0, x1), (0, x2), (0, x3)], [(0, 4), (0, x1)], m, XX)) rfl ?_
                  refine T_if hD (c1 := (91, _, _, _, _)) (c2 := (96, _, _, _, _)) rfl (fun _ => ?_) (fun _ => ?_)
                  · refine T_run hD 2 (c' := (97, [(13, 8), (0, x1), (0, x2), (0, x3)], [(0, 6)], m, XX)) rfl ?_
                    exact T_fin hD rfl (fun h => h)
                  · refine T_run hD 1 (c' := (97, [(13, 8), (0, x1), (0, x2), (0, x3)], [(0, 2)], m, XX)) rfl ?_
                    exact T_fin hD rfl (fun h => h)
  rw [← hr]
  exact h9 v hv hr
abbrev hR_find_34 (x1 : Int) : (aM × Int × Int) → aC → Prop := fun y c => c = (34, [(13, 8), (11, x1), (0, (y.2.1)), (0, (y.2.2))], [], (y.1), XX)
def fR_find_102 (m : aM) (x2 : Int) : Option (Int × aM) :=
  if x2 = 0 then
    some ((1, m))
  else
    some ((0, m))
set_option maxRecDepth 100000 in
theorem tR_find_102 (r : aR) (m : aM) (x2 : Int) (z0 : aV) (z1 : aV) (z3 : aV) : aT PB 3 144 r (fun w => r = (1, (0, w.1), w.2, XX)) (fR_find_102 m x2) (102, [z0, z1, (0, x2), z3], [], m, XX) := by
  have hD : aMd PB 144 = d_R_find := rfl
  unfold fR_find_102
  refine T_run hD 1 (c' := (103, [z0, z1, (0, x2), z3], [(0, x2)], m, XX)) rfl ?_
  refine T_if hD (c1 := (106, _, _, _, _)) (c2 := (110, _, _, _, _)) rfl (fun _ => ?_) (fun _ => ?_)
  · refine T_run hD 2 (c' := (111, [z0, z1, (0, x2), z3], [(0, 1)], m, XX)) rfl ?_
    exact T_fin hD rfl (fun h => h)
  · refine T_run hD 1 (c' := (111, [z0, z1, (0, x2), z3], [(0, 0)], m, XX)) rfl ?_
    exact T_fin hD rfl (fun h => h)
def fR_find_90 (m : aM) (x1 : Int) (s1 : Int) (s2 : Int) : Option (Int × aM) :=
  (fR_endField m s1 s2).bind fun v3 =>
  fR_find_102 ((fR_endRecord v3 (v3 x1 1)).2) ((fR_endRecord v3 (v3 x1 1)).1)
set_option maxRecDepth 100000 in
theorem tR_find_90 (r : aR) (m : aM) (x1 : Int) (s1 : Int) (s2 : Int) (hx1 : ck x1) (z2 : aV) (z3 : aV) : aT PB 3 144 r (fun w => r = (1, (0, w.1), w.2, XX)) (fR_find_90 m x1 s1 s2) (90, [(13, 8), (11, x1), z2, z3], [(0, s2), (0, s1), (13, 8)], m, XX) := by
  have hD : aMd PB 144 = d_R_find := rfl
  unfold fR_find_90
  refine T_call hD (D2 := d_R_endField) (q2 := 149) (as := [(13, 8), (0, s1), (0, s2)]) (c1 := (93, [(13, 8), (11, x1), z2, z3], [], m, XX)) (mk := fun w => (0, (0, 0), w, XX)) (cc := fun v3 => (93, [(13, 8), (11, x1), z2, z3], [], v3, XX)) rfl rfl (fun y9 h9y => Go.mono (tR_endField m s1 s2 y9 h9y) (by decide)) (fun _ => rfl) (fun v3 => ?_)
  refine T_run hD 3 (c' := (98, [(13, 8), (11, x1), z2, z3], [(0, v3 x1 1), (13, 8)], v3, XX)) rfl ?_
  refine T_call0 hD (D2 := d_R_endRecord) (q2 := 150) (as := [(13, 8), (0, v3 x1 1)]) (c1 := (101, [(13, 8), (11, x1), z2, z3], [], v3, XX)) (r2 := (1, (0, (fR_endRecord v3 (v3 x1 1)).1), (fR_endRecord v3 (v3 x1 1)).2, XX)) (c2 := (101, [(13, 8), (11, x1), z2, z3], [(0, (fR_endRecord v3 (v3 x1 1)).1)], (fR_endRecord v3 (v3 x1 1)).2, XX)) rfl rfl (Go.mono (tR_endRecord v3 (v3 x1 1)) (by decide)) rfl ?_
  refine T_run hD 1 (c' := (102, [(13, 8), (11, x1), (0, (fR_endRecord v3 (v3 x1 1)).1), z3], [], (fR_endRecord v3 (v3 x1 1)).2, XX)) rfl ?_
  exact tR_find_102 r ((fR_endRecord v3 (v3 x1 1)).2) ((fR_endRecord v3 (v3 x1 1)).1) (13, 8) (11, x1) z3
def fR_find_75 (m : aM) (x1 : Int) (x2 : Int) : Option (Int × aM) :=
  if x2 = 4 then
    fR_find_90 m x1 (m x1 1) 1
  else
    fR_find_90 m x1 (m x1 1) 0
set_option maxRecDepth 100000 in
theorem tR_find_75 (r : aR) (m : aM) (x1 : Int) (x2 : Int) (hx1 : ck x1) (z3 : aV) : aT PB 3 144 r (fun w => r = (1, (0, w.1), w.2, XX)) (fR_find_75 m x1 x2) (75, [(13, 8), (11, x1), (0, x2), z3], [], m, XX) := by
  have hD : aMd PB 144 = d_R_find := rfl
  unfold fR_find_75
  refine T_run hD 5 (c' := (82, [(13, 8), (11, x1), (0, x2), z3], [(0, 4), (0, x2), (0, m x1 1), (13, 8)], m, XX)) rfl ?_
  refine T_if hD (c1 := (85, _, _, _, _)) (c2 := (89, _, _, _, _)) rfl (fun _ => ?_) (fun _ => ?_)
  · refine T_run hD 2 (c' := (90, [(13, 8), (11, x1), (0, x2), z3], [(0, 1), (0, m x1 1), (13, 8)], m, XX)) rfl ?_
    exact tR_find_90 r m x1 (m x1 1) 1 hx1 (0, x2) z3
  · refine T_run hD 1 (c' := (90, [(13, 8), (11, x1), (0, x2), z3], [(0, 0), (0, m x1 1), (13, 8)], m, XX)) rfl ?_
    exact tR_find_90 r m x1 (m x1 1) 0 hx1 (0, x2) z3
def fR_find_34_b (x1 : Int) : (aM × Int × Int) → Option ((aM × Int × Int) ⊕ (Int × aM)) := fun (m, x2, x3) =>
  if x3 < m x1 1 then
    (fC_at m x1 x3).bind fun v1 =>
    (fR_stateBehind m x2 v1 x3).bind fun v2 =>
    some (Sum.inl (v2.2, v2.1, w32 (x3 + 1)))
  else
    if x2 = 1 then
      (fR_find_75 m x1 x2).map Sum.inr
    else
      if x2 = 2 then
        (fR_find_75 m x1 x2).map Sum.inr
      else
        if x2 = 4 then
          (fR_find_75 m x1 x2).map Sum.inr
        else
          (fR_find_102 m x2).map Sum.inr
def fR_find_34 (m : aM) (x1 : Int) (x2 : Int) (x3 : Int) : Option (Int × aM) := aLoop (fR_find_34_b x1) FU (m, x2, x3)
set_option maxRecDepth 100000 in
theorem tR_find_34 (r : aR) (m : aM) (x1 : Int) (x2 : Int) (x3 : Int) (hx1 : ck x1) : aT PB 3 144 r (fun w => r = (1, (0, w.1), w.2, XX)) (fR_find_34 m x1 x2 x3) (34, [(13, 8), (11, x1), (0, x2), (0, x3)], [], m, XX) := by
  have hD : aMd PB 144 = d_R_find := rfl
  refine T_loop (Hd := (hR_find_34 x1)) ?_ FU _ _ rfl
  clear m x2 x3
  intro y c hc
  obtain ⟨m, x2, x3⟩ := y
  obtain rfl := hc
  unfold fR_find_34_b
  try dsimp only
  refine T_run hD 3 (c' := (39, [(13, 8), (11, x1), (0, x2), (0, x3)], [(0, m x1 1), (0, x3)], m, XX)) rfl ?_
  refine T_if hD (c1 := (42, _, _, _, _)) (c2 := (60, _, _, _, _)) rfl (fun _ => ?_) (fun _ => ?_)
  · refine T_run hD 4 (c' := (46, [(13, 8), (11, x1), (0, x2), (0, x3)], [(0, x3), (11, x1), (0, x2), (13, 8)], m, XX)) rfl ?_
    refine T_call hD (D2 := d_C_at) (q2 := 107) (as := [(11, x1), (0, x3)]) (c1 := (49, [(13, 8), (11, x1), (0, x2), (0, x3)], [(0, x2), (13, 8)], m, XX)) (mk := fun w => (1, (0, w), m, XX)) (cc := fun v1 => (49, [(13, 8), (11, x1), (0, x2), (0, x3)], [(0, v1), (0, x2), (13, 8)], m, XX)) rfl rfl (fun y9 h9y => Go.mono (tC_at m x1 x3 hx1 y9 h9y) (by decide)) (fun _ => rfl) (fun v1 => ?_)
    refine T_run hD 1 (c' := (50, [(13, 8), (11, x1), (0, x2), (0, x3)], [(0, x3), (0, v1), (0, x2), (13, 8)], m, XX)) rfl ?_
    refine T_call hD (D2 := d_R_stateBehind) (q2 := 148) (as := [(13, 8), (0, x2), (0, v1), (0, x3)]) (c1 := (53, [(13, 8), (11, x1), (0, x2), (0, x3)], [], m, XX)) (mk := fun w => (1, (0, w.1), w.2, XX)) (cc := fun v2 => (53, [(13, 8), (11, x1), (0, x2), (0, x3)], [(0, v2.1)], v2.2, XX)) rfl rfl (fun y9 h9y => Go.mono (tR_stateBehind m x2 v1 x3 y9 h9y) (by decide)) (fun _ => rfl) (fun v2 => ?_)
    refine T_run hD 3 (c' := (34, [(13, 8), (11, x1), (0, v2.1), (0, w32 (x3 + 1))], [], v2.2, XX)) rfl ?_
    exact T_back0 rfl
  · refine T_run hD 2 (c' := (62, [(13, 8), (11, x1), (0, x2), (0, x3)], [(0, 1), (0, x2)], m, XX)) rfl ?_
    refine T_if hD (c1 := (75, _, _, _, _)) (c2 := (65, _, _, _, _)) rfl (fun _ => ?_) (fun _ => ?_)
    · exact T_map (tR_find_75 r m x1 x2 hx1 (0, x3))
    · refine T_run hD 2 (c' := (67, [(13, 8), (11, x1), (0, x2), (0, x3)], [(0, 2), (0, x2)], m, XX)) rfl ?_
      refine T_if hD (c1 := (75, _, _, _, _)) (c2 := (70, _, _, _, _)) rfl (fun _ => ?_) (fun _ => ?_)
      · exact T_map (tR_find_75 r m x1 x2 hx1 (0, x3))
      · refine T_run hD 2 (c' := (72, [(13, 8), (11, x1), (0, x2), (0, x3)], [(0, 4), (0, x2)], m, XX)) rfl ?_
        refine T_if hD (c1 := (75, _, _, _, _)) (c2 := (102, _, _, _, _)) rfl (fun _ => ?_) (fun _ => ?_)
        · exact T_map (tR_find_75 r m x1 x2 hx1 (0, x3))
        · exact T_map (tR_find_102 r m x2 (13, 8) (11, x1) (0, x3))
def fR_find (m : aM) (x1 : Int) : Option (Int × aM) :=
  fR_find_34 (mup (mup (mup (mup (mup (mup m 8 3 0) 8 4 0) 8 5 0) 8 6 0) 8 7 0) 8 8 1) x1 0 0
set_option maxRecDepth 100000 in
theorem tR_find (m : aM) (x1 : Int) (hx1 : ck x1) : ∀ v, fR_find m x1 = some v → Go PB 3 144 (aEnt d_R_find [(13, 8), (11, x1)] m XX) (1, (0, v.1), v.2, XX) := by
  intro v hv
  have hD : aMd PB 144 = d_R_find := rfl
  obtain ⟨r, hr⟩ : ∃ r : aR, r = (1, (0, v.1), v.2, XX) := ⟨_, rfl⟩
  have h9 : aT PB 3 144 r (fun w => r = (1, (0, w.1), w.2, XX)) (fR_find m x1) (0, [(13, 8), (11, x1), (99, 0), (99, 0)], [], m, XX) := by
    unfold fR_find
    refine T_run hD 22 (c' := (34, [(13, 8), (11, x1), (0, 0), (0, 0)], [], mup (mup (mup (mup (mup (mup m 8 3 0) 8 4 0) 8 5 0) 8 6 0) 8 7 0) 8 8 1, XX)) rfl ?_
    exact tR_find_34 r (mup (mup (mup (mup (mup (mup m 8 3 0) 8 4 0) 8 5 0) 8 6 0) 8 7 0) 8 8 1) x1 0 0 hx1 
  rw [← hr]
  exact h9 v hv hr
def fR_areEven (m : aM) : Int :=
  if m 8 8 = 0 then
    0
  else
    if 6 < m 8 5 then
      0
    else
      1
set_option maxRecDepth 100000 in
theorem tR_areEven (m : aM) : Go PB 1 145 (aEnt d_R_areEven [(13, 8)] m XX) (1, (0, (fR_areEven m)), m, XX) := by
  have hD : aMd PB 145 = d_R_areEven := rfl
  show aU PB 1 145 (fun w => (1, (0, w), m, XX)) (fR_areEven m) (0, [(13, 8)], [], m, XX)
  unfold fR_areEven
  refine U_run hD 2 (c' := (4, [(13, 8)], [(0, m 8 8)], m, XX)) rfl ?_
  refine U_if hD (c1 := (20, _, _, _, _)) (c2 := (7, _, _, _, _)) rfl (fun _ => ?_) (fun _ => ?_)
  · refine U_run hD 1 (c' := (21, [(13, 8)], [(0, 0)], m, XX)) rfl ?_
    exact Go.fin hD rfl
  · refine U_run hD 3 (c' := (13, [(13, 8)], [(0, 6), (0, m 8 5)], m, XX)) rfl ?_
    refine U_if hD (c1 := (20, _, _, _, _)) (c2 := (16, _, _, _, _)) rfl (fun _ => ?_) (fun _ => ?_)
    · refine U_run hD 1 (c' := (21, [(13, 8)], [(0, 0)], m, XX)) rfl ?_
      exact Go.fin hD rfl
    · refine U_run hD 2 (c' := (21, [(13, 8)], [(0, 1)], m, XX)) rfl ?_
      exact Go.fin hD rfl
def fX_isLetter (x0 : Int) : Int :=
  if x0 < 97 then
    0
  else
    if 122 < x0 then
      0
    else
      1
set_option maxRecDepth 100000 in
theorem tX_isLetter (m : aM) (x0 : Int) : Go PB 1 17 (aEnt d_X_isLetter [(0, x0)] m XX) (1, (0, (fX_isLetter x0)), m, XX) := by
  have hD : aMd PB 17 = d_X_isLetter := rfl
  show aU PB 1 17 (fun w => (1, (0, w), m, XX)) (fX_isLetter x0) (0, [(0, x0)], [], m, XX)
  unfold fX_isLetter
  refine U_run hD 2 (c' := (3, [(0, x0)], [(0, 97), (0, x0)], m, XX)) rfl ?_
  refine U_if hD (c1 := (16, _, _, _, _)) (c2 := (6, _, _, _, _)) rfl (fun _ => ?_) (fun _ => ?_)
  · refine U_run hD 1 (c' := (17, [(0, x0)], [(0, 0)], m, XX)) rfl ?_
    exact Go.fin hD rfl
  · refine U_run hD 2 (c' := (9, [(0, x0)], [(0, 122), (0, x0)], m, XX)) rfl ?_
    refine U_if hD (c1 := (16, _, _, _, _)) (c2 := (12, _, _, _, _)) rfl (fun _ => ?_) (fun _ => ?_)
    · refine U_run hD 1 (c' := (17, [(0, x0)], [(0, 0)], m, XX)) rfl ?_
      exact Go.fin hD rfl
    · refine U_run hD 2 (c' := (17, [(0, x0)], [(0, 1)], m, XX)) rfl ?_
      exact Go.fin hD rfl
abbrev hC_endOfLetters_2 (m : aM) (x0 : Int) : (Int) → aC → Prop := fun y c => ∃ (z1 : aV), c = (2, [(11, x0), z1, (0, (y))], [], m, XX)
def fC_endOfLetters_2_b (m : aM) (x0 : Int) : (Int) → Option ((Int) ⊕ Int) := fun (x2) =>
  if x2 < m x0 1 then
    (fC_at m x0 x2).bind fun v1 =>
    if fX_isLetter v1 = 0 then
      some (Sum.inr (x2))
    else
      some (Sum.inl (w32 (x2 + 1)))
  else
    some (Sum.inr (x2))
def fC_endOfLetters_2 (m : aM) (x0 : Int) (x2 : Int) : Option Int := aLoop (fC_endOfLetters_2_b m x0) FU (x2)
set_option maxRecDepth 100000 in
theorem tC_endOfLetters_2 (r : aR) (m : aM) (x0 : Int) (x2 : Int) (hx0 : ck x0) (z1 : aV) : aT PB 2 113 r (fun w => r = (1, (0, w), m, XX)) (fC_endOfLetters_2 m x0 x2) (2, [(11, x0), z1, (0, x2)], [], m, XX) := by
  have hD : aMd PB 113 = d_C_endOfLetters := rfl
  refine T_loop (Hd := (hC_endOfLetters_2 m x0)) ?_ FU _ _ ⟨z1, rfl⟩
  clear x2 z1
  intro x2 c hc
  obtain ⟨z1, rfl⟩ := hc
  unfold fC_endOfLetters_2_b
  try dsimp only
  refine T_run hD 3 (c' := (7, [(11, x0), z1, (0, x2)], [(0, m x0 1), (0, x2)], m, XX)) rfl ?_
  refine T_if hD (c1 := (10, _, _, _, _)) (c2 := (27, _, _, _, _)) rfl (fun _ => ?_) (fun _ => ?_)
  · refine T_run hD 2 (c' := (12, [(11, x0), z1, (0, x2)], [(0, x2), (11, x0)], m, XX)) rfl ?_
    refine T_call hD (D2 := d_C_at) (q2 := 107) (as := [(11, x0), (0, x2)]) (c1 := (15, [(11, x0), z1, (0, x2)], [], m, XX)) (mk := fun w => (1, (0, w), m, XX)) (cc := fun v1 => (15, [(11, x0), z1, (0, x2)], [(0, v1)], m, XX)) rfl rfl (fun y9 h9y => Go.mono (tC_at m x0 x2 hx0 y9 h9y) (by decide)) (fun _ => rfl) (fun v1 => ?_)
    refine T_call0 hD (D2 := d_X_isLetter) (q2 := 17) (as := [(0, v1)]) (c1 := (18, [(11, x0), z1, (0, x2)], [], m, XX)) (r2 := (1, (0, fX_isLetter v1), m, XX)) (c2 := (18, [(11, x0), z1, (0, x2)], [(0, fX_isLetter v1)], m, XX)) rfl rfl (Go.mono (tX_isLetter m v1) (by decide)) rfl ?_
    refine T_if hD (c1 := (27, _, _, _, _)) (c2 := (21, _, _, _, _)) rfl (fun _ => ?_) (fun _ => ?_)
    · refine T_run hD 1 (c' := (28, [(11, x0), z1, (0, x2)], [(0, x2)], m, XX)) rfl ?_
      exact T_fin hD rfl (fun h => h)
    · refine T_run hD 2 (c' := (2, [(11, x0), aJ z1, (0, w32 (x2 + 1))], [], m, XX)) rfl ?_
      exact T_back0 ⟨_, rfl⟩
  · refine T_run hD 1 (c' := (28, [(11, x0), z1, (0, x2)], [(0, x2)], m, XX)) rfl ?_
    exact T_fin hD rfl (fun h => h)
def fC_endOfLetters (m : aM) (x0 : Int) (x1 : Int) : Option Int :=
  fC_endOfLetters_2 m x0 x1
set_option maxRecDepth 100000 in
theorem tC_endOfLetters (m : aM) (x0 : Int) (x1 : Int) (hx0 : ck x0) : ∀ v, fC_endOfLetters m x0 x1 = some v → Go PB 2 113 (aEnt d_C_endOfLetters [(11, x0), (0, x1)] m XX) (1, (0, v), m, XX) := by
  intro v hv
  have hD : aMd PB 113 = d_C_endOfLetters := rfl
  obtain ⟨r, hr⟩ : ∃ r : aR, r = (1, (0, v), m, XX) := ⟨_, rfl⟩
  have h9 : aT PB 2 113 r (fun w => r = (1, (0, w), m, XX)) (fC_endOfLetters m x0 x1) (0, [(11, x0), (0, x1), (99, 0)], [], m, XX) := by
    unfold fC_endOfLetters
    refine T_run hD 2 (c' := (2, [(11, x0), (0, x1), (0, x1)], [], m, XX)) rfl ?_
    exact tC_endOfLetters_2 r m x0 x1 hx0 (0, x1)
  rw [← hr]
  exact h9 v hv hr
def fJS_coder (x0 : Int) : Int :=
  0
set_option maxRecDepth 100000 in
theorem tJS_coder (m : aM) (x0 : Int) : Go PB 1 199 (aEnt d_JS_coder [(41, x0)] m XX) (1, (0, (fJS_coder x0)), m, XX) := by
  have hD : aMd PB 199 = d_JS_coder := rfl
  show aU PB 1 199 (fun w => (1, (0, w), m, XX)) (fJS_coder x0) (0, [(41, x0)], [], m, XX)
  unfold fJS_coder
  refine U_run hD 5 (c' := (14, [(41, x0)], [(0, 0)], m, XX)) rfl ?_
  exact Go.fin hD rfl
def fJS_length (x0 : Int) : Int :=
  bShr (sLen x0) 0
set_option maxRecDepth 100000 in
theorem tJS_length (m : aM) (x0 : Int) : Go PB 2 198 (aEnt d_JS_length [(41, x0)] m XX) (1, (0, (fJS_length x0)), m, XX) := by
  have hD : aMd PB 198 = d_JS_length := rfl
  show aU PB 2 198 (fun w => (1, (0, w), m, XX)) (fJS_length x0) (0, [(41, x0)], [], m, XX)
  unfold fJS_length
  refine U_run hD 4 (c' := (6, [(41, x0)], [(41, x0), (0, sLen x0)], m, XX)) rfl ?_
  refine U_call0 hD (D2 := d_JS_coder) (q2 := 199) (as := [(41, x0)]) (c1 := (9, [(41, x0)], [(0, sLen x0)], m, XX)) (r2 := (1, (0, fJS_coder x0), m, XX)) (c2 := (9, [(41, x0)], [(0, 0), (0, sLen x0)], m, XX)) rfl rfl (Go.mono (tJS_coder m x0) (by decide)) rfl ?_
  refine U_run hD 1 (c' := (10, [(41, x0)], [(0, bShr (sLen x0) 0)], m, XX)) rfl ?_
  exact Go.fin hD rfl
def fJS_isLatin1 (x0 : Int) : Int :=
  1
set_option maxRecDepth 100000 in
theorem tJS_isLatin1 (m : aM) (x0 : Int) : Go PB 1 201 (aEnt d_JS_isLatin1 [(41, x0)] m XX) (1, (0, (fJS_isLatin1 x0)), m, XX) := by
  have hD : aMd PB 201 = d_JS_isLatin1 := rfl
  show aU PB 1 201 (fun w => (1, (0, w), m, XX)) (fJS_isLatin1 x0) (0, [(41, x0)], [], m, XX)
  unfold fJS_isLatin1
  refine U_run hD 7 (c' := (18, [(41, x0)], [(0, 1)], m, XX)) rfl ?_
  exact Go.fin hD rfl
def fJP_checkIndex_9 (x0 : Int) (x1 : Int) (x2 : Int) : Option Int :=
  none
set_option maxRecDepth 100000 in
theorem tJP_checkIndex_9 (r : aR) (m : aM) (x0 : Int) (x1 : Int) (x2 : Int) : aT PB 1 204 r (fun w => r = (1, (0, w), m, XX)) (fJP_checkIndex_9 x0 x1 x2) (9, [(0, x0), (0, x1), (47, x2)], [], m, XX) := by
  have hD : aMd PB 204 = d_JP_checkIndex := rfl
  unfold fJP_checkIndex_9
  refine T_run hD 3 (c' := (12, [(0, x0), (0, x1), (47, x2)], [(0, x1), (0, x0), (47, x2)], m, XX)) rfl ?_
  exact fun v h => nomatch h
def fJP_checkIndex (x0 : Int) (x1 : Int) (x2 : Int) : Option Int :=
  if x0 < 0 then
    fJP_checkIndex_9 x0 x1 x2
  else
    if x0 < x1 then
      some (x0)
    else
      fJP_checkIndex_9 x0 x1 x2
set_option maxRecDepth 100000 in
theorem tJP_checkIndex (m : aM) (x0 : Int) (x1 : Int) (x2 : Int) : ∀ v, fJP_checkIndex x0 x1 x2 = some v → Go PB 1 204 (aEnt d_JP_checkIndex [(0, x0), (0, x1), (47, x2)] m XX) (1, (0, v), m, XX) := by
  intro v hv
  have hD : aMd PB 204 = d_JP_checkIndex := rfl
  obtain ⟨r, hr⟩ : ∃ r : aR, r = (1, (0, v), m, XX) := ⟨_, rfl⟩
  have h9 : aT PB 1 204 r (fun w => r = (1, (0, w), m, XX)) (fJP_checkIndex x0 x1 x2) (0, [(0, x0), (0, x1), (47, x2)], [], m, XX) := by
    unfold fJP_checkIndex
    refine T_run hD 1 (c' := (1, [(0, x0), (0, x1), (47, x2)], [(0, x0)], m, XX)) rfl ?_
    refine T_if hD (c1 := (9, _, _, _, _)) (c2 := (4, _, _, _, _)) rfl (fun _ => ?_) (fun _ => ?_)
    · exact tJP_checkIndex_9 r m x0 x1 x2 
    · refine T_run hD 2 (c' := (6, [(0, x0), (0, x1), (47, x2)], [(0, x1), (0, x0)], m, XX)) rfl ?_
      refine T_if hD (c1 := (16, _, _, _, _)) (c2 := (9, _, _, _, _)) rfl (fun _ => ?_) (fun _ => ?_)
      · refine T_run hD 1 (c' := (17, [(0, x0), (0, x1), (47, x2)], [(0, x0)], m, XX)) rfl ?_
        exact T_fin hD rfl (fun h => h)
      · exact tJP_checkIndex_9 r m x0 x1 x2 
  rw [← hr]
  exact h9 v hv hr
def fJS_checkIndex (x0 : Int) (x1 : Int) : Option Int :=
  (fJP_checkIndex x0 x1 0).bind fun v1 =>
  some (0)
set_option maxRecDepth 100000 in
theorem tJS_checkIndex (m : aM) (x0 : Int) (x1 : Int) : ∀ v, fJS_checkIndex x0 x1 = some v → Go PB 2 203 (aEnt d_JS_checkIndex [(0, x0), (0, x1)] m XX) ((fun _ => (0, (0, 0), m, XX)) v) := by
  intro v hv
  have hD : aMd PB 203 = d_JS_checkIndex := rfl
  obtain ⟨r, hr⟩ : ∃ r : aR, r = ((fun _ => (0, (0, 0), m, XX)) v) := ⟨_, rfl⟩
  have h9 : aT PB 2 203 r (fun w => r = ((fun _ => (0, (0, 0), m, XX)) w)) (fJS_checkIndex x0 x1) (0, [(0, x0), (0, x1)], [], m, XX) := by
    unfold fJS_checkIndex
    refine T_run hD 3 (c' := (5, [(0, x0), (0, x1)], [(47, 0), (0, x1), (0, x0)], m, XX)) rfl ?_
    refine T_call hD (D2 := d_JP_checkIndex) (q2 := 204) (as := [(0, x0), (0, x1), (47, 0)]) (c1 := (8, [(0, x0), (0, x1)], [], m, XX)) (mk := fun w => (1, (0, w), m, XX)) (cc := fun v1 => (8, [(0, x0), (0, x1)], [(0, v1)], m, XX)) rfl rfl (fun y9 h9y => Go.mono (tJP_checkIndex m x0 x1 0 y9 h9y) (by decide)) (fun _ => rfl) (fun v1 => ?_)
    refine T_run hD 1 (c' := (9, [(0, x0), (0, x1)], [], m, XX)) rfl ?_
    exact T_fin hD rfl (fun h => h)
  rw [← hr]
  exact h9 v hv hr
def fJL_charAt (x0 : Int) (x1 : Int) : Option Int :=
  (fJS_checkIndex x1 (sLen x0)).bind fun v1 =>
  gd (0 ≤ x1 ∧ x1 < sLen x0) (
  gd (0 ≤ (bAnd (sAt x0 x1) 255) % 65536 ∧ (bAnd (sAt x0 x1) 255) % 65536 < 65536) (some ((bAnd (sAt x0 x1) 255) % 65536)))
set_option maxRecDepth 100000 in
theorem tJL_charAt (m : aM) (x0 : Int) (x1 : Int) : ∀ v, fJL_charAt x0 x1 = some v → Go PB 3 202 (aEnt d_JL_charAt [(46, x0), (0, x1)] m XX) (1, (0, v), m, XX) := by
  intro v hv
  have hD : aMd PB 202 = d_JL_charAt := rfl
  obtain ⟨r, hr⟩ : ∃ r : aR, r = (1, (0, v), m, XX) := ⟨_, rfl⟩
  have h9 : aT PB 3 202 r (fun w => r = (1, (0, w), m, XX)) (fJL_charAt x0 x1) (0, [(46, x0), (0, x1)], [], m, XX) := by
    unfold fJL_charAt
    refine T_run hD 3 (c' := (3, [(46, x0), (0, x1)], [(0, sLen x0), (0, x1)], m, XX)) rfl ?_
    refine T_call hD (D2 := d_JS_checkIndex) (q2 := 203) (as := [(0, x1), (0, sLen x0)]) (c1 := (6, [(46, x0), (0, x1)], [], m, XX)) (mk := fun w => (0, (0, 0), m, XX)) (cc := fun v1 => (6, [(46, x0), (0, x1)], [], m, XX)) rfl rfl (fun y9 h9y => Go.mono (tJS_checkIndex m x1 (sLen x0) y9 h9y) (by decide)) (fun _ => rfl) (fun v1 => ?_)
    refine T_run hD 2 (c' := (8, [(46, x0), (0, x1)], [(0, x1), (46, x0)], m, XX)) rfl ?_
    refine T_gd hD (c1 := (9, [(46, x0), (0, x1)], [(0, sAt x0 x1)], m, XX)) rfl (fun g2 => ?_)
    refine T_run hD 3 (c' := (14, [(46, x0), (0, x1)], [(0, (bAnd (sAt x0 x1) 255) % 65536)], m, XX)) rfl ?_
    exact T_gfin hD (fun h => if_pos (decide_eq_true h)) (fun h => h)
  rw [← hr]
  exact h9 v hv hr
def fJS_charAt (x0 : Int) (x1 : Int) : Option Int :=
  (fJL_charAt x0 x1).bind fun v1 =>
  gd (0 ≤ v1 ∧ v1 < 65536) (some (v1))
set_option maxRecDepth 100000 in
theorem tJS_charAt (m : aM) (x0 : Int) (x1 : Int) : ∀ v, fJS_charAt x0 x1 = some v → Go PB 4 200 (aEnt d_JS_charAt [(41, x0), (0, x1)] m XX) (1, (0, v), m, XX) := by
  intro v hv
  have hD : aMd PB 200 = d_JS_charAt := rfl
  obtain ⟨r, hr⟩ : ∃ r : aR, r = (1, (0, v), m, XX) := ⟨_, rfl⟩
  have h9 : aT PB 4 200 r (fun w => r = (1, (0, w), m, XX)) (fJS_charAt x0 x1) (0, [(41, x0), (0, x1)], [], m, XX) := by
    unfold fJS_charAt
    refine T_run hD 1 (c' := (1, [(41, x0), (0, x1)], [(41, x0)], m, XX)) rfl ?_
    refine T_call0 hD (D2 := d_JS_isLatin1) (q2 := 201) (as := [(41, x0)]) (c1 := (4, [(41, x0), (0, x1)], [], m, XX)) (r2 := (1, (0, fJS_isLatin1 x0), m, XX)) (c2 := (4, [(41, x0), (0, x1)], [(0, 1)], m, XX)) rfl rfl (Go.mono (tJS_isLatin1 m x0) (by decide)) rfl ?_
    refine T_run hD 4 (c' := (12, [(41, x0), (0, x1)], [(0, x1), (46, x0)], m, XX)) rfl ?_
    refine T_call hD (D2 := d_JL_charAt) (q2 := 202) (as := [(46, x0), (0, x1)]) (c1 := (15, [(41, x0), (0, x1)], [], m, XX)) (mk := fun w => (1, (0, w), m, XX)) (cc := fun v1 => (15, [(41, x0), (0, x1)], [(0, v1)], m, XX)) rfl rfl (fun y9 h9y => Go.mono (tJL_charAt m x0 x1 y9 h9y) (by decide)) (fun _ => rfl) (fun v1 => ?_)
    exact T_gfin hD (fun h => if_pos (decide_eq_true h)) (fun h => h)
  rw [← hr]
  exact h9 v hv hr
abbrev hC_spells_15 (m : aM) (x0 : Int) (x1 : Int) (x3 : Int) : (Int) → aC → Prop := fun y c => ∃ (z2 : aV), c = (15, [(11, x0), (0, x1), z2, (41, x3), (0, (y))], [], m, XX)
def fC_spells_15_b (m : aM) (x0 : Int) (x1 : Int) (x3 : Int) : (Int) → Option ((Int) ⊕ Int) := fun (x4) =>
  if x4 < fJS_length x3 then
    (fC_at m x0 (w32 (x1 + x4))).bind fun v1 =>
    (fJS_charAt x3 x4).bind fun v2 =>
    if v1 = v2 then
      some (Sum.inl (w32 (x4 + 1)))
    else
      some (Sum.inr (0))
  else
    some (Sum.inr (1))
def fC_spells_15 (m : aM) (x0 : Int) (x1 : Int) (x3 : Int) (x4 : Int) : Option Int := aLoop (fC_spells_15_b m x0 x1 x3) FU (x4)
set_option maxRecDepth 100000 in
theorem tC_spells_15 (r : aR) (m : aM) (x0 : Int) (x1 : Int) (x3 : Int) (x4 : Int) (hx0 : ck x0) (z2 : aV) : aT PB 5 116 r (fun w => r = (1, (0, w), m, XX)) (fC_spells_15 m x0 x1 x3 x4) (15, [(11, x0), (0, x1), z2, (41, x3), (0, x4)], [], m, XX) := by
  have hD : aMd PB 116 = d_C_spells := rfl
  refine T_loop (Hd := (hC_spells_15 m x0 x1 x3)) ?_ FU _ _ ⟨z2, rfl⟩
  clear x4 z2
  intro x4 c hc
  obtain ⟨z2, rfl⟩ := hc
  unfold fC_spells_15_b
  try dsimp only
  refine T_run hD 2 (c' := (18, [(11, x0), (0, x1), z2, (41, x3), (0, x4)], [(41, x3), (0, x4)], m, XX)) rfl ?_
  refine T_call0 hD (D2 := d_JS_length) (q2 := 198) (as := [(41, x3)]) (c1 := (21, [(11, x0), (0, x1), z2, (41, x3), (0, x4)], [(0, x4)], m, XX)) (r2 := (1, (0, fJS_length x3), m, XX)) (c2 := (21, [(11, x0), (0, x1), z2, (41, x3), (0, x4)], [(0, fJS_length x3), (0, x4)], m, XX)) rfl rfl (Go.mono (tJS_length m x3) (by decide)) rfl ?_
  refine T_if hD (c1 := (24, _, _, _, _)) (c2 := (49, _, _, _, _)) rfl (fun _ => ?_) (fun _ => ?_)
  · refine T_run hD 4 (c' := (29, [(11, x0), (0, x1), z2, (41, x3), (0, x4)], [(0, w32 (x1 + x4)), (11, x0)], m, XX)) rfl ?_
    refine T_call hD (D2 := d_C_at) (q2 := 107) (as := [(11, x0), (0, w32 (x1 + x4))]) (c1 := (32, [(11, x0), (0, x1), z2, (41, x3), (0, x4)], [], m, XX)) (mk := fun w => (1, (0, w), m, XX)) (cc := fun v1 => (32, [(11, x0), (0, x1), z2, (41, x3), (0, x4)], [(0, v1)], m, XX)) rfl rfl (fun y9 h9y => Go.mono (tC_at m x0 (w32 (x1 + x4)) hx0 y9 h9y) (by decide)) (fun _ => rfl) (fun v1 => ?_)
    refine T_run hD 2 (c' := (35, [(11, x0), (0, x1), z2, (41, x3), (0, x4)], [(0, x4), (41, x3), (0, v1)], m, XX)) rfl ?_
    refine T_call hD (D2 := d_JS_charAt) (q2 := 200) (as := [(41, x3), (0, x4)]) (c1 := (38, [(11, x0), (0, x1), z2, (41, x3), (0, x4)], [(0, v1)], m, XX)) (mk := fun w => (1, (0, w), m, XX)) (cc := fun v2 => (38, [(11, x0), (0, x1), z2, (41, x3), (0, x4)], [(0, v2), (0, v1)], m, XX)) rfl rfl (fun y9 h9y => Go.mono (tJS_charAt m x3 x4 y9 h9y) (by decide)) (fun _ => rfl) (fun v2 => ?_)
    refine T_if hD (c1 := (43, _, _, _, _)) (c2 := (41, _, _, _, _)) rfl (fun _ => ?_) (fun _ => ?_)
    · refine T_run hD 2 (c' := (15, [(11, x0), (0, x1), z2, (41, x3), (0, w32 (x4 + 1))], [], m, XX)) rfl ?_
      exact T_back0 ⟨_, rfl⟩
    · refine T_run hD 1 (c' := (42, [(11, x0), (0, x1), z2, (41, x3), (0, x4)], [(0, 0)], m, XX)) rfl ?_
      exact T_fin hD rfl (fun h => h)
  · refine T_run hD 1 (c' := (50, [(11, x0), (0, x1), z2, (41, x3), (0, x4)], [(0, 1)], m, XX)) rfl ?_
    exact T_fin hD rfl (fun h => h)
def fC_spells (m : aM) (x0 : Int) (x1 : Int) (x2 : Int) (x3 : Int) : Option Int :=
  if w32 (x2 - x1) = fJS_length x3 then
    fC_spells_15 m x0 x1 x3 0
  else
    some (0)
set_option maxRecDepth 100000 in
theorem tC_spells (m : aM) (x0 : Int) (x1 : Int) (x2 : Int) (x3 : Int) (hx0 : ck x0) : ∀ v, fC_spells m x0 x1 x2 x3 = some v → Go PB 5 116 (aEnt d_C_spells [(11, x0), (0, x1), (0, x2), (41, x3)] m XX) (1, (0, v), m, XX) := by
  intro v hv
  have hD : aMd PB 116 = d_C_spells := rfl
  obtain ⟨r, hr⟩ : ∃ r : aR, r = (1, (0, v), m, XX) := ⟨_, rfl⟩
  have h9 : aT PB 5 116 r (fun w => r = (1, (0, w), m, XX)) (fC_spells m x0 x1 x2 x3) (0, [(11, x0), (0, x1), (0, x2), (41, x3), (99, 0)], [], m, XX) := by
    unfold fC_spells
    refine T_run hD 4 (c' := (4, [(11, x0), (0, x1), (0, x2), (41, x3), (99, 0)], [(41, x3), (0, w32 (x2 - x1))], m, XX)) rfl ?_
    refine T_call0 hD (D2 := d_JS_length) (q2 := 198) (as := [(41, x3)]) (c1 := (7, [(11, x0), (0, x1), (0, x2), (41, x3), (99, 0)], [(0, w32 (x2 - x1))], m, XX)) (r2 := (1, (0, fJS_length x3), m, XX)) (c2 := (7, [(11, x0), (0, x1), (0, x2), (41, x3), (99, 0)], [(0, fJS_length x3), (0, w32 (x2 - x1))], m, XX)) rfl rfl (Go.mono (tJS_length m x3) (by decide)) rfl ?_
    refine T_if hD (c1 := (12, _, _, _, _)) (c2 := (10, _, _, _, _)) rfl (fun _ => ?_) (fun _ => ?_)
    · refine T_run hD 2 (c' := (15, [(11, x0), (0, x1), (0, x2), (41, x3), (0, 0)], [], m, XX)) rfl ?_
      exact tC_spells_15 r m x0 x1 x3 0 hx0 (0, x2)
    · refine T_run hD 1 (c' := (11, [(11, x0), (0, x1), (0, x2), (41, x3), (99, 0)], [(0, 0)], m, XX)) rfl ?_
      exact T_fin hD rfl (fun h => h)
  rw [← hr]
  exact h9 v hv hr
abbrev hW_spelled_11 (m : aM) (x0 : Int) (x1 : Int) (x2 : Int) (x4 : Int) : (Int) → aC → Prop := fun y c => ∃ (z6 : aV), c = (11, [(11, x0), (0, x1), (0, x2), (43, 0), (0, x4), (0, (y)), z6], [], m, XX)
def fW_spelled_11_b (m : aM) (x0 : Int) (x1 : Int) (x2 : Int) (x4 : Int) : (Int) → Option ((Int) ⊕ Int) := fun (x5) =>
  if x5 < x4 then
    gd (0 ≤ x5 ∧ x5 < 15) (
    gd (1 ≤ x5 + 1 ∧ x5 + 1 ≤ 15) (
    (fC_spells m x0 x1 x2 (x5 + 1)).bind fun v3 =>
    if v3 = 0 then
      some (Sum.inl (w32 (x5 + 1)))
    else
      some (Sum.inr (x5 + 1))))
  else
    some (Sum.inr (15))
def fW_spelled_11 (m : aM) (x0 : Int) (x1 : Int) (x2 : Int) (x4 : Int) (x5 : Int) : Option Int := aLoop (fW_spelled_11_b m x0 x1 x2 x4) FU (x5)
set_option maxRecDepth 100000 in
theorem tW_spelled_11 (r : aR) (m : aM) (x0 : Int) (x1 : Int) (x2 : Int) (x4 : Int) (x5 : Int) (hx0 : ck x0) (z6 : aV) : aT PB 6 187 r (fun w => r = (1, (40, w), m, XX)) (fW_spelled_11 m x0 x1 x2 x4 x5) (11, [(11, x0), (0, x1), (0, x2), (43, 0), (0, x4), (0, x5), z6], [], m, XX) := by
  have hD : aMd PB 187 = d_W_spelled := rfl
  refine T_loop (Hd := (hW_spelled_11 m x0 x1 x2 x4)) ?_ FU _ _ ⟨z6, rfl⟩
  clear x5 z6
  intro x5 c hc
  obtain ⟨z6, rfl⟩ := hc
  unfold fW_spelled_11_b
  try dsimp only
  refine T_run hD 2 (c' := (15, [(11, x0), (0, x1), (0, x2), (43, 0), (0, x4), (0, x5), z6], [(0, x4), (0, x5)], m, XX)) rfl ?_
  refine T_if hD (c1 := (18, _, _, _, _)) (c2 := (47, _, _, _, _)) rfl (fun _ => ?_) (fun _ => ?_)
  · refine T_run hD 2 (c' := (21, [(11, x0), (0, x1), (0, x2), (43, 0), (0, x4), (0, x5), z6], [(0, x5), (43, 0)], m, XX)) rfl ?_
    refine T_gd hD (c1 := (22, [(11, x0), (0, x1), (0, x2), (43, 0), (0, x4), (0, x5), z6], [(40, x5 + 1)], m, XX)) rfl (fun g1 => ?_)
    refine T_run hD 5 (c' := (29, [(11, x0), (0, x1), (0, x2), (43, 0), (0, x4), (0, x5), (40, x5 + 1)], [(40, x5 + 1), (0, x2), (0, x1), (11, x0)], m, XX)) rfl ?_
    refine T_gd hD (c1 := (32, [(11, x0), (0, x1), (0, x2), (43, 0), (0, x4), (0, x5), (40, x5 + 1)], [(41, x5 + 1), (0, x2), (0, x1), (11, x0)], m, XX)) rfl (fun g2 => ?_)
    refine T_call hD (D2 := d_C_spells) (q2 := 116) (as := [(11, x0), (0, x1), (0, x2), (41, x5 + 1)]) (c1 := (35, [(11, x0), (0, x1), (0, x2), (43, 0), (0, x4), (0, x5), (40, x5 + 1)], [], m, XX)) (mk := fun w => (1, (0, w), m, XX)) (cc := fun v3 => (35, [(11, x0), (0, x1), (0, x2), (43, 0), (0, x4), (0, x5), (40, x5 + 1)], [(0, v3)], m, XX)) rfl rfl (fun y9 h9y => Go.mono (tC_spells m x0 x1 x2 (x5 + 1) hx0 y9 h9y) (by decide)) (fun _ => rfl) (fun v3 => ?_)
    refine T_if hD (c1 := (41, _, _, _, _)) (c2 := (38, _, _, _, _)) rfl (fun _ => ?_) (fun _ => ?_)
    · refine T_run hD 2 (c' := (11, [(11, x0), (0, x1), (0, x2), (43, 0), (0, x4), (0, w32 (x5 + 1)), (40, x5 + 1)], [], m, XX)) rfl ?_
      exact T_back0 ⟨_, rfl⟩
    · refine T_run hD 1 (c' := (40, [(11, x0), (0, x1), (0, x2), (43, 0), (0, x4), (0, x5), (40, x5 + 1)], [(40, x5 + 1)], m, XX)) rfl ?_
      exact T_fin hD rfl (fun h => h)
  · refine T_run hD 1 (c' := (50, [(11, x0), (0, x1), (0, x2), (43, 0), (0, x4), (0, x5), z6], [(40, 15)], m, XX)) rfl ?_
    exact T_fin hD rfl (fun h => h)
def fW_spelled (m : aM) (x0 : Int) (x1 : Int) (x2 : Int) : Option Int :=
  fW_spelled_11 m x0 x1 x2 15 0
set_option maxRecDepth 100000 in
theorem tW_spelled (m : aM) (x0 : Int) (x1 : Int) (x2 : Int) (hx0 : ck x0) : ∀ v, fW_spelled m x0 x1 x2 = some v → Go PB 6 187 (aEnt d_W_spelled [(11, x0), (0, x1), (0, x2)] m XX) (1, (40, v), m, XX) := by
  intro v hv
  have hD : aMd PB 187 = d_W_spelled := rfl
  obtain ⟨r, hr⟩ : ∃ r : aR, r = (1, (40, v), m, XX) := ⟨_, rfl⟩
  have h9 : aT PB 6 187 r (fun w => r = (1, (40, w), m, XX)) (fW_spelled m x0 x1 x2) (0, [(11, x0), (0, x1), (0, x2), (99, 0), (99, 0), (99, 0), (99, 0)], [], m, XX) := by
    unfold fW_spelled
    refine T_run hD 7 (c' := (11, [(11, x0), (0, x1), (0, x2), (43, 0), (0, 15), (0, 0), (99, 0)], [], m, XX)) rfl ?_
    exact tW_spelled_11 r m x0 x1 x2 15 0 hx0 (99, 0)
  rw [← hr]
  exact h9 v hv hr
def fR_isName (m : aM) (x0 : Int) (x1 : Int) (x2 : Int) : Option Int :=
  if x1 < x2 then
    if 6 < w32 (x2 - x1) then
      some (0)
    else
      (fC_endOfLetters m x0 x1).bind fun v1 =>
      if v1 < x2 then
        some (0)
      else
        (fW_spelled m x0 x1 x2).bind fun v2 =>
        gd (1 ≤ v2 ∧ v2 ≤ 15) (
        if wRes v2 = 0 then
          some (1)
        else
          some (0))
  else
    some (0)
set_option maxRecDepth 100000 in
theorem tR_isName (m : aM) (x0 : Int) (x1 : Int) (x2 : Int) (hx0 : ck x0) : ∀ v, fR_isName m x0 x1 x2 = some v → Go PB 7 147 (aEnt d_R_isName [(11, x0), (0, x1), (0, x2)] m XX) (1, (0, v), m, XX) := by
  intro v hv
  have hD : aMd PB 147 = d_R_isName := rfl
  obtain ⟨r, hr⟩ : ∃ r : aR, r = (1, (0, v), m, XX) := ⟨_, rfl⟩
  have h9 : aT PB 7 147 r (fun w => r = (1, (0, w), m, XX)) (fR_isName m x0 x1 x2) (0, [(11, x0), (0, x1), (0, x2)], [], m, XX) := by
    unfold fR_isName
    refine T_run hD 2 (c' := (2, [(11, x0), (0, x1), (0, x2)], [(0, x1), (0, x2)], m, XX)) rfl ?_
    refine T_if hD (c1 := (5, _, _, _, _)) (c2 := (38, _, _, _, _)) rfl (fun _ => ?_) (fun _ => ?_)
    · refine T_run hD 4 (c' := (10, [(11, x0), (0, x1), (0, x2)], [(0, 6), (0, w32 (x2 - x1))], m, XX)) rfl ?_
      refine T_if hD (c1 := (38, _, _, _, _)) (c2 := (13, _, _, _, _)) rfl (fun _ => ?_) (fun _ => ?_)
      · refine T_run hD 1 (c' := (39, [(11, x0), (0, x1), (0, x2)], [(0, 0)], m, XX)) rfl ?_
        exact T_fin hD rfl (fun h => h)
      · refine T_run hD 2 (c' := (15, [(11, x0), (0, x1), (0, x2)], [(0, x1), (11, x0)], m, XX)) rfl ?_
        refine T_call hD (D2 := d_C_endOfLetters) (q2 := 113) (as := [(11, x0), (0, x1)]) (c1 := (18, [(11, x0), (0, x1), (0, x2)], [], m, XX)) (mk := fun w => (1, (0, w), m, XX)) (cc := fun v1 => (18, [(11, x0), (0, x1), (0, x2)], [(0, v1)], m, XX)) rfl rfl (fun y9 h9y => Go.mono (tC_endOfLetters m x0 x1 hx0 y9 h9y) (by decide)) (fun _ => rfl) (fun v1 => ?_)
        refine T_run hD 1 (c' := (19, [(11, x0), (0, x1), (0, x2)], [(0, x2), (0, v1)], m, XX)) rfl ?_
        refine T_if hD (c1 := (38, _, _, _, _)) (c2 := (22, _, _, _, _)) rfl (fun _ => ?_) (fun _ => ?_)
        · refine T_run hD 1 (c' := (39, [(11, x0), (0, x1), (0, x2)], [(0, 0)], m, XX)) rfl ?_
          exact T_fin hD rfl (fun h => h)
        · refine T_run hD 3 (c' := (25, [(11, x0), (0, x1), (0, x2)], [(0, x2), (0, x1), (11, x0)], m, XX)) rfl ?_
          refine T_call hD (D2 := d_W_spelled) (q2 := 187) (as := [(11, x0), (0, x1), (0, x2)]) (c1 := (28, [(11, x0), (0, x1), (0, x2)], [], m, XX)) (mk := fun w => (1, (40, w), m, XX)) (cc := fun v2 => (28, [(11, x0), (0, x1), (0, x2)], [(40, v2)], m, XX)) rfl rfl (fun y9 h9y => Go.mono (tW_spelled m x0 x1 x2 hx0 y9 h9y) (by decide)) (fun _ => rfl) (fun v2 => ?_)
          refine T_gd hD (c1 := (31, [(11, x0), (0, x1), (0, x2)], [(0, wRes v2)], m, XX)) rfl (fun g3 => ?_)
          refine T_if hD (c1 := (34, _, _, _, _)) (c2 := (38, _, _, _, _)) rfl (fun _ => ?_) (fun _ => ?_)
          · refine T_run hD 2 (c' := (39, [(11, x0), (0, x1), (0, x2)], [(0, 1)], m, XX)) rfl ?_
            exact T_fin hD rfl (fun h => h)
          · refine T_run hD 1 (c' := (39, [(11, x0), (0, x1), (0, x2)], [(0, 0)], m, XX)) rfl ?_
            exact T_fin hD rfl (fun h => h)
    · refine T_run hD 1 (c' := (39, [(11, x0), (0, x1), (0, x2)], [(0, 0)], m, XX)) rfl ?_
      exact T_fin hD rfl (fun h => h)
  rw [← hr]
  exact h9 v hv hr
def fJM_min (x0 : Int) (x1 : Int) : Int :=
  if x1 < x0 then
    x1
  else
    x0
set_option maxRecDepth 100000 in
theorem tJM_min (m : aM) (x0 : Int) (x1 : Int) : Go PB 1 205 (aEnt d_JM_min [(0, x0), (0, x1)] m XX) (1, (0, (fJM_min x0 x1)), m, XX) := by
  have hD : aMd PB 205 = d_JM_min := rfl
  show aU PB 1 205 (fun w => (1, (0, w), m, XX)) (fJM_min x0 x1) (0, [(0, x0), (0, x1)], [], m, XX)
  unfold fJM_min
  refine U_run hD 2 (c' := (2, [(0, x0), (0, x1)], [(0, x1), (0, x0)], m, XX)) rfl ?_
  refine U_if hD (c1 := (9, _, _, _, _)) (c2 := (5, _, _, _, _)) rfl (fun _ => ?_) (fun _ => ?_)
  · refine U_run hD 1 (c' := (10, [(0, x0), (0, x1)], [(0, x1)], m, XX)) rfl ?_
    exact Go.fin hD rfl
  · refine U_run hD 2 (c' := (10, [(0, x0), (0, x1)], [(0, x0)], m, XX)) rfl ?_
    exact Go.fin hD rfl
abbrev hC_compareWith_16 (m : aM) (x0 : Int) (x1 : Int) (x2 : Int) (x3 : Int) (x4 : Int) (x5 : Int) (x6 : Int) : (Int) → aC → Prop := fun y c => ∃ (z8 : aV), c = (16, [(11, x0), (0, x1), (0, x2), (11, x3), (0, x4), (0, x5), (0, x6), (0, (y)), z8], [], m, XX)
def fC_compareWith_16_b (m : aM) (x0 : Int) (x1 : Int) (x2 : Int) (x3 : Int) (x4 : Int) (x5 : Int) (x6 : Int) : (Int) → Option ((Int) ⊕ Int) := fun (x7) =>
  if x7 < x6 then
    (fC_at m x0 (w32 (x1 + x7))).bind fun v1 =>
    (fC_at m x3 (w32 (x4 + x7))).bind fun v2 =>
    if w32 (v1 - v2) = 0 then
      some (Sum.inl (w32 (x7 + 1)))
    else
      some (Sum.inr (w32 (v1 - v2)))
  else
    some (Sum.inr (w32 ((w32 (x2 - x1)) - (w32 (x5 - x4)))))
def fC_compareWith_16 (m : aM) (x0 : Int) (x1 : Int) (x2 : Int) (x3 : Int) (x4 : Int) (x5 : Int) (x6 : Int) (x7 : Int) : Option Int := aLoop (fC_compareWith_16_b m x0 x1 x2 x3 x4 x5 x6) FU (x7)
set_option maxRecDepth 100000 in
theorem tC_compareWith_16 (r : aR) (m : aM) (x0 : Int) (x1 : Int) (x2 : Int) (x3 : Int) (x4 : Int) (x5 : Int) (x6 : Int) (x7 : Int) (hx0 : ck x0) (hx3 : ck x3) (z8 : aV) : aT PB 2 117 r (fun w => r = (1, (0, w), m, XX)) (fC_compareWith_16 m x0 x1 x2 x3 x4 x5 x6 x7) (16, [(11, x0), (0, x1), (0, x2), (11, x3), (0, x4), (0, x5), (0, x6), (0, x7), z8], [], m, XX) := by
  have hD : aMd PB 117 = d_C_compareWith := rfl
  refine T_loop (Hd := (hC_compareWith_16 m x0 x1 x2 x3 x4 x5 x6)) ?_ FU _ _ ⟨z8, rfl⟩
  clear x7 z8
  intro x7 c hc
  obtain ⟨z8, rfl⟩ := hc
  unfold fC_compareWith_16_b
  try dsimp only
  refine T_run hD 2 (c' := (20, [(11, x0), (0, x1), (0, x2), (11, x3), (0, x4), (0, x5), (0, x6), (0, x7), z8], [(0, x6), (0, x7)], m, XX)) rfl ?_
  refine T_if hD (c1 := (23, _, _, _, _)) (c2 := (57, _, _, _, _)) rfl (fun _ => ?_) (fun _ => ?_)
  · refine T_run hD 4 (c' := (28, [(11, x0), (0, x1), (0, x2), (11, x3), (0, x4), (0, x5), (0, x6), (0, x7), z8], [(0, w32 (x1 + x7)), (11, x0)], m, XX)) rfl ?_
    refine T_call hD (D2 := d_C_at) (q2 := 107) (as := [(11, x0), (0, w32 (x1 + x7))]) (c1 := (31, [(11, x0), (0, x1), (0, x2), (11, x3), (0, x4), (0, x5), (0, x6), (0, x7), z8], [], m, XX)) (mk := fun w => (1, (0, w), m, XX)) (cc := fun v1 => (31, [(11, x0), (0, x1), (0, x2), (11, x3), (0, x4), (0, x5), (0, x6), (0, x7), z8], [(0, v1)], m, XX)) rfl rfl (fun y9 h9y => Go.mono (tC_at m x0 (w32 (x1 + x7)) hx0 y9 h9y) (by decide)) (fun _ => rfl) (fun v1 => ?_)
    refine T_run hD 4 (c' := (37, [(11, x0), (0, x1), (0, x2), (11, x3), (0, x4), (0, x5), (0, x6), (0, x7), z8], [(0, w32 (x4 + x7)), (11, x3), (0, v1)], m, XX)) rfl ?_
    refine T_call hD (D2 := d_C_at) (q2 := 107) (as := [(11, x3), (0, w32 (x4 + x7))]) (c1 := (40, [(11, x0), (0, x1), (0, x2), (11, x3), (0, x4), (0, x5), (0, x6), (0, x7), z8], [(0, v1)], m, XX)) (mk := fun w => (1, (0, w), m, XX)) (cc := fun v2 => (40, [(11, x0), (0, x1), (0, x2), (11, x3), (0, x4), (0, x5), (0, x6), (0, x7), z8], [(0, v2), (0, v1)], m, XX)) rfl rfl (fun y9 h9y => Go.mono (tC_at m x3 (w32 (x4 + x7)) hx3 y9 h9y) (by decide)) (fun _ => rfl) (fun v2 => ?_)
    refine T_run hD 3 (c' := (45, [(11, x0), (0, x1), (0, x2), (11, x3), (0, x4), (0, x5), (0, x6), (0, x7), (0, w32 (v1 - v2))], [(0, w32 (v1 - v2))], m, XX)) rfl ?_
    refine T_if hD (c1 := (51, _, _, _, _)) (c2 := (48, _, _, _, _)) rfl (fun _ => ?_) (fun _ => ?_)
    · refine T_run hD 2 (c' := (16, [(11, x0), (0, x1), (0, x2), (11, x3), (0, x4), (0, x5), (0, x6), (0, w32 (x7 + 1)), (0, w32 (v1 - v2))], [], m, XX)) rfl ?_
      exact T_back0 ⟨_, rfl⟩
    · refine T_run hD 1 (c' := (50, [(11, x0), (0, x1), (0, x2), (11, x3), (0, x4), (0, x5), (0, x6), (0, x7), (0, w32 (v1 - v2))], [(0, w32 (v1 - v2))], m, XX)) rfl ?_
      exact T_fin hD rfl (fun h => h)
  · refine T_run hD 7 (c' := (66, [(11, x0), (0, x1), (0, x2), (11, x3), (0, x4), (0, x5), (0, x6), (0, x7), z8], [(0, w32 ((w32 (x2 - x1)) - (w32 (x5 - x4))))], m, XX)) rfl ?_
    exact T_fin hD rfl (fun h => h)
def fC_compareWith (m : aM) (x0 : Int) (x1 : Int) (x2 : Int) (x3 : Int) (x4 : Int) (x5 : Int) : Option Int :=
  fC_compareWith_16 m x0 x1 x2 x3 x4 x5 (fJM_min (w32 (x2 - x1)) (w32 (x5 - x4))) 0
set_option maxRecDepth 100000 in
theorem tC_compareWith (m : aM) (x0 : Int) (x1 : Int) (x2 : Int) (x3 : Int) (x4 : Int) (x5 : Int) (hx0 : ck x0) (hx3 : ck x3) : ∀ v, fC_compareWith m x0 x1 x2 x3 x4 x5 = some v → Go PB 2 117 (aEnt d_C_compareWith [(11, x0), (0, x1), (0, x2), (11, x3), (0, x4), (0, x5)] m XX) (1, (0, v), m, XX) := by
  intro v hv
  have hD : aMd PB 117 = d_C_compareWith := rfl
  obtain ⟨r, hr⟩ : ∃ r : aR, r = (1, (0, v), m, XX) := ⟨_, rfl⟩
  have h9 : aT PB 2 117 r (fun w => r = (1, (0, w), m, XX)) (fC_compareWith m x0 x1 x2 x3 x4 x5) (0, [(11, x0), (0, x1), (0, x2), (11, x3), (0, x4), (0, x5), (99, 0), (99, 0), (99, 0)], [], m, XX) := by
    unfold fC_compareWith
    refine T_run hD 6 (c' := (8, [(11, x0), (0, x1), (0, x2), (11, x3), (0, x4), (0, x5), (99, 0), (99, 0), (99, 0)], [(0, w32 (x5 - x4)), (0, w32 (x2 - x1))], m, XX)) rfl ?_
    refine T_call0 hD (D2 := d_JM_min) (q2 := 205) (as := [(0, w32 (x2 - x1)), (0, w32 (x5 - x4))]) (c1 := (11, [(11, x0), (0, x1), (0, x2), (11, x3), (0, x4), (0, x5), (99, 0), (99, 0), (99, 0)], [], m, XX)) (r2 := (1, (0, fJM_min (w32 (x2 - x1)) (w32 (x5 - x4))), m, XX)) (c2 := (11, [(11, x0), (0, x1), (0, x2), (11, x3), (0, x4), (0, x5), (99, 0), (99, 0), (99, 0)], [(0, fJM_min (w32 (x2 - x1)) (w32 (x5 - x4)))], m, XX)) rfl rfl (Go.mono (tJM_min m (w32 (x2 - x1)) (w32 (x5 - x4))) (by decide)) rfl ?_
    refine T_run hD 3 (c' := (16, [(11, x0), (0, x1), (0, x2), (11, x3), (0, x4), (0, x5), (0, fJM_min (w32 (x2 - x1)) (w32 (x5 - x4))), (0, 0), (99, 0)], [], m, XX)) rfl ?_
    exact tC_compareWith_16 r m x0 x1 x2 x3 x4 x5 (fJM_min (w32 (x2 - x1)) (w32 (x5 - x4))) 0 hx0 hx3 (99, 0)
  rw [← hr]
  exact h9 v hv hr
abbrev hR_haveNames_11 (m : aM) (x1 : Int) : (Int) → aC → Prop := fun y c => ∃ (z3 : aV), c = (11, [(13, 8), (11, x1), (0, (y)), z3], [], m, XX)
abbrev hR_haveNames_48 (m : aM) (x1 : Int) (x2 : Int) : (Int) → aC → Prop := fun y c => c = (48, [(13, 8), (11, x1), (0, x2), (0, (y))], [], m, XX)
def fR_haveNames_48_b (m : aM) (x1 : Int) (x2 : Int) : (Int) → Option ((Int) ⊕ ((Int) ⊕ Int)) := fun (x3) =>
  if x3 < x2 then
    gd (0 ≤ x2 ∧ x2 < 102) (
    gd (0 ≤ x3 ∧ x3 < 102) (
    (fC_compareWith m x1 (m 9 x2) (m 10 x2) x1 (m 9 x3) (m 10 x3)).bind fun v5 =>
    if v5 = 0 then
      some (Sum.inr (Sum.inr (0)))
    else
      some (Sum.inl (w32 (x3 + 1)))))
  else
    some (Sum.inr (Sum.inl (w32 (x2 + 1))))
def fR_haveNames_48 (m : aM) (x1 : Int) (x2 : Int) (x3 : Int) : Option ((Int) ⊕ Int) := aLoop (fR_haveNames_48_b m x1 x2) FU (x3)
set_option maxRecDepth 100000 in
theorem tR_haveNames_48 (r : aR) (m : aM) (x1 : Int) (x2 : Int) (x3 : Int) (hx1 : ck x1) : aT PB 8 146 r (aTurn PB 8 146 r (hR_haveNames_11 m x1) (fun w => r = (1, (0, w), m, XX))) (fR_haveNames_48 m x1 x2 x3) (48, [(13, 8), (11, x1), (0, x2), (0, x3)], [], m, XX) := by
  have hD : aMd PB 146 = d_R_haveNames := rfl
  refine T_loop (Hd := (hR_haveNames_48 m x1 x2)) ?_ FU _ _ rfl
  clear x3
  intro x3 c hc
  obtain rfl := hc
  unfold fR_haveNames_48_b
  try dsimp only
  refine T_run hD 2 (c' := (50, [(13, 8), (11, x1), (0, x2), (0, x3)], [(0, x2), (0, x3)], m, XX)) rfl ?_
  refine T_if hD (c1 := (53, _, _, _, _)) (c2 := (93, _, _, _, _)) rfl (fun _ => ?_) (fun _ => ?_)
  · refine T_run hD 4 (c' := (59, [(13, 8), (11, x1), (0, x2), (0, x3)], [(0, x2), (31, 9), (11, x1)], m, XX)) rfl ?_
    refine T_gd hD (c1 := (60, [(13, 8), (11, x1), (0, x2), (0, x3)], [(0, m 9 x2), (11, x1)], m, XX)) rfl (fun g3 => ?_)
    refine T_run hD 3 (c' := (65, [(13, 8), (11, x1), (0, x2), (0, x3)], [(0, x2), (31, 10), (0, m 9 x2), (11, x1)], m, XX)) rfl ?_
    refine T_gk hD (c1 := (66, [(13, 8), (11, x1), (0, x2), (0, x3)], [(0, m 10 x2), (0, m 9 x2), (11, x1)], m, XX)) (P := 0 ≤ x2 ∧ x2 < 102) rfl g3 ?_
    refine T_run hD 4 (c' := (72, [(13, 8), (11, x1), (0, x2), (0, x3)], [(0, x3), (31, 9), (11, x1), (0, m 10 x2), (0, m 9 x2), (11, x1)], m, XX)) rfl ?_
    refine T_gd hD (c1 := (73, [(13, 8), (11, x1), (0, x2), (0, x3)], [(0, m 9 x3), (11, x1), (0, m 10 x2), (0, m 9 x2), (11, x1)], m, XX)) rfl (fun g4 => ?_)
    refine T_run hD 3 (c' := (78, [(13, 8), (11, x1), (0, x2), (0, x3)], [(0, x3), (31, 10), (0, m 9 x3), (11, x1), (0, m 10 x2), (0, m 9 x2), (11, x1)], m, XX)) rfl ?_
    refine T_gk hD (c1 := (79, [(13, 8), (11, x1), (0, x2), (0, x3)], [(0, m 10 x3), (0, m 9 x3), (11, x1), (0, m 10 x2), (0, m 9 x2), (11, x1)], m, XX)) (P := 0 ≤ x3 ∧ x3 < 102) rfl g4 ?_
    refine T_call hD (D2 := d_C_compareWith) (q2 := 117) (as := [(11, x1), (0, m 9 x2), (0, m 10 x2), (11, x1), (0, m 9 x3), (0, m 10 x3)]) (c1 := (82, [(13, 8), (11, x1), (0, x2), (0, x3)], [], m, XX)) (mk := fun w => (1, (0, w), m, XX)) (cc := fun v5 => (82, [(13, 8), (11, x1), (0, x2), (0, x3)], [(0, v5)], m, XX)) rfl rfl (fun y9 h9y => Go.mono (tC_compareWith m x1 (m 9 x2) (m 10 x2) x1 (m 9 x3) (m 10 x3) hx1 hx1 y9 h9y) (by decide)) (fun _ => rfl) (fun v5 => ?_)
    refine T_if hD (c1 := (85, _, _, _, _)) (c2 := (87, _, _, _, _)) rfl (fun _ => ?_) (fun _ => ?_)
    · refine T_run hD 1 (c' := (86, [(13, 8), (11, x1), (0, x2), (0, x3)], [(0, 0)], m, XX)) rfl ?_
      exact T_fin hD rfl (fun h => h)
    · refine T_run hD 2 (c' := (48, [(13, 8), (11, x1), (0, x2), (0, w32 (x3 + 1))], [], m, XX)) rfl ?_
      exact T_back0 rfl
  · refine T_run hD 2 (c' := (11, [(13, 8), (11, x1), (0, w32 (x2 + 1)), (0, x3)], [], m, XX)) rfl ?_
    exact T_back1 ⟨_, rfl⟩
def fR_haveNames_11_b (m : aM) (x1 : Int) : (Int) → Option ((Int) ⊕ Int) := fun (x2) =>
  if x2 < m 8 5 then
    if x2 < 6 then
      gd (0 ≤ x2 ∧ x2 < 102) (
      (fR_isName m x1 (m 9 x2) (m 10 x2)).bind fun v2 =>
      if v2 = 0 then
        some (Sum.inr (0))
      else
        fR_haveNames_48 m x1 x2 0)
    else
      some (Sum.inr (1))
  else
    some (Sum.inr (1))
def fR_haveNames_11 (m : aM) (x1 : Int) (x2 : Int) : Option Int := aLoop (fR_haveNames_11_b m x1) FU (x2)
set_option maxRecDepth 100000 in
theorem tR_haveNames_11 (r : aR) (m : aM) (x1 : Int) (x2 : Int) (hx1 : ck x1) (z3 : aV) : aT PB 8 146 r (fun w => r = (1, (0, w), m, XX)) (fR_haveNames_11 m x1 x2) (11, [(13, 8), (11, x1), (0, x2), z3], [], m, XX) := by
  have hD : aMd PB 146 = d_R_haveNames := rfl
  refine T_loop (Hd := (hR_haveNames_11 m x1)) ?_ FU _ _ ⟨z3, rfl⟩
  clear x2 z3
  intro x2 c hc
  obtain ⟨z3, rfl⟩ := hc
  unfold fR_haveNames_11_b
  try dsimp only
  refine T_run hD 3 (c' := (16, [(13, 8), (11, x1), (0, x2), z3], [(0, m 8 5), (0, x2)], m, XX)) rfl ?_
  refine T_if hD (c1 := (19, _, _, _, _)) (c2 := (99, _, _, _, _)) rfl (fun _ => ?_) (fun _ => ?_)
  · refine T_run hD 2 (c' := (22, [(13, 8), (11, x1), (0, x2), z3], [(0, 6), (0, x2)], m, XX)) rfl ?_
    refine T_if hD (c1 := (25, _, _, _, _)) (c2 := (99, _, _, _, _)) rfl (fun _ => ?_) (fun _ => ?_)
    · refine T_run hD 4 (c' := (31, [(13, 8), (11, x1), (0, x2), z3], [(0, x2), (31, 9), (11, x1)], m, XX)) rfl ?_
      refine T_gd hD (c1 := (32, [(13, 8), (11, x1), (0, x2), z3], [(0, m 9 x2), (11, x1)], m, XX)) rfl (fun g1 => ?_)
      refine T_run hD 3 (c' := (37, [(13, 8), (11, x1), (0, x2), z3], [(0, x2), (31, 10), (0, m 9 x2), (11, x1)], m, XX)) rfl ?_
      refine T_gk hD (c1 := (38, [(13, 8), (11, x1), (0, x2), z3], [(0, m 10 x2), (0, m 9 x2), (11, x1)], m, XX)) (P := 0 ≤ x2 ∧ x2 < 102) rfl g1 ?_
      refine T_call hD (D2 := d_R_isName) (q2 := 147) (as := [(11, x1), (0, m 9 x2), (0, m 10 x2)]) (c1 := (41, [(13, 8), (11, x1), (0, x2), z3], [], m, XX)) (mk := fun w => (1, (0, w), m, XX)) (cc := fun v2 => (41, [(13, 8), (11, x1), (0, x2), z3], [(0, v2)], m, XX)) rfl rfl (fun y9 h9y => Go.mono (tR_isName m x1 (m 9 x2) (m 10 x2) hx1 y9 h9y) (by decide)) (fun _ => rfl) (fun v2 => ?_)
      refine T_if hD (c1 := (44, _, _, _, _)) (c2 := (46, _, _, _, _)) rfl (fun _ => ?_) (fun _ => ?_)
      · refine T_run hD 1 (c' := (45, [(13, 8), (11, x1), (0, x2), z3], [(0, 0)], m, XX)) rfl ?_
        exact T_fin hD rfl (fun h => h)
      · refine T_run hD 2 (c' := (48, [(13, 8), (11, x1), (0, x2), (0, 0)], [], m, XX)) rfl ?_
        exact tR_haveNames_48 r m x1 x2 0 hx1 
    · refine T_run hD 1 (c' := (100, [(13, 8), (11, x1), (0, x2), z3], [(0, 1)], m, XX)) rfl ?_
      exact T_fin hD rfl (fun h => h)
  · refine T_run hD 1 (c' := (100, [(13, 8), (11, x1), (0, x2), z3], [(0, 1)], m, XX)) rfl ?_
    exact T_fin hD rfl (fun h => h)
def fR_haveNames (m : aM) (x1 : Int) : Option Int :=
  if m 8 4 = 0 then
    some (0)
  else
    fR_haveNames_11 m x1 0
set_option maxRecDepth 100000 in
theorem tR_haveNames (m : aM) (x1 : Int) (hx1 : ck x1) : ∀ v, fR_haveNames m x1 = some v → Go PB 8 146 (aEnt d_R_haveNames [(13, 8), (11, x1)] m XX) (1, (0, v), m, XX) := by
  intro v hv
  have hD : aMd PB 146 = d_R_haveNames := rfl
  obtain ⟨r, hr⟩ : ∃ r : aR, r = (1, (0, v), m, XX) := ⟨_, rfl⟩
  have h9 : aT PB 8 146 r (fun w => r = (1, (0, w), m, XX)) (fR_haveNames m x1) (0, [(13, 8), (11, x1), (99, 0), (99, 0)], [], m, XX) := by
    unfold fR_haveNames
    refine T_run hD 2 (c' := (4, [(13, 8), (11, x1), (99, 0), (99, 0)], [(0, m 8 4)], m, XX)) rfl ?_
    refine T_if hD (c1 := (7, _, _, _, _)) (c2 := (9, _, _, _, _)) rfl (fun _ => ?_) (fun _ => ?_)
    · refine T_run hD 1 (c' := (8, [(13, 8), (11, x1), (99, 0), (99, 0)], [(0, 0)], m, XX)) rfl ?_
      exact T_fin hD rfl (fun h => h)
    · refine T_run hD 2 (c' := (11, [(13, 8), (11, x1), (0, 0), (99, 0)], [], m, XX)) rfl ?_
      exact tR_haveNames_11 r m x1 0 hx1 (99, 0)
  rw [← hr]
  exact h9 v hv hr
abbrev hT_addUndoubled_3 (x1 : Int) (x3 : Int) : (aM × Int) → aC → Prop := fun y c => ∃ (z2 : aV), c = (3, [(14, 12), (11, x1), z2, (0, x3), (0, (y.2))], [], (y.1), XX)
def fT_addUndoubled_3_b (x1 : Int) (x3 : Int) : (aM × Int) → Option ((aM × Int) ⊕ aM) := fun (m, x4) =>
  if x4 < x3 then
    (fC_at m x1 x4).bind fun v1 =>
    (fC_add m 13 v1).bind fun v2 =>
    (fC_at v2 x1 x4).bind fun v3 =>
    if v3 = 34 then
      some (Sum.inl (v2, w32 (x4 + 2)))
    else
      some (Sum.inl (v2, w32 (x4 + 1)))
  else
    some (Sum.inr (m))
def fT_addUndoubled_3 (m : aM) (x1 : Int) (x3 : Int) (x4 : Int) : Option aM := aLoop (fT_addUndoubled_3_b x1 x3) FU (m, x4)
set_option maxRecDepth 100000 in
theorem tT_addUndoubled_3 (r : aR) (m : aM) (x1 : Int) (x3 : Int) (x4 : Int) (hx1 : ck x1) (z2 : aV) : aT PB 2 169 r (fun w => r = (0, (0, 0), w, XX)) (fT_addUndoubled_3 m x1 x3 x4) (3, [(14, 12), (11, x1), z2, (0, x3), (0, x4)], [], m, XX) := by
  have hD : aMd PB 169 = d_T_addUndoubled := rfl
  refine T_loop (Hd := (hT_addUndoubled_3 x1 x3)) ?_ FU _ _ ⟨z2, rfl⟩
  clear m x4 z2
  intro y c hc
  obtain ⟨m, x4⟩ := y
  obtain ⟨z2, rfl⟩ := hc
  unfold fT_addUndoubled_3_b
  try dsimp only
  refine T_run hD 2 (c' := (6, [(14, 12), (11, x1), z2, (0, x3), (0, x4)], [(0, x3), (0, x4)], m, XX)) rfl ?_
  refine T_if hD (c1 := (9, _, _, _, _)) (c2 := (46, _, _, _, _)) rfl (fun _ => ?_) (fun _ => ?_)
  · refine T_run hD 4 (c' := (16, [(14, 12), (11, x1), z2, (0, x3), (0, x4)], [(0, x4), (11, x1), (11, 13)], m, XX)) rfl ?_
    refine T_call hD (D2 := d_C_at) (q2 := 107) (as := [(11, x1), (0, x4)]) (c1 := (19, [(14, 12), (11, x1), z2, (0, x3), (0, x4)], [(11, 13)], m, XX)) (mk := fun w => (1, (0, w), m, XX)) (cc := fun v1 => (19, [(14, 12), (11, x1), z2, (0, x3), (0, x4)], [(0, v1), (11, 13)], m, XX)) rfl rfl (fun y9 h9y => Go.mono (tC_at m x1 x4 hx1 y9 h9y) (by decide)) (fun _ => rfl) (fun v1 => ?_)
    refine T_call hD (D2 := d_C_add) (q2 := 109) (as := [(11, 13), (0, v1)]) (c1 := (22, [(14, 12), (11, x1), z2, (0, x3), (0, x4)], [], m, XX)) (mk := fun w => (0, (0, 0), w, XX)) (cc := fun v2 => (22, [(14, 12), (11, x1), z2, (0, x3), (0, x4)], [], v2, XX)) rfl rfl (fun y9 h9y => Go.mono (tC_add m 13 v1 (by decide) y9 h9y) (by decide)) (fun _ => rfl) (fun v2 => ?_)
    refine T_run hD 3 (c' := (27, [(14, 12), (11, x1), z2, (0, x3), (0, x4)], [(0, x4), (11, x1), (0, x4)], v2, XX)) rfl ?_
    refine T_call hD (D2 := d_C_at) (q2 := 107) (as := [(11, x1), (0, x4)]) (c1 := (30, [(14, 12), (11, x1), z2, (0, x3), (0, x4)], [(0, x4)], v2, XX)) (mk := fun w => (1, (0, w), v2, XX)) (cc := fun v3 => (30, [(14, 12), (11, x1), z2, (0, x3), (0, x4)], [(0, v3), (0, x4)], v2, XX)) rfl rfl (fun y9 h9y => Go.mono (tC_at v2 x1 x4 hx1 y9 h9y) (by decide)) (fun _ => rfl) (fun v3 => ?_)
    refine T_run hD 1 (c' := (32, [(14, 12), (11, x1), z2, (0, x3), (0, x4)], [(0, 34), (0, v3), (0, x4)], v2, XX)) rfl ?_
    refine T_if hD (c1 := (35, _, _, _, _)) (c2 := (39, _, _, _, _)) rfl (fun _ => ?_) (fun _ => ?_)
    · refine T_run hD 5 (c' := (3, [(14, 12), (11, x1), z2, (0, x3), (0, w32 (x4 + 2))], [], v2, XX)) rfl ?_
      exact T_back0 ⟨_, rfl⟩
    · refine T_run hD 4 (c' := (3, [(14, 12), (11, x1), z2, (0, x3), (0, w32 (x4 + 1))], [], v2, XX)) rfl ?_
      exact T_back0 ⟨_, rfl⟩
  · exact T_fin hD rfl (fun h => h)
def fT_addUndoubled (m : aM) (x1 : Int) (x2 : Int) (x3 : Int) : Option aM :=
  fT_addUndoubled_3 m x1 x3 x2
set_option maxRecDepth 100000 in
theorem tT_addUndoubled (m : aM) (x1 : Int) (x2 : Int) (x3 : Int) (hx1 : ck x1) : ∀ v, fT_addUndoubled m x1 x2 x3 = some v → Go PB 2 169 (aEnt d_T_addUndoubled [(14, 12), (11, x1), (0, x2), (0, x3)] m XX) (0, (0, 0), v, XX) := by
  intro v hv
  have hD : aMd PB 169 = d_T_addUndoubled := rfl
  obtain ⟨r, hr⟩ : ∃ r : aR, r = (0, (0, 0), v, XX) := ⟨_, rfl⟩
  have h9 : aT PB 2 169 r (fun w => r = (0, (0, 0), w, XX)) (fT_addUndoubled m x1 x2 x3) (0, [(14, 12), (11, x1), (0, x2), (0, x3), (99, 0)], [], m, XX) := by
    unfold fT_addUndoubled
    refine T_run hD 2 (c' := (3, [(14, 12), (11, x1), (0, x2), (0, x3), (0, x2)], [], m, XX)) rfl ?_
    exact tT_addUndoubled_3 r m x1 x3 x2 hx1 (0, x2)
  rw [← hr]
  exact h9 v hv hr
def fX_isDigit (x0 : Int) : Int :=
  if x0 < 48 then
    0
  else
    if 57 < x0 then
      0
    else
      1
set_option maxRecDepth 100000 in
theorem tX_isDigit (m : aM) (x0 : Int) : Go PB 1 18 (aEnt d_X_isDigit [(0, x0)] m XX) (1, (0, (fX_isDigit x0)), m, XX) := by
  have hD : aMd PB 18 = d_X_isDigit := rfl
  show aU PB 1 18 (fun w => (1, (0, w), m, XX)) (fX_isDigit x0) (0, [(0, x0)], [], m, XX)
  unfold fX_isDigit
  refine U_run hD 2 (c' := (3, [(0, x0)], [(0, 48), (0, x0)], m, XX)) rfl ?_
  refine U_if hD (c1 := (16, _, _, _, _)) (c2 := (6, _, _, _, _)) rfl (fun _ => ?_) (fun _ => ?_)
  · refine U_run hD 1 (c' := (17, [(0, x0)], [(0, 0)], m, XX)) rfl ?_
    exact Go.fin hD rfl
  · refine U_run hD 2 (c' := (9, [(0, x0)], [(0, 57), (0, x0)], m, XX)) rfl ?_
    refine U_if hD (c1 := (16, _, _, _, _)) (c2 := (12, _, _, _, _)) rfl (fun _ => ?_) (fun _ => ?_)
    · refine U_run hD 1 (c' := (17, [(0, x0)], [(0, 0)], m, XX)) rfl ?_
      exact Go.fin hD rfl
    · refine U_run hD 2 (c' := (17, [(0, x0)], [(0, 1)], m, XX)) rfl ?_
      exact Go.fin hD rfl
abbrev hC_isWhole_56 (m : aM) (x0 : Int) (x1 : Int) (x2 : Int) (x3 : Int) : (Int) → aC → Prop := fun y c => ∃ (z5 : aV) (z6 : aV), c = (56, [(11, x0), (0, x1), (0, x2), (0, x3), (0, (y)), z5, z6], [], m, XX)
abbrev hC_isWhole_110 (m : aM) (x0 : Int) (x3 : Int) (x4 : Int) : (Int × Int) → aC → Prop := fun y c => ∃ (z1 : aV) (z2 : aV), c = (110, [(11, x0), z1, z2, (0, x3), (41, x4), (0, (y.1)), (0, (y.2))], [], m, XX)
def fC_isWhole_149 (m : aM) (x5 : Int) : Option Int :=
  if 0 < x5 then
    some (0)
  else
    some (1)
set_option maxRecDepth 100000 in
theorem tC_isWhole_149 (r : aR) (m : aM) (x5 : Int) (z0 : aV) (z1 : aV) (z2 : aV) (z3 : aV) (z4 : aV) (z6 : aV) : aT PB 5 120 r (fun w => r = (1, (0, w), m, XX)) (fC_isWhole_149 m x5) (149, [z0, z1, z2, z3, z4, (0, x5), z6], [], m, XX) := by
  have hD : aMd PB 120 = d_C_isWhole := rfl
  unfold fC_isWhole_149
  refine T_run hD 1 (c' := (151, [z0, z1, z2, z3, z4, (0, x5), z6], [(0, x5)], m, XX)) rfl ?_
  refine T_if hD (c1 := (158, _, _, _, _)) (c2 := (154, _, _, _, _)) rfl (fun _ => ?_) (fun _ => ?_)
  · refine T_run hD 1 (c' := (159, [z0, z1, z2, z3, z4, (0, x5), z6], [(0, 0)], m, XX)) rfl ?_
    exact T_fin hD rfl (fun h => h)
  · refine T_run hD 2 (c' := (159, [z0, z1, z2, z3, z4, (0, x5), z6], [(0, 1)], m, XX)) rfl ?_
    exact T_fin hD rfl (fun h => h)
def fC_isWhole_110_b (m : aM) (x0 : Int) (x3 : Int) (x4 : Int) : (Int × Int) → Option ((Int × Int) ⊕ Int) := fun (x5, x6) =>
  if x6 < fJS_length x4 then
    if x5 = 0 then
      (fC_at m x0 (w32 (x3 + x6))).bind fun v4 =>
      (fJS_charAt x4 x6).bind fun v5 =>
      some (Sum.inl (w32 (v4 - v5), w32 (x6 + 1)))
    else
      (fC_isWhole_149 m x5).map Sum.inr
  else
    (fC_isWhole_149 m x5).map Sum.inr
def fC_isWhole_110 (m : aM) (x0 : Int) (x3 : Int) (x4 : Int) (x5 : Int) (x6 : Int) : Option Int := aLoop (fC_isWhole_110_b m x0 x3 x4) FU (x5, x6)
set_option maxRecDepth 100000 in
theorem tC_isWhole_110 (r : aR) (m : aM) (x0 : Int) (x3 : Int) (x4 : Int) (x5 : Int) (x6 : Int) (hx0 : ck x0) (z1 : aV) (z2 : aV) : aT PB 5 120 r (fun w => r = (1, (0, w), m, XX)) (fC_isWhole_110 m x0 x3 x4 x5 x6) (110, [(11, x0), z1, z2, (0, x3), (41, x4), (0, x5), (0, x6)], [], m, XX) := by
  have hD : aMd PB 120 = d_C_isWhole := rfl
  refine T_loop (Hd := (hC_isWhole_110 m x0 x3 x4)) ?_ FU _ _ ⟨z1, z2, rfl⟩
  clear x5 x6 z1 z2
  intro y c hc
  obtain ⟨x5, x6⟩ := y
  obtain ⟨z1, z2, rfl⟩ := hc
  unfold fC_isWhole_110_b
  try dsimp only
  refine T_run hD 2 (c' := (114, [(11, x0), z1, z2, (0, x3), (41, x4), (0, x5), (0, x6)], [(41, x4), (0, x6)], m, XX)) rfl ?_
  refine T_call0 hD (D2 := d_JS_length) (q2 := 198) (as := [(41, x4)]) (c1 := (117, [(11, x0), z1, z2, (0, x3), (41, x4), (0, x5), (0, x6)], [(0, x6)], m, XX)) (r2 := (1, (0, fJS_length x4), m, XX)) (c2 := (117, [(11, x0), z1, z2, (0, x3), (41, x4), (0, x5), (0, x6)], [(0, fJS_length x4), (0, x6)], m, XX)) rfl rfl (Go.mono (tJS_length m x4) (by decide)) rfl ?_
  refine T_if hD (c1 := (120, _, _, _, _)) (c2 := (149, _, _, _, _)) rfl (fun _ => ?_) (fun _ => ?_)
  · refine T_run hD 1 (c' := (122, [(11, x0), z1, z2, (0, x3), (41, x4), (0, x5), (0, x6)], [(0, x5)], m, XX)) rfl ?_
    refine T_if hD (c1 := (125, _, _, _, _)) (c2 := (149, _, _, _, _)) rfl (fun _ => ?_) (fun _ => ?_)
    · refine T_run hD 4 (c' := (130, [(11, x0), z1, z2, (0, x3), (41, x4), (0, x5), (0, x6)], [(0, w32 (x3 + x6)), (11, x0)], m, XX)) rfl ?_
      refine T_call hD (D2 := d_C_at) (q2 := 107) (as := [(11, x0), (0, w32 (x3 + x6))]) (c1 := (133, [(11, x0), z1, z2, (0, x3), (41, x4), (0, x5), (0, x6)], [], m, XX)) (mk := fun w => (1, (0, w), m, XX)) (cc := fun v4 => (133, [(11, x0), z1, z2, (0, x3), (41, x4), (0, x5), (0, x6)], [(0, v4)], m, XX)) rfl rfl (fun y9 h9y => Go.mono (tC_at m x0 (w32 (x3 + x6)) hx0 y9 h9y) (by decide)) (fun _ => rfl) (fun v4 => ?_)
      refine T_run hD 2 (c' := (137, [(11, x0), z1, z2, (0, x3), (41, x4), (0, x5), (0, x6)], [(0, x6), (41, x4), (0, v4)], m, XX)) rfl ?_
      refine T_call hD (D2 := d_JS_charAt) (q2 := 200) (as := [(41, x4), (0, x6)]) (c1 := (140, [(11, x0), z1, z2, (0, x3), (41, x4), (0, x5), (0, x6)], [(0, v4)], m, XX)) (mk := fun w => (1, (0, w), m, XX)) (cc := fun v5 => (140, [(11, x0), z1, z2, (0, x3), (41, x4), (0, x5), (0, x6)], [(0, v5), (0, v4)], m, XX)) rfl rfl (fun y9 h9y => Go.mono (tJS_charAt m x4 x6 y9 h9y) (by decide)) (fun _ => rfl) (fun v5 => ?_)
      refine T_run hD 4 (c' := (110, [(11, x0), z1, z2, (0, x3), (41, x4), (0, w32 (v4 - v5)), (0, w32 (x6 + 1))], [], m, XX)) rfl ?_
      exact T_back0 ⟨_, _, rfl⟩
    · exact T_map (tC_isWhole_149 r m x5 (11, x0) z1 z2 (0, x3) (41, x4) (0, x6))
  · exact T_map (tC_isWhole_149 r m x5 (11, x0) z1 z2 (0, x3) (41, x4) (0, x6))
def fC_isWhole_94 (m : aM) (x0 : Int) (x2 : Int) (x3 : Int) (s0 : Int) : Option Int :=
  fC_isWhole_110 m x0 x3 s0 (w32 ((w32 (x2 - x3)) - (fJS_length s0))) 0
set_option maxRecDepth 100000 in
theorem tC_isWhole_94 (r : aR) (m : aM) (x0 : Int) (x2 : Int) (x3 : Int) (s0 : Int) (hx0 : ck x0) (z1 : aV) (z4 : aV) (z5 : aV) (z6 : aV) : aT PB 5 120 r (fun w => r = (1, (0, w), m, XX)) (fC_isWhole_94 m x0 x2 x3 s0) (94, [(11, x0), z1, (0, x2), (0, x3), z4, z5, z6], [(41, s0)], m, XX) := by
  have hD : aMd PB 120 = d_C_isWhole := rfl
  unfold fC_isWhole_94
  refine T_run hD 5 (c' := (101, [(11, x0), z1, (0, x2), (0, x3), (41, s0), z5, z6], [(41, s0), (0, w32 (x2 - x3))], m, XX)) rfl ?_
  refine T_call0 hD (D2 := d_JS_length) (q2 := 198) (as := [(41, s0)]) (c1 := (104, [(11, x0), z1, (0, x2), (0, x3), (41, s0), z5, z6], [(0, w32 (x2 - x3))], m, XX)) (r2 := (1, (0, fJS_length s0), m, XX)) (c2 := (104, [(11, x0), z1, (0, x2), (0, x3), (41, s0), z5, z6], [(0, fJS_length s0), (0, w32 (x2 - x3))], m, XX)) rfl rfl (Go.mono (tJS_length m s0) (by decide)) rfl ?_
  refine T_run hD 4 (c' := (110, [(11, x0), z1, (0, x2), (0, x3), (41, s0), (0, w32 ((w32 (x2 - x3)) - (fJS_length s0))), (0, 0)], [], m, XX)) rfl ?_
  exact tC_isWhole_110 r m x0 x3 s0 (w32 ((w32 (x2 - x3)) - (fJS_length s0))) 0 hx0 z1 (0, x2)
def fC_isWhole_56_b (m : aM) (x0 : Int) (x1 : Int) (x2 : Int) (x3 : Int) : (Int) → Option ((Int) ⊕ Int) := fun (x4) =>
  if x4 < x2 then
    (fC_at m x0 x4).bind fun v3 =>
    if fX_isDigit v3 = 0 then
      some (Sum.inr (0))
    else
      some (Sum.inl (w32 (x4 + 1)))
  else
    if x1 < x3 then
      (fC_isWhole_94 m x0 x2 x3 17).map Sum.inr
    else
      (fC_isWhole_94 m x0 x2 x3 16).map Sum.inr
def fC_isWhole_56 (m : aM) (x0 : Int) (x1 : Int) (x2 : Int) (x3 : Int) (x4 : Int) : Option Int := aLoop (fC_isWhole_56_b m x0 x1 x2 x3) FU (x4)
set_option maxRecDepth 100000 in
theorem tC_isWhole_56 (r : aR) (m : aM) (x0 : Int) (x1 : Int) (x2 : Int) (x3 : Int) (x4 : Int) (hx0 : ck x0) (z5 : aV) (z6 : aV) : aT PB 5 120 r (fun w => r = (1, (0, w), m, XX)) (fC_isWhole_56 m x0 x1 x2 x3 x4) (56, [(11, x0), (0, x1), (0, x2), (0, x3), (0, x4), z5, z6], [], m, XX) := by
  have hD : aMd PB 120 = d_C_isWhole := rfl
  refine T_loop (Hd := (hC_isWhole_56 m x0 x1 x2 x3)) ?_ FU _ _ ⟨z5, z6, rfl⟩
  clear x4 z5 z6
  intro x4 c hc
  obtain ⟨z5, z6, rfl⟩ := hc
  unfold fC_isWhole_56_b
  try dsimp only
  refine T_run hD 2 (c' := (59, [(11, x0), (0, x1), (0, x2), (0, x3), (0, x4), z5, z6], [(0, x2), (0, x4)], m, XX)) rfl ?_
  refine T_if hD (c1 := (62, _, _, _, _)) (c2 := (82, _, _, _, _)) rfl (fun _ => ?_) (fun _ => ?_)
  · refine T_run hD 2 (c' := (65, [(11, x0), (0, x1), (0, x2), (0, x3), (0, x4), z5, z6], [(0, x4), (11, x0)], m, XX)) rfl ?_
    refine T_call hD (D2 := d_C_at) (q2 := 107) (as := [(11, x0), (0, x4)]) (c1 := (68, [(11, x0), (0, x1), (0, x2), (0, x3), (0, x4), z5, z6], [], m, XX)) (mk := fun w => (1, (0, w), m, XX)) (cc := fun v3 => (68, [(11, x0), (0, x1), (0, x2), (0, x3), (0, x4), z5, z6], [(0, v3)], m, XX)) rfl rfl (fun y9 h9y => Go.mono (tC_at m x0 x4 hx0 y9 h9y) (by decide)) (fun _ => rfl) (fun v3 => ?_)
    refine T_call0 hD (D2 := d_X_isDigit) (q2 := 18) (as := [(0, v3)]) (c1 := (71, [(11, x0), (0, x1), (0, x2), (0, x3), (0, x4), z5, z6], [], m, XX)) (r2 := (1, (0, fX_isDigit v3), m, XX)) (c2 := (71, [(11, x0), (0, x1), (0, x2), (0, x3), (0, x4), z5, z6], [(0, fX_isDigit v3)], m, XX)) rfl rfl (Go.mono (tX_isDigit m v3) (by decide)) rfl ?_
    refine T_if hD (c1 := (74, _, _, _, _)) (c2 := (76, _, _, _, _)) rfl (fun _ => ?_) (fun _ => ?_)
    · refine T_run hD 1 (c' := (75, [(11, x0), (0, x1), (0, x2), (0, x3), (0, x4), z5, z6], [(0, 0)], m, XX)) rfl ?_
      exact T_fin hD rfl (fun h => h)
    · refine T_run hD 2 (c' := (56, [(11, x0), (0, x1), (0, x2), (0, x3), (0, w32 (x4 + 1)), z5, z6], [], m, XX)) rfl ?_
      exact T_back0 ⟨_, _, rfl⟩
  · refine T_run hD 2 (c' := (84, [(11, x0), (0, x1), (0, x2), (0, x3), (0, x4), z5, z6], [(0, x1), (0, x3)], m, XX)) rfl ?_
    refine T_if hD (c1 := (87, _, _, _, _)) (c2 := (92, _, _, _, _)) rfl (fun _ => ?_) (fun _ => ?_)
    · refine T_run hD 2 (c' := (94, [(11, x0), (0, x1), (0, x2), (0, x3), (0, x4), z5, z6], [(41, 17)], m, XX)) rfl ?_
      exact T_map (tC_isWhole_94 r m x0 x2 x3 17 hx0 (0, x1) (0, x4) z5 z6)
    · refine T_run hD 1 (c' := (94, [(11, x0), (0, x1), (0, x2), (0, x3), (0, x4), z5, z6], [(41, 16)], m, XX)) rfl ?_
      exact T_map (tC_isWhole_94 r m x0 x2 x3 16 hx0 (0, x1) (0, x4) z5 z6)
def fC_isWhole_17 (m : aM) (x0 : Int) (x1 : Int) (x2 : Int) (s0 : Int) : Option Int :=
  if s0 < x2 then
    (fC_at m x0 s0).bind fun v2 =>
    if v2 = 48 then
      if s0 = x1 then
        if x2 = w32 (x1 + 1) then
          some (1)
        else
          some (0)
      else
        some (0)
    else
      fC_isWhole_56 m x0 x1 x2 s0 s0
  else
    some (0)
set_option maxRecDepth 100000 in
theorem tC_isWhole_17 (r : aR) (m : aM) (x0 : Int) (x1 : Int) (x2 : Int) (s0 : Int) (hx0 : ck x0) (z3 : aV) (z4 : aV) (z5 : aV) (z6 : aV) : aT PB 5 120 r (fun w => r = (1, (0, w), m, XX)) (fC_isWhole_17 m x0 x1 x2 s0) (17, [(11, x0), (0, x1), (0, x2), z3, z4, z5, z6], [(0, s0)], m, XX) := by
  have hD : aMd PB 120 = d_C_isWhole := rfl
  unfold fC_isWhole_17
  refine T_run hD 3 (c' := (20, [(11, x0), (0, x1), (0, x2), (0, s0), z4, z5, z6], [(0, x2), (0, s0)], m, XX)) rfl ?_
  refine T_if hD (c1 := (25, _, _, _, _)) (c2 := (23, _, _, _, _)) rfl (fun _ => ?_) (fun _ => ?_)
  · refine T_run hD 2 (c' := (27, [(11, x0), (0, x1), (0, x2), (0, s0), z4, z5, z6], [(0, s0), (11, x0)], m, XX)) rfl ?_
    refine T_call hD (D2 := d_C_at) (q2 := 107) (as := [(11, x0), (0, s0)]) (c1 := (30, [(11, x0), (0, x1), (0, x2), (0, s0), z4, z5, z6], [], m, XX)) (mk := fun w => (1, (0, w), m, XX)) (cc := fun v2 => (30, [(11, x0), (0, x1), (0, x2), (0, s0), z4, z5, z6], [(0, v2)], m, XX)) rfl rfl (fun y9 h9y => Go.mono (tC_at m x0 s0 hx0 y9 h9y) (by decide)) (fun _ => rfl) (fun v2 => ?_)
    refine T_run hD 1 (c' := (32, [(11, x0), (0, x1), (0, x2), (0, s0), z4, z5, z6], [(0, 48), (0, v2)], m, XX)) rfl ?_
    refine T_if hD (c1 := (35, _, _, _, _)) (c2 := (53, _, _, _, _)) rfl (fun _ => ?_) (fun _ => ?_)
    · refine T_run hD 2 (c' := (37, [(11, x0), (0, x1), (0, x2), (0, s0), z4, z5, z6], [(0, x1), (0, s0)], m, XX)) rfl ?_
      refine T_if hD (c1 := (40, _, _, _, _)) (c2 := (51, _, _, _, _)) rfl (fun _ => ?_) (fun _ => ?_)
      · refine T_run hD 4 (c' := (44, [(11, x0), (0, x1), (0, x2), (0, s0), z4, z5, z6], [(0, w32 (x1 + 1)), (0, x2)], m, XX)) rfl ?_
        refine T_if hD (c1 := (47, _, _, _, _)) (c2 := (51, _, _, _, _)) rfl (fun _ => ?_) (fun _ => ?_)
        · refine T_run hD 2 (c' := (52, [(11, x0), (0, x1), (0, x2), (0, s0), z4, z5, z6], [(0, 1)], m, XX)) rfl ?_
          exact T_fin hD rfl (fun h => h)
        · refine T_run hD 1 (c' := (52, [(11, x0), (0, x1), (0, x2), (0, s0), z4, z5, z6], [(0, 0)], m, XX)) rfl ?_
          exact T_fin hD rfl (fun h => h)
      · refine T_run hD 1 (c' := (52, [(11, x0), (0, x1), (0, x2), (0, s0), z4, z5, z6], [(0, 0)], m, XX)) rfl ?_
        exact T_fin hD rfl (fun h => h)
    · refine T_run hD 2 (c' := (56, [(11, x0), (0, x1), (0, x2), (0, s0), (0, s0), z5, z6], [], m, XX)) rfl ?_
      exact tC_isWhole_56 r m x0 x1 x2 s0 s0 hx0 z5 z6
  · refine T_run hD 1 (c' := (24, [(11, x0), (0, x1), (0, x2), (0, s0), z4, z5, z6], [(0, 0)], m, XX)) rfl ?_
    exact T_fin hD rfl (fun h => h)
def fC_isWhole (m : aM) (x0 : Int) (x1 : Int) (x2 : Int) : Option Int :=
  (fC_at m x0 x1).bind fun v1 =>
  if v1 = 45 then
    fC_isWhole_17 m x0 x1 x2 (w32 (x1 + 1))
  else
    fC_isWhole_17 m x0 x1 x2 x1
set_option maxRecDepth 100000 in
theorem tC_isWhole (m : aM) (x0 : Int) (x1 : Int) (x2 : Int) (hx0 : ck x0) : ∀ v, fC_isWhole m x0 x1 x2 = some v → Go PB 5 120 (aEnt d_C_isWhole [(11, x0), (0, x1), (0, x2)] m XX) (1, (0, v), m, XX) := by
  intro v hv
  have hD : aMd PB 120 = d_C_isWhole := rfl
  obtain ⟨r, hr⟩ : ∃ r : aR, r = (1, (0, v), m, XX) := ⟨_, rfl⟩
  have h9 : aT PB 5 120 r (fun w => r = (1, (0, w), m, XX)) (fC_isWhole m x0 x1 x2) (0, [(11, x0), (0, x1), (0, x2), (99, 0), (99, 0), (99, 0), (99, 0)], [], m, XX) := by
    unfold fC_isWhole
    refine T_run hD 2 (c' := (2, [(11, x0), (0, x1), (0, x2), (99, 0), (99, 0), (99, 0), (99, 0)], [(0, x1), (11, x0)], m, XX)) rfl ?_
    refine T_call hD (D2 := d_C_at) (q2 := 107) (as := [(11, x0), (0, x1)]) (c1 := (5, [(11, x0), (0, x1), (0, x2), (99, 0), (99, 0), (99, 0), (99, 0)], [], m, XX)) (mk := fun w => (1, (0, w), m, XX)) (cc := fun v1 => (5, [(11, x0), (0, x1), (0, x2), (99, 0), (99, 0), (99, 0), (99, 0)], [(0, v1)], m, XX)) rfl rfl (fun y9 h9y => Go.mono (tC_at m x0 x1 hx0 y9 h9y) (by decide)) (fun _ => rfl) (fun v1 => ?_)
    refine T_run hD 1 (c' := (7, [(11, x0), (0, x1), (0, x2), (99, 0), (99, 0), (99, 0), (99, 0)], [(0, 45), (0, v1)], m, XX)) rfl ?_
    refine T_if hD (c1 := (10, _, _, _, _)) (c2 := (16, _, _, _, _)) rfl (fun _ => ?_) (fun _ => ?_)
    · refine T_run hD 4 (c' := (17, [(11, x0), (0, x1), (0, x2), (99, 0), (99, 0), (99, 0), (99, 0)], [(0, w32 (x1 + 1))], m, XX)) rfl ?_
      exact tC_isWhole_17 r m x0 x1 x2 (w32 (x1 + 1)) hx0 (99, 0) (99, 0) (99, 0) (99, 0)
    · refine T_run hD 1 (c' := (17, [(11, x0), (0, x1), (0, x2), (99, 0), (99, 0), (99, 0), (99, 0)], [(0, x1)], m, XX)) rfl ?_
      exact tC_isWhole_17 r m x0 x1 x2 x1 hx0 (99, 0) (99, 0) (99, 0) (99, 0)
  rw [← hr]
  exact h9 v hv hr
abbrev hC_digitsOf_5 (m : aM) (x0 : Int) (x1 : Int) (x2 : Int) : (Int × Int) → aC → Prop := fun y c => ∃ (z4 : aV), c = (5, [(11, x0), (0, x1), (0, x2), (1, (y.1)), z4, (0, (y.2))], [], m, XX)
def fC_digitsOf_5_b (m : aM) (x0 : Int) (x1 : Int) (x2 : Int) : (Int × Int) → Option ((Int × Int) ⊕ Int) := fun (x3, x5) =>
  if x5 < x2 then
    (fC_at m x0 x5).bind fun v1 =>
    if fX_isDigit v1 = 0 then
      some (Sum.inl (x3, w32 (x5 + 1)))
    else
      (fC_at m x0 x5).bind fun v2 =>
      some (Sum.inl (w64 ((w64 (x3 * 10)) - (w32 (v2 - 48))), w32 (x5 + 1)))
  else
    (fC_at m x0 x1).bind fun v3 =>
    if v3 = 45 then
      some (Sum.inr (x3))
    else
      some (Sum.inr (w64 (-x3)))
def fC_digitsOf_5 (m : aM) (x0 : Int) (x1 : Int) (x2 : Int) (x3 : Int) (x5 : Int) : Option Int := aLoop (fC_digitsOf_5_b m x0 x1 x2) FU (x3, x5)
set_option maxRecDepth 100000 in
theorem tC_digitsOf_5 (r : aR) (m : aM) (x0 : Int) (x1 : Int) (x2 : Int) (x3 : Int) (x5 : Int) (hx0 : ck x0) (z4 : aV) : aT PB 2 119 r (fun w => r = (1, (1, w), m, XX)) (fC_digitsOf_5 m x0 x1 x2 x3 x5) (5, [(11, x0), (0, x1), (0, x2), (1, x3), z4, (0, x5)], [], m, XX) := by
  have hD : aMd PB 119 = d_C_digitsOf := rfl
  refine T_loop (Hd := (hC_digitsOf_5 m x0 x1 x2)) ?_ FU _ _ ⟨z4, rfl⟩
  clear x3 x5 z4
  intro y c hc
  obtain ⟨x3, x5⟩ := y
  obtain ⟨z4, rfl⟩ := hc
  unfold fC_digitsOf_5_b
  try dsimp only
  refine T_run hD 2 (c' := (8, [(11, x0), (0, x1), (0, x2), (1, x3), z4, (0, x5)], [(0, x2), (0, x5)], m, XX)) rfl ?_
  refine T_if hD (c1 := (11, _, _, _, _)) (c2 := (46, _, _, _, _)) rfl (fun _ => ?_) (fun _ => ?_)
  · refine T_run hD 2 (c' := (14, [(11, x0), (0, x1), (0, x2), (1, x3), z4, (0, x5)], [(0, x5), (11, x0)], m, XX)) rfl ?_
    refine T_call hD (D2 := d_C_at) (q2 := 107) (as := [(11, x0), (0, x5)]) (c1 := (17, [(11, x0), (0, x1), (0, x2), (1, x3), z4, (0, x5)], [], m, XX)) (mk := fun w => (1, (0, w), m, XX)) (cc := fun v1 => (17, [(11, x0), (0, x1), (0, x2), (1, x3), z4, (0, x5)], [(0, v1)], m, XX)) rfl rfl (fun y9 h9y => Go.mono (tC_at m x0 x5 hx0 y9 h9y) (by decide)) (fun _ => rfl) (fun v1 => ?_)
    refine T_call0 hD (D2 := d_X_isDigit) (q2 := 18) (as := [(0, v1)]) (c1 := (20, [(11, x0), (0, x1), (0, x2), (1, x3), z4, (0, x5)], [], m, XX)) (r2 := (1, (0, fX_isDigit v1), m, XX)) (c2 := (20, [(11, x0), (0, x1), (0, x2), (1, x3), z4, (0, x5)], [(0, fX_isDigit v1)], m, XX)) rfl rfl (Go.mono (tX_isDigit m v1) (by decide)) rfl ?_
    refine T_if hD (c1 := (40, _, _, _, _)) (c2 := (23, _, _, _, _)) rfl (fun _ => ?_) (fun _ => ?_)
    · refine T_run hD 2 (c' := (5, [(11, x0), (0, x1), (0, x2), (1, x3), aJ z4, (0, w32 (x5 + 1))], [], m, XX)) rfl ?_
      exact T_back0 ⟨_, rfl⟩
    · refine T_run hD 5 (c' := (31, [(11, x0), (0, x1), (0, x2), (1, x3), z4, (0, x5)], [(0, x5), (11, x0), (1, w64 (x3 * 10))], m, XX)) rfl ?_
      refine T_call hD (D2 := d_C_at) (q2 := 107) (as := [(11, x0), (0, x5)]) (c1 := (34, [(11, x0), (0, x1), (0, x2), (1, x3), z4, (0, x5)], [(1, w64 (x3 * 10))], m, XX)) (mk := fun w => (1, (0, w), m, XX)) (cc := fun v2 => (34, [(11, x0), (0, x1), (0, x2), (1, x3), z4, (0, x5)], [(0, v2), (1, w64 (x3 * 10))], m, XX)) rfl rfl (fun y9 h9y => Go.mono (tC_at m x0 x5 hx0 y9 h9y) (by decide)) (fun _ => rfl) (fun v2 => ?_)
      refine T_run hD 7 (c' := (5, [(11, x0), (0, x1), (0, x2), (1, w64 ((w64 (x3 * 10)) - (w32 (v2 - 48)))), (99, 0), (0, w32 (x5 + 1))], [], m, XX)) rfl ?_
      exact T_back0 ⟨_, rfl⟩
  · refine T_run hD 2 (c' := (48, [(11, x0), (0, x1), (0, x2), (1, x3), z4, (0, x5)], [(0, x1), (11, x0)], m, XX)) rfl ?_
    refine T_call hD (D2 := d_C_at) (q2 := 107) (as := [(11, x0), (0, x1)]) (c1 := (51, [(11, x0), (0, x1), (0, x2), (1, x3), z4, (0, x5)], [], m, XX)) (mk := fun w => (1, (0, w), m, XX)) (cc := fun v3 => (51, [(11, x0), (0, x1), (0, x2), (1, x3), z4, (0, x5)], [(0, v3)], m, XX)) rfl rfl (fun y9 h9y => Go.mono (tC_at m x0 x1 hx0 y9 h9y) (by decide)) (fun _ => rfl) (fun v3 => ?_)
    refine T_run hD 1 (c' := (53, [(11, x0), (0, x1), (0, x2), (1, x3), z4, (0, x5)], [(0, 45), (0, v3)], m, XX)) rfl ?_
    refine T_if hD (c1 := (56, _, _, _, _)) (c2 := (60, _, _, _, _)) rfl (fun _ => ?_) (fun _ => ?_)
    · refine T_run hD 2 (c' := (62, [(11, x0), (0, x1), (0, x2), (1, x3), z4, (0, x5)], [(1, x3)], m, XX)) rfl ?_
      exact T_fin hD rfl (fun h => h)
    · refine T_run hD 2 (c' := (62, [(11, x0), (0, x1), (0, x2), (1, x3), z4, (0, x5)], [(1, w64 (-x3))], m, XX)) rfl ?_
      exact T_fin hD rfl (fun h => h)
def fC_digitsOf (m : aM) (x0 : Int) (x1 : Int) (x2 : Int) : Option Int :=
  fC_digitsOf_5 m x0 x1 x2 0 x1
set_option maxRecDepth 100000 in
theorem tC_digitsOf (m : aM) (x0 : Int) (x1 : Int) (x2 : Int) (hx0 : ck x0) : ∀ v, fC_digitsOf m x0 x1 x2 = some v → Go PB 2 119 (aEnt d_C_digitsOf [(11, x0), (0, x1), (0, x2)] m XX) (1, (1, v), m, XX) := by
  intro v hv
  have hD : aMd PB 119 = d_C_digitsOf := rfl
  obtain ⟨r, hr⟩ : ∃ r : aR, r = (1, (1, v), m, XX) := ⟨_, rfl⟩
  have h9 : aT PB 2 119 r (fun w => r = (1, (1, w), m, XX)) (fC_digitsOf m x0 x1 x2) (0, [(11, x0), (0, x1), (0, x2), (99, 0), (99, 0), (99, 0)], [], m, XX) := by
    unfold fC_digitsOf
    refine T_run hD 4 (c' := (5, [(11, x0), (0, x1), (0, x2), (1, 0), (99, 0), (0, x1)], [], m, XX)) rfl ?_
    exact tC_digitsOf_5 r m x0 x1 x2 0 x1 hx0 (99, 0)
  rw [← hr]
  exact h9 v hv hr
def fC_isDay_74 (s0 : Int) (s1 : Int) (s2 : Int) : Option Int :=
  if w32 (s1 + s2) < s0 then
    some (0)
  else
    some (1)
set_option maxRecDepth 100000 in
theorem tC_isDay_74 (r : aR) (m : aM) (s0 : Int) (s1 : Int) (s2 : Int) (z0 : aV) (z1 : aV) (z2 : aV) (z3 : aV) : aT PB 1 122 r (fun w => r = (1, (0, w), m, XX)) (fC_isDay_74 s0 s1 s2) (74, [z0, z1, z2, z3], [(0, s2), (0, s1), (0, s0)], m, XX) := by
  have hD : aMd PB 122 = d_C_isDay := rfl
  unfold fC_isDay_74
  refine T_run hD 1 (c' := (75, [z0, z1, z2, z3], [(0, w32 (s1 + s2)), (0, s0)], m, XX)) rfl ?_
  refine T_if hD (c1 := (82, _, _, _, _)) (c2 := (78, _, _, _, _)) rfl (fun _ => ?_) (fun _ => ?_)
  · refine T_run hD 1 (c' := (83, [z0, z1, z2, z3], [(0, 0)], m, XX)) rfl ?_
    exact T_fin hD rfl (fun h => h)
  · refine T_run hD 2 (c' := (83, [z0, z1, z2, z3], [(0, 1)], m, XX)) rfl ?_
    exact T_fin hD rfl (fun h => h)
def fC_isDay_51 (x1 : Int) (x2 : Int) (s0 : Int) : Option Int :=
  gd (0 ≤ w32 (x1 - 1) ∧ w32 (x1 - 1) < 12) (
  if s0 = 0 then
    fC_isDay_74 x2 (dDay (w32 (x1 - 1))) 0
  else
    if x1 = 2 then
      fC_isDay_74 x2 (dDay (w32 (x1 - 1))) 1
    else
      fC_isDay_74 x2 (dDay (w32 (x1 - 1))) 0)
set_option maxRecDepth 100000 in
theorem tC_isDay_51 (r : aR) (m : aM) (x1 : Int) (x2 : Int) (s0 : Int) (z0 : aV) (z3 : aV) : aT PB 1 122 r (fun w => r = (1, (0, w), m, XX)) (fC_isDay_51 x1 x2 s0) (51, [z0, (0, x1), (0, x2), z3], [(0, s0)], m, XX) := by
  have hD : aMd PB 122 = d_C_isDay := rfl
  unfold fC_isDay_51
  refine T_run hD 6 (c' := (59, [z0, (0, x1), (0, x2), (0, s0)], [(0, w32 (x1 - 1)), (42, 0), (0, x2)], m, XX)) rfl ?_
  refine T_gd hD (c1 := (60, [z0, (0, x1), (0, x2), (0, s0)], [(0, dDay (w32 (x1 - 1))), (0, x2)], m, XX)) rfl (fun g1 => ?_)
  refine T_run hD 1 (c' := (61, [z0, (0, x1), (0, x2), (0, s0)], [(0, s0), (0, dDay (w32 (x1 - 1))), (0, x2)], m, XX)) rfl ?_
  refine T_if hD (c1 := (73, _, _, _, _)) (c2 := (64, _, _, _, _)) rfl (fun _ => ?_) (fun _ => ?_)
  · refine T_run hD 1 (c' := (74, [z0, (0, x1), (0, x2), (0, s0)], [(0, 0), (0, dDay (w32 (x1 - 1))), (0, x2)], m, XX)) rfl ?_
    exact tC_isDay_74 r m x2 (dDay (w32 (x1 - 1))) 0 z0 (0, x1) (0, x2) (0, s0)
  · refine T_run hD 2 (c' := (66, [z0, (0, x1), (0, x2), (0, s0)], [(0, 2), (0, x1), (0, dDay (w32 (x1 - 1))), (0, x2)], m, XX)) rfl ?_
    refine T_if hD (c1 := (69, _, _, _, _)) (c2 := (73, _, _, _, _)) rfl (fun _ => ?_) (fun _ => ?_)
    · refine T_run hD 2 (c' := (74, [z0, (0, x1), (0, x2), (0, s0)], [(0, 1), (0, dDay (w32 (x1 - 1))), (0, x2)], m, XX)) rfl ?_
      exact tC_isDay_74 r m x2 (dDay (w32 (x1 - 1))) 1 z0 (0, x1) (0, x2) (0, s0)
    · refine T_run hD 1 (c' := (74, [z0, (0, x1), (0, x2), (0, s0)], [(0, 0), (0, dDay (w32 (x1 - 1))), (0, x2)], m, XX)) rfl ?_
      exact tC_isDay_74 r m x2 (dDay (w32 (x1 - 1))) 0 z0 (0, x1) (0, x2) (0, s0)
def fC_isDay (x0 : Int) (x1 : Int) (x2 : Int) : Option Int :=
  if x0 < 1 then
    some (0)
  else
    if x1 < 1 then
      some (0)
    else
      if 12 < x1 then
        some (0)
      else
        if x2 < 1 then
          some (0)
        else
          if Int.tmod x0 4 = 0 then
            if Int.tmod x0 100 = 0 then
              if Int.tmod x0 400 = 0 then
                fC_isDay_51 x1 x2 1
              else
                fC_isDay_51 x1 x2 0
            else
              fC_isDay_51 x1 x2 1
          else
            fC_isDay_51 x1 x2 0
set_option maxRecDepth 100000 in
theorem tC_isDay (m : aM) (x0 : Int) (x1 : Int) (x2 : Int) : ∀ v, fC_isDay x0 x1 x2 = some v → Go PB 1 122 (aEnt d_C_isDay [(0, x0), (0, x1), (0, x2)] m XX) (1, (0, v), m, XX) := by
  intro v hv
  have hD : aMd PB 122 = d_C_isDay := rfl
  obtain ⟨r, hr⟩ : ∃ r : aR, r = (1, (0, v), m, XX) := ⟨_, rfl⟩
  have h9 : aT PB 1 122 r (fun w => r = (1, (0, w), m, XX)) (fC_isDay x0 x1 x2) (0, [(0, x0), (0, x1), (0, x2), (99, 0)], [], m, XX) := by
    unfold fC_isDay
    refine T_run hD 2 (c' := (2, [(0, x0), (0, x1), (0, x2), (99, 0)], [(0, 1), (0, x0)], m, XX)) rfl ?_
    refine T_if hD (c1 := (23, _, _, _, _)) (c2 := (5, _, _, _, _)) rfl (fun _ => ?_) (fun _ => ?_)
    · refine T_run hD 1 (c' := (24, [(0, x0), (0, x1), (0, x2), (99, 0)], [(0, 0)], m, XX)) rfl ?_
      exact T_fin hD rfl (fun h => h)
    · refine T_run hD 2 (c' := (7, [(0, x0), (0, x1), (0, x2), (99, 0)], [(0, 1), (0, x1)], m, XX)) rfl ?_
      refine T_if hD (c1 := (23, _, _, _, _)) (c2 := (10, _, _, _, _)) rfl (fun _ => ?_) (fun _ => ?_)
      · refine T_run hD 1 (c' := (24, [(0, x0), (0, x1), (0, x2), (99, 0)], [(0, 0)], m, XX)) rfl ?_
        exact T_fin hD rfl (fun h => h)
      · refine T_run hD 3 (c' := (15, [(0, x0), (0, x1), (0, x2), (99, 0)], [(0, 12), (0, x1)], m, XX)) rfl ?_
        refine T_if hD (c1 := (23, _, _, _, _)) (c2 := (18, _, _, _, _)) rfl (fun _ => ?_) (fun _ => ?_)
        · refine T_run hD 1 (c' := (24, [(0, x0), (0, x1), (0, x2), (99, 0)], [(0, 0)], m, XX)) rfl ?_
          exact T_fin hD rfl (fun h => h)
        · refine T_run hD 2 (c' := (20, [(0, x0), (0, x1), (0, x2), (99, 0)], [(0, 1), (0, x2)], m, XX)) rfl ?_
          refine T_if hD (c1 := (23, _, _, _, _)) (c2 := (25, _, _, _, _)) rfl (fun _ => ?_) (fun _ => ?_)
          · refine T_run hD 1 (c' := (24, [(0, x0), (0, x1), (0, x2), (99, 0)], [(0, 0)], m, XX)) rfl ?_
            exact T_fin hD rfl (fun h => h)
          · refine T_run hD 3 (c' := (28, [(0, x0), (0, x1), (0, x2), (99, 0)], [(0, Int.tmod x0 4)], m, XX)) rfl ?_
            refine T_if hD (c1 := (31, _, _, _, _)) (c2 := (50, _, _, _, _)) rfl (fun _ => ?_) (fun _ => ?_)
            · refine T_run hD 3 (c' := (35, [(0, x0), (0, x1), (0, x2), (99, 0)], [(0, Int.tmod x0 100)], m, XX)) rfl ?_
              refine T_if hD (c1 := (38, _, _, _, _)) (c2 := (46, _, _, _, _)) rfl (fun _ => ?_) (fun _ => ?_)
              · refine T_run hD 3 (c' := (43, [(0, x0), (0, x1), (0, x2), (99, 0)], [(0, Int.tmod x0 400)], m, XX)) rfl ?_
                refine T_if hD (c1 := (46, _, _, _, _)) (c2 := (50, _, _, _, _)) rfl (fun _ => ?_) (fun _ => ?_)
                · refine T_run hD 2 (c' := (51, [(0, x0), (0, x1), (0, x2), (99, 0)], [(0, 1)], m, XX)) rfl ?_
                  exact tC_isDay_51 r m x1 x2 1 (0, x0) (99, 0)
                · refine T_run hD 1 (c' := (51, [(0, x0), (0, x1), (0, x2), (99, 0)], [(0, 0)], m, XX)) rfl ?_
                  exact tC_isDay_51 r m x1 x2 0 (0, x0) (99, 0)
              · refine T_run hD 2 (c' := (51, [(0, x0), (0, x1), (0, x2), (99, 0)], [(0, 1)], m, XX)) rfl ?_
                exact tC_isDay_51 r m x1 x2 1 (0, x0) (99, 0)
            · refine T_run hD 1 (c' := (51, [(0, x0), (0, x1), (0, x2), (99, 0)], [(0, 0)], m, XX)) rfl ?_
              exact tC_isDay_51 r m x1 x2 0 (0, x0) (99, 0)
  rw [← hr]
  exact h9 v hv hr
abbrev hC_isDate_12 (m : aM) (x0 : Int) (x1 : Int) (x2 : Int) : (Int) → aC → Prop := fun y c => ∃ (z4 : aV), c = (12, [(11, x0), (0, x1), (0, x2), (0, (y)), z4], [], m, XX)
def fC_isDate_59 (m : aM) (x0 : Int) (x1 : Int) (x2 : Int) (x3 : Int) (s0 : Int) : Option ((Int) ⊕ Int) :=
  if s0 = 0 then
    some (Sum.inr (0))
  else
    some (Sum.inl (w32 (x3 + 1)))
set_option maxRecDepth 100000 in
theorem tC_isDate_59 (r : aR) (m : aM) (x0 : Int) (x1 : Int) (x2 : Int) (x3 : Int) (s0 : Int) (hx0 : ck x0) (z4 : aV) : aT PB 3 121 r (aTurn PB 3 121 r (hC_isDate_12 m x0 x1 x2) (fun w => r = (1, (0, w), m, XX))) (fC_isDate_59 m x0 x1 x2 x3 s0) (59, [(11, x0), (0, x1), (0, x2), (0, x3), z4], [(0, s0)], m, XX) := by
  have hD : aMd PB 121 = d_C_isDate := rfl
  unfold fC_isDate_59
  refine T_run hD 2 (c' := (63, [(11, x0), (0, x1), (0, x2), (0, x3), (0, s0)], [(0, s0)], m, XX)) rfl ?_
  refine T_if hD (c1 := (66, _, _, _, _)) (c2 := (68, _, _, _, _)) rfl (fun _ => ?_) (fun _ => ?_)
  · refine T_run hD 1 (c' := (67, [(11, x0), (0, x1), (0, x2), (0, x3), (0, s0)], [(0, 0)], m, XX)) rfl ?_
    exact T_fin hD rfl (fun h => h)
  · refine T_run hD 2 (c' := (12, [(11, x0), (0, x1), (0, x2), (0, w32 (x3 + 1)), (0, s0)], [], m, XX)) rfl ?_
    exact T_back0 ⟨_, rfl⟩
def fC_isDate_29 (m : aM) (x0 : Int) (x1 : Int) (x2 : Int) (x3 : Int) : Option ((Int) ⊕ Int) :=
  (fC_at m x0 (w32 (x1 + x3))).bind fun v1 =>
  if v1 = 45 then
    fC_isDate_59 m x0 x1 x2 x3 1
  else
    fC_isDate_59 m x0 x1 x2 x3 0
set_option maxRecDepth 100000 in
theorem tC_isDate_29 (r : aR) (m : aM) (x0 : Int) (x1 : Int) (x2 : Int) (x3 : Int) (hx0 : ck x0) (z4 : aV) : aT PB 3 121 r (aTurn PB 3 121 r (hC_isDate_12 m x0 x1 x2) (fun w => r = (1, (0, w), m, XX))) (fC_isDate_29 m x0 x1 x2 x3) (29, [(11, x0), (0, x1), (0, x2), (0, x3), z4], [], m, XX) := by
  have hD : aMd PB 121 = d_C_isDate := rfl
  unfold fC_isDate_29
  refine T_run hD 4 (c' := (33, [(11, x0), (0, x1), (0, x2), (0, x3), z4], [(0, w32 (x1 + x3)), (11, x0)], m, XX)) rfl ?_
  refine T_call hD (D2 := d_C_at) (q2 := 107) (as := [(11, x0), (0, w32 (x1 + x3))]) (c1 := (36, [(11, x0), (0, x1), (0, x2), (0, x3), z4], [], m, XX)) (mk := fun w => (1, (0, w), m, XX)) (cc := fun v1 => (36, [(11, x0), (0, x1), (0, x2), (0, x3), z4], [(0, v1)], m, XX)) rfl rfl (fun y9 h9y => Go.mono (tC_at m x0 (w32 (x1 + x3)) hx0 y9 h9y) (by decide)) (fun _ => rfl) (fun v1 => ?_)
  refine T_run hD 1 (c' := (38, [(11, x0), (0, x1), (0, x2), (0, x3), z4], [(0, 45), (0, v1)], m, XX)) rfl ?_
  refine T_if hD (c1 := (41, _, _, _, _)) (c2 := (45, _, _, _, _)) rfl (fun _ => ?_) (fun _ => ?_)
  · refine T_run hD 2 (c' := (59, [(11, x0), (0, x1), (0, x2), (0, x3), z4], [(0, 1)], m, XX)) rfl ?_
    exact tC_isDate_59 r m x0 x1 x2 x3 1 hx0 z4
  · refine T_run hD 2 (c' := (59, [(11, x0), (0, x1), (0, x2), (0, x3), z4], [(0, 0)], m, XX)) rfl ?_
    exact tC_isDate_59 r m x0 x1 x2 x3 0 hx0 z4
def fC_isDate_12_b (m : aM) (x0 : Int) (x1 : Int) (x2 : Int) : (Int) → Option ((Int) ⊕ Int) := fun (x3) =>
  if x3 < 10 then
    if x3 = 4 then
      fC_isDate_29 m x0 x1 x2 x3
    else
      if x3 = 7 then
        fC_isDate_29 m x0 x1 x2 x3
      else
        (fC_at m x0 (w32 (x1 + x3))).bind fun v2 =>
        fC_isDate_59 m x0 x1 x2 x3 (fX_isDigit v2)
  else
    (fC_digitsOf m x0 x1 (w32 (x1 + 4))).bind fun v3 =>
    (fC_digitsOf m x0 (w32 (x1 + 5)) (w32 (x1 + 7))).bind fun v4 =>
    (fC_digitsOf m x0 (w32 (x1 + 8)) x2).bind fun v5 =>
    (fC_isDay (w32 v3) (w32 v4) (w32 v5)).bind fun v6 =>
    gd (v6 = 0 ∨ v6 = 1) (some (Sum.inr (v6)))
def fC_isDate_12 (m : aM) (x0 : Int) (x1 : Int) (x2 : Int) (x3 : Int) : Option Int := aLoop (fC_isDate_12_b m x0 x1 x2) FU (x3)
set_option maxRecDepth 100000 in
theorem tC_isDate_12 (r : aR) (m : aM) (x0 : Int) (x1 : Int) (x2 : Int) (x3 : Int) (hx0 : ck x0) (z4 : aV) : aT PB 3 121 r (fun w => r = (1, (0, w), m, XX)) (fC_isDate_12 m x0 x1 x2 x3) (12, [(11, x0), (0, x1), (0, x2), (0, x3), z4], [], m, XX) := by
  have hD : aMd PB 121 = d_C_isDate := rfl
  refine T_loop (Hd := (hC_isDate_12 m x0 x1 x2)) ?_ FU _ _ ⟨z4, rfl⟩
  clear x3 z4
  intro x3 c hc
  obtain ⟨z4, rfl⟩ := hc
  unfold fC_isDate_12_b
  try dsimp only
  refine T_run hD 2 (c' := (15, [(11, x0), (0, x1), (0, x2), (0, x3), z4], [(0, 10), (0, x3)], m, XX)) rfl ?_
  refine T_if hD (c1 := (18, _, _, _, _)) (c2 := (74, _, _, _, _)) rfl (fun _ => ?_) (fun _ => ?_)
  · refine T_run hD 2 (c' := (20, [(11, x0), (0, x1), (0, x2), (0, x3), z4], [(0, 4), (0, x3)], m, XX)) rfl ?_
    refine T_if hD (c1 := (29, _, _, _, _)) (c2 := (23, _, _, _, _)) rfl (fun _ => ?_) (fun _ => ?_)
    · exact tC_isDate_29 r m x0 x1 x2 x3 hx0 z4
    · refine T_run hD 2 (c' := (26, [(11, x0), (0, x1), (0, x2), (0, x3), z4], [(0, 7), (0, x3)], m, XX)) rfl ?_
      refine T_if hD (c1 := (29, _, _, _, _)) (c2 := (49, _, _, _, _)) rfl (fun _ => ?_) (fun _ => ?_)
      · exact tC_isDate_29 r m x0 x1 x2 x3 hx0 z4
      · refine T_run hD 4 (c' := (53, [(11, x0), (0, x1), (0, x2), (0, x3), z4], [(0, w32 (x1 + x3)), (11, x0)], m, XX)) rfl ?_
        refine T_call hD (D2 := d_C_at) (q2 := 107) (as := [(11, x0), (0, w32 (x1 + x3))]) (c1 := (56, [(11, x0), (0, x1), (0, x2), (0, x3), z4], [], m, XX)) (mk := fun w => (1, (0, w), m, XX)) (cc := fun v2 => (56, [(11, x0), (0, x1), (0, x2), (0, x3), z4], [(0, v2)], m, XX)) rfl rfl (fun y9 h9y => Go.mono (tC_at m x0 (w32 (x1 + x3)) hx0 y9 h9y) (by decide)) (fun _ => rfl) (fun v2 => ?_)
        refine T_call0 hD (D2 := d_X_isDigit) (q2 := 18) (as := [(0, v2)]) (c1 := (59, [(11, x0), (0, x1), (0, x2), (0, x3), z4], [], m, XX)) (r2 := (1, (0, fX_isDigit v2), m, XX)) (c2 := (59, [(11, x0), (0, x1), (0, x2), (0, x3), z4], [(0, fX_isDigit v2)], m, XX)) rfl rfl (Go.mono (tX_isDigit m v2) (by decide)) rfl ?_
        exact tC_isDate_59 r m x0 x1 x2 x3 (fX_isDigit v2) hx0 z4
  · refine T_run hD 5 (c' := (79, [(11, x0), (0, x1), (0, x2), (0, x3), z4], [(0, w32 (x1 + 4)), (0, x1), (11, x0)], m, XX)) rfl ?_
    refine T_call hD (D2 := d_C_digitsOf) (q2 := 119) (as := [(11, x0), (0, x1), (0, w32 (x1 + 4))]) (c1 := (82, [(11, x0), (0, x1), (0, x2), (0, x3), z4], [], m, XX)) (mk := fun w => (1, (1, w), m, XX)) (cc := fun v3 => (82, [(11, x0), (0, x1), (0, x2), (0, x3), z4], [(1, v3)], m, XX)) rfl rfl (fun y9 h9y => Go.mono (tC_digitsOf m x0 x1 (w32 (x1 + 4)) hx0 y9 h9y) (by decide)) (fun _ => rfl) (fun v3 => ?_)
    refine T_run hD 8 (c' := (91, [(11, x0), (0, x1), (0, x2), (0, x3), z4], [(0, w32 (x1 + 7)), (0, w32 (x1 + 5)), (11, x0), (0, w32 v3)], m, XX)) rfl ?_
    refine T_call hD (D2 := d_C_digitsOf) (q2 := 119) (as := [(11, x0), (0, w32 (x1 + 5)), (0, w32 (x1 + 7))]) (c1 := (94, [(11, x0), (0, x1), (0, x2), (0, x3), z4], [(0, w32 v3)], m, XX)) (mk := fun w => (1, (1, w), m, XX)) (cc := fun v4 => (94, [(11, x0), (0, x1), (0, x2), (0, x3), z4], [(1, v4), (0, w32 v3)], m, XX)) rfl rfl (fun y9 h9y => Go.mono (tC_digitsOf m x0 (w32 (x1 + 5)) (w32 (x1 + 7)) hx0 y9 h9y) (by decide)) (fun _ => rfl) (fun v4 => ?_)
    refine T_run hD 6 (c' := (101, [(11, x0), (0, x1), (0, x2), (0, x3), z4], [(0, x2), (0, w32 (x1 + 8)), (11, x0), (0, w32 v4), (0, w32 v3)], m, XX)) rfl ?_
    refine T_call hD (D2 := d_C_digitsOf) (q2 := 119) (as := [(11, x0), (0, w32 (x1 + 8)), (0, x2)]) (c1 := (104, [(11, x0), (0, x1), (0, x2), (0, x3), z4], [(0, w32 v4), (0, w32 v3)], m, XX)) (mk := fun w => (1, (1, w), m, XX)) (cc := fun v5 => (104, [(11, x0), (0, x1), (0, x2), (0, x3), z4], [(1, v5), (0, w32 v4), (0, w32 v3)], m, XX)) rfl rfl (fun y9 h9y => Go.mono (tC_digitsOf m x0 (w32 (x1 + 8)) x2 hx0 y9 h9y) (by decide)) (fun _ => rfl) (fun v5 => ?_)
    refine T_run hD 1 (c' := (105, [(11, x0), (0, x1), (0, x2), (0, x3), z4], [(0, w32 v5), (0, w32 v4), (0, w32 v3)], m, XX)) rfl ?_
    refine T_call hD (D2 := d_C_isDay) (q2 := 122) (as := [(0, w32 v3), (0, w32 v4), (0, w32 v5)]) (c1 := (108, [(11, x0), (0, x1), (0, x2), (0, x3), z4], [], m, XX)) (mk := fun w => (1, (0, w), m, XX)) (cc := fun v6 => (108, [(11, x0), (0, x1), (0, x2), (0, x3), z4], [(0, v6)], m, XX)) rfl rfl (fun y9 h9y => Go.mono (tC_isDay m (w32 v3) (w32 v4) (w32 v5) y9 h9y) (by decide)) (fun _ => rfl) (fun v6 => ?_)
    exact T_gfin hD (fun h => if_pos (decide_eq_true h)) (fun h => h)
def fC_isDate (m : aM) (x0 : Int) (x1 : Int) (x2 : Int) : Option Int :=
  if w32 (x2 - x1) = 10 then
    fC_isDate_12 m x0 x1 x2 0
  else
    some (0)
set_option maxRecDepth 100000 in
theorem tC_isDate (m : aM) (x0 : Int) (x1 : Int) (x2 : Int) (hx0 : ck x0) : ∀ v, fC_isDate m x0 x1 x2 = some v → Go PB 3 121 (aEnt d_C_isDate [(11, x0), (0, x1), (0, x2)] m XX) (1, (0, v), m, XX) := by
  intro v hv
  have hD : aMd PB 121 = d_C_isDate := rfl
  obtain ⟨r, hr⟩ : ∃ r : aR, r = (1, (0, v), m, XX) := ⟨_, rfl⟩
  have h9 : aT PB 3 121 r (fun w => r = (1, (0, w), m, XX)) (fC_isDate m x0 x1 x2) (0, [(11, x0), (0, x1), (0, x2), (99, 0), (99, 0)], [], m, XX) := by
    unfold fC_isDate
    refine T_run hD 4 (c' := (5, [(11, x0), (0, x1), (0, x2), (99, 0), (99, 0)], [(0, 10), (0, w32 (x2 - x1))], m, XX)) rfl ?_
    refine T_if hD (c1 := (10, _, _, _, _)) (c2 := (8, _, _, _, _)) rfl (fun _ => ?_) (fun _ => ?_)
    · refine T_run hD 2 (c' := (12, [(11, x0), (0, x1), (0, x2), (0, 0), (99, 0)], [], m, XX)) rfl ?_
      exact tC_isDate_12 r m x0 x1 x2 0 hx0 (99, 0)
    · refine T_run hD 1 (c' := (9, [(11, x0), (0, x1), (0, x2), (99, 0), (99, 0)], [(0, 0)], m, XX)) rfl ?_
      exact T_fin hD rfl (fun h => h)
  rw [← hr]
  exact h9 v hv hr
def fC_shapeOf (m : aM) (x0 : Int) (x1 : Int) (x2 : Int) : Option Int :=
  (fC_isWhole m x0 x1 x2).bind fun v1 =>
  if v1 = 0 then
    (fC_isDate m x0 x1 x2).bind fun v2 =>
    if v2 = 0 then
      some (3)
    else
      some (2)
  else
    (fC_digitsOf m x0 x1 x2).bind fun v3 =>
    if cmp3 v3 (w32 v3) = 0 then
      some (0)
    else
      some (1)
set_option maxRecDepth 100000 in
theorem tC_shapeOf (m : aM) (x0 : Int) (x1 : Int) (x2 : Int) (hx0 : ck x0) : ∀ v, fC_shapeOf m x0 x1 x2 = some v → Go PB 6 118 (aEnt d_C_shapeOf [(11, x0), (0, x1), (0, x2)] m XX) (1, (0, v), m, XX) := by
  intro v hv
  have hD : aMd PB 118 = d_C_shapeOf := rfl
  obtain ⟨r, hr⟩ : ∃ r : aR, r = (1, (0, v), m, XX) := ⟨_, rfl⟩
  have h9 : aT PB 6 118 r (fun w => r = (1, (0, w), m, XX)) (fC_shapeOf m x0 x1 x2) (0, [(11, x0), (0, x1), (0, x2), (99, 0), (99, 0)], [], m, XX) := by
    unfold fC_shapeOf
    refine T_run hD 3 (c' := (3, [(11, x0), (0, x1), (0, x2), (99, 0), (99, 0)], [(0, x2), (0, x1), (11, x0)], m, XX)) rfl ?_
    refine T_call hD (D2 := d_C_isWhole) (q2 := 120) (as := [(11, x0), (0, x1), (0, x2)]) (c1 := (6, [(11, x0), (0, x1), (0, x2), (99, 0), (99, 0)], [], m, XX)) (mk := fun w => (1, (0, w), m, XX)) (cc := fun v1 => (6, [(11, x0), (0, x1), (0, x2), (99, 0), (99, 0)], [(0, v1)], m, XX)) rfl rfl (fun y9 h9y => Go.mono (tC_isWhole m x0 x1 x2 hx0 y9 h9y) (by decide)) (fun _ => rfl) (fun v1 => ?_)
    refine T_if hD (c1 := (30, _, _, _, _)) (c2 := (9, _, _, _, _)) rfl (fun _ => ?_) (fun _ => ?_)
    · refine T_run hD 3 (c' := (33, [(11, x0), (0, x1), (0, x2), (99, 0), (99, 0)], [(0, x2), (0, x1), (11, x0)], m, XX)) rfl ?_
      refine T_call hD (D2 := d_C_isDate) (q2 := 121) (as := [(11, x0), (0, x1), (0, x2)]) (c1 := (36, [(11, x0), (0, x1), (0, x2), (99, 0), (99, 0)], [], m, XX)) (mk := fun w => (1, (0, w), m, XX)) (cc := fun v2 => (36, [(11, x0), (0, x1), (0, x2), (99, 0), (99, 0)], [(0, v2)], m, XX)) rfl rfl (fun y9 h9y => Go.mono (tC_isDate m x0 x1 x2 hx0 y9 h9y) (by decide)) (fun _ => rfl) (fun v2 => ?_)
      refine T_if hD (c1 := (43, _, _, _, _)) (c2 := (39, _, _, _, _)) rfl (fun _ => ?_) (fun _ => ?_)
      · refine T_run hD 1 (c' := (44, [(11, x0), (0, x1), (0, x2), (99, 0), (99, 0)], [(0, 3)], m, XX)) rfl ?_
        exact T_fin hD rfl (fun h => h)
      · refine T_run hD 2 (c' := (44, [(11, x0), (0, x1), (0, x2), (99, 0), (99, 0)], [(0, 2)], m, XX)) rfl ?_
        exact T_fin hD rfl (fun h => h)
    · refine T_run hD 3 (c' := (12, [(11, x0), (0, x1), (0, x2), (99, 0), (99, 0)], [(0, x2), (0, x1), (11, x0)], m, XX)) rfl ?_
      refine T_call hD (D2 := d_C_digitsOf) (q2 := 119) (as := [(11, x0), (0, x1), (0, x2)]) (c1 := (15, [(11, x0), (0, x1), (0, x2), (99, 0), (99, 0)], [], m, XX)) (mk := fun w => (1, (1, w), m, XX)) (cc := fun v3 => (15, [(11, x0), (0, x1), (0, x2), (99, 0), (99, 0)], [(1, v3)], m, XX)) rfl rfl (fun y9 h9y => Go.mono (tC_digitsOf m x0 x1 x2 hx0 y9 h9y) (by decide)) (fun _ => rfl) (fun v3 => ?_)
      refine T_run hD 6 (c' := (21, [(11, x0), (0, x1), (0, x2), (1, v3), (99, 0)], [(0, cmp3 v3 (w32 v3))], m, XX)) rfl ?_
      refine T_if hD (c1 := (24, _, _, _, _)) (c2 := (28, _, _, _, _)) rfl (fun _ => ?_) (fun _ => ?_)
      · refine T_run hD 2 (c' := (29, [(11, x0), (0, x1), (0, x2), (1, v3), (99, 0)], [(0, 0)], m, XX)) rfl ?_
        exact T_fin hD rfl (fun h => h)
      · refine T_run hD 1 (c' := (29, [(11, x0), (0, x1), (0, x2), (1, v3), (99, 0)], [(0, 1)], m, XX)) rfl ?_
        exact T_fin hD rfl (fun h => h)
  rw [← hr]
  exact h9 v hv hr
def fT_cellAt_29 (m : aM) (x1 : Int) (x2 : Int) (s0 : Int) : Int :=
  if s0 = 0 then
    (-1)
  else
    w32 ((w32 ((w32 (x1 + 1)) * (m 12 8))) + x2)
set_option maxRecDepth 100000 in
theorem tT_cellAt_29 (m : aM) (x1 : Int) (x2 : Int) (s0 : Int) (z3 : aV) : aU PB 1 167 (fun w => (1, (0, w), m, XX)) (fT_cellAt_29 m x1 x2 s0) (29, [(14, 12), (0, x1), (0, x2), z3], [(0, s0)], m, XX) := by
  have hD : aMd PB 167 = d_T_cellAt := rfl
  unfold fT_cellAt_29
  refine U_run hD 2 (c' := (31, [(14, 12), (0, x1), (0, x2), (0, s0)], [(0, s0)], m, XX)) rfl ?_
  refine U_if hD (c1 := (47, _, _, _, _)) (c2 := (34, _, _, _, _)) rfl (fun _ => ?_) (fun _ => ?_)
  · refine U_run hD 1 (c' := (48, [(14, 12), (0, x1), (0, x2), (0, s0)], [(0, (-1))], m, XX)) rfl ?_
    exact Go.fin hD rfl
  · refine U_run hD 9 (c' := (48, [(14, 12), (0, x1), (0, x2), (0, s0)], [(0, w32 ((w32 ((w32 (x1 + 1)) * (m 12 8))) + x2))], m, XX)) rfl ?_
    exact Go.fin hD rfl
def fT_cellAt (m : aM) (x1 : Int) (x2 : Int) : Int :=
  if x1 < 0 then
    fT_cellAt_29 m x1 x2 0
  else
    if x1 < m 12 7 then
      if x2 < 0 then
        fT_cellAt_29 m x1 x2 0
      else
        if x2 < m 12 8 then
          fT_cellAt_29 m x1 x2 1
        else
          fT_cellAt_29 m x1 x2 0
    else
      fT_cellAt_29 m x1 x2 0
set_option maxRecDepth 100000 in
theorem tT_cellAt (m : aM) (x1 : Int) (x2 : Int) : Go PB 1 167 (aEnt d_T_cellAt [(14, 12), (0, x1), (0, x2)] m XX) (1, (0, (fT_cellAt m x1 x2)), m, XX) := by
  have hD : aMd PB 167 = d_T_cellAt := rfl
  show aU PB 1 167 (fun w => (1, (0, w), m, XX)) (fT_cellAt m x1 x2) (0, [(14, 12), (0, x1), (0, x2), (99, 0)], [], m, XX)
  unfold fT_cellAt
  refine U_run hD 1 (c' := (1, [(14, 12), (0, x1), (0, x2), (99, 0)], [(0, x1)], m, XX)) rfl ?_
  refine U_if hD (c1 := (28, _, _, _, _)) (c2 := (4, _, _, _, _)) rfl (fun _ => ?_) (fun _ => ?_)
  · refine U_run hD 1 (c' := (29, [(14, 12), (0, x1), (0, x2), (99, 0)], [(0, 0)], m, XX)) rfl ?_
    exact tT_cellAt_29 m x1 x2 0 (99, 0)
  · refine U_run hD 3 (c' := (9, [(14, 12), (0, x1), (0, x2), (99, 0)], [(0, m 12 7), (0, x1)], m, XX)) rfl ?_
    refine U_if hD (c1 := (12, _, _, _, _)) (c2 := (28, _, _, _, _)) rfl (fun _ => ?_) (fun _ => ?_)
    · refine U_run hD 1 (c' := (13, [(14, 12), (0, x1), (0, x2), (99, 0)], [(0, x2)], m, XX)) rfl ?_
      refine U_if hD (c1 := (28, _, _, _, _)) (c2 := (16, _, _, _, _)) rfl (fun _ => ?_) (fun _ => ?_)
      · refine U_run hD 1 (c' := (29, [(14, 12), (0, x1), (0, x2), (99, 0)], [(0, 0)], m, XX)) rfl ?_
        exact tT_cellAt_29 m x1 x2 0 (99, 0)
      · refine U_run hD 3 (c' := (21, [(14, 12), (0, x1), (0, x2), (99, 0)], [(0, m 12 8), (0, x2)], m, XX)) rfl ?_
        refine U_if hD (c1 := (24, _, _, _, _)) (c2 := (28, _, _, _, _)) rfl (fun _ => ?_) (fun _ => ?_)
        · refine U_run hD 2 (c' := (29, [(14, 12), (0, x1), (0, x2), (99, 0)], [(0, 1)], m, XX)) rfl ?_
          exact tT_cellAt_29 m x1 x2 1 (99, 0)
        · refine U_run hD 1 (c' := (29, [(14, 12), (0, x1), (0, x2), (99, 0)], [(0, 0)], m, XX)) rfl ?_
          exact tT_cellAt_29 m x1 x2 0 (99, 0)
    · refine U_run hD 1 (c' := (29, [(14, 12), (0, x1), (0, x2), (99, 0)], [(0, 0)], m, XX)) rfl ?_
      exact tT_cellAt_29 m x1 x2 0 (99, 0)
def fT_isGone (m : aM) (x1 : Int) : Option Int :=
  gd (0 ≤ x1 ∧ x1 < 102) (
  if m 17 x1 = 0 then
    if m 15 x1 = m 16 x1 then
      some (1)
    else
      some (0)
  else
    some (0))
set_option maxRecDepth 100000 in
theorem tT_isGone (m : aM) (x1 : Int) : ∀ v, fT_isGone m x1 = some v → Go PB 1 168 (aEnt d_T_isGone [(14, 12), (0, x1)] m XX) (1, (0, v), m, XX) := by
  intro v hv
  have hD : aMd PB 168 = d_T_isGone := rfl
  obtain ⟨r, hr⟩ : ∃ r : aR, r = (1, (0, v), m, XX) := ⟨_, rfl⟩
  have h9 : aT PB 1 168 r (fun w => r = (1, (0, w), m, XX)) (fT_isGone m x1) (0, [(14, 12), (0, x1)], [], m, XX) := by
    unfold fT_isGone
    refine T_run hD 3 (c' := (5, [(14, 12), (0, x1)], [(0, x1), (33, 17)], m, XX)) rfl ?_
    refine T_gd hD (c1 := (6, [(14, 12), (0, x1)], [(0, m 17 x1)], m, XX)) rfl (fun g1 => ?_)
    refine T_if hD (c1 := (9, _, _, _, _)) (c2 := (28, _, _, _, _)) rfl (fun _ => ?_) (fun _ => ?_)
    · refine T_run hD 3 (c' := (14, [(14, 12), (0, x1)], [(0, x1), (31, 15)], m, XX)) rfl ?_
      refine T_gk hD (c1 := (15, [(14, 12), (0, x1)], [(0, m 15 x1)], m, XX)) (P := 0 ≤ x1 ∧ x1 < 102) rfl g1 ?_
      refine T_run hD 3 (c' := (20, [(14, 12), (0, x1)], [(0, x1), (31, 16), (0, m 15 x1)], m, XX)) rfl ?_
      refine T_gk hD (c1 := (21, [(14, 12), (0, x1)], [(0, m 16 x1), (0, m 15 x1)], m, XX)) (P := 0 ≤ x1 ∧ x1 < 102) rfl g1 ?_
      refine T_if hD (c1 := (24, _, _, _, _)) (c2 := (28, _, _, _, _)) rfl (fun _ => ?_) (fun _ => ?_)
      · refine T_run hD 2 (c' := (29, [(14, 12), (0, x1)], [(0, 1)], m, XX)) rfl ?_
        exact T_fin hD rfl (fun h => h)
      · refine T_run hD 1 (c' := (29, [(14, 12), (0, x1)], [(0, 0)], m, XX)) rfl ?_
        exact T_fin hD rfl (fun h => h)
    · refine T_run hD 1 (c' := (29, [(14, 12), (0, x1)], [(0, 0)], m, XX)) rfl ?_
      exact T_fin hD rfl (fun h => h)
  rw [← hr]
  exact h9 v hv hr
def fT_fits (m : aM) (x1 : Int) (x2 : Int) : Option Int :=
  gd (0 ≤ x1 ∧ x1 < 102) (
  if m 17 x1 = 0 then
    if m 18 x1 = x2 then
      some (1)
    else
      if m 18 x1 = 0 then
        if x2 = 1 then
          some (1)
        else
          some (0)
      else
        some (0)
  else
    some (0))
set_option maxRecDepth 100000 in
theorem tT_fits (m : aM) (x1 : Int) (x2 : Int) : ∀ v, fT_fits m x1 x2 = some v → Go PB 1 173 (aEnt d_T_fits [(14, 12), (0, x1), (0, x2)] m XX) (1, (0, v), m, XX) := by
  intro v hv
  have hD : aMd PB 173 = d_T_fits := rfl
  obtain ⟨r, hr⟩ : ∃ r : aR, r = (1, (0, v), m, XX) := ⟨_, rfl⟩
  have h9 : aT PB 1 173 r (fun w => r = (1, (0, w), m, XX)) (fT_fits m x1 x2) (0, [(14, 12), (0, x1), (0, x2)], [], m, XX) := by
    unfold fT_fits
    refine T_run hD 3 (c' := (5, [(14, 12), (0, x1), (0, x2)], [(0, x1), (33, 17)], m, XX)) rfl ?_
    refine T_gd hD (c1 := (6, [(14, 12), (0, x1), (0, x2)], [(0, m 17 x1)], m, XX)) rfl (fun g1 => ?_)
    refine T_if hD (c1 := (9, _, _, _, _)) (c2 := (37, _, _, _, _)) rfl (fun _ => ?_) (fun _ => ?_)
    · refine T_run hD 3 (c' := (14, [(14, 12), (0, x1), (0, x2)], [(0, x1), (31, 18)], m, XX)) rfl ?_
      refine T_gk hD (c1 := (15, [(14, 12), (0, x1), (0, x2)], [(0, m 18 x1)], m, XX)) (P := 0 ≤ x1 ∧ x1 < 102) rfl g1 ?_
      refine T_run hD 1 (c' := (16, [(14, 12), (0, x1), (0, x2)], [(0, x2), (0, m 18 x1)], m, XX)) rfl ?_
      refine T_if hD (c1 := (33, _, _, _, _)) (c2 := (19, _, _, _, _)) rfl (fun _ => ?_) (fun _ => ?_)
      · refine T_run hD 2 (c' := (38, [(14, 12), (0, x1), (0, x2)], [(0, 1)], m, XX)) rfl ?_
        exact T_fin hD rfl (fun h => h)
      · refine T_run hD 3 (c' := (24, [(14, 12), (0, x1), (0, x2)], [(0, x1), (31, 18)], m, XX)) rfl ?_
        refine T_gk hD (c1 := (25, [(14, 12), (0, x1), (0, x2)], [(0, m 18 x1)], m, XX)) (P := 0 ≤ x1 ∧ x1 < 102) rfl g1 ?_
        refine T_if hD (c1 := (28, _, _, _, _)) (c2 := (37, _, _, _, _)) rfl (fun _ => ?_) (fun _ => ?_)
        · refine T_run hD 2 (c' := (30, [(14, 12), (0, x1), (0, x2)], [(0, 1), (0, x2)], m, XX)) rfl ?_
          refine T_if hD (c1 := (33, _, _, _, _)) (c2 := (37, _, _, _, _)) rfl (fun _ => ?_) (fun _ => ?_)
          · refine T_run hD 2 (c' := (38, [(14, 12), (0, x1), (0, x2)], [(0, 1)], m, XX)) rfl ?_
            exact T_fin hD rfl (fun h => h)
          · refine T_run hD 1 (c' := (38, [(14, 12), (0, x1), (0, x2)], [(0, 0)], m, XX)) rfl ?_
            exact T_fin hD rfl (fun h => h)
        · refine T_run hD 1 (c' := (38, [(14, 12), (0, x1), (0, x2)], [(0, 0)], m, XX)) rfl ?_
          exact T_fin hD rfl (fun h => h)
    · refine T_run hD 1 (c' := (38, [(14, 12), (0, x1), (0, x2)], [(0, 0)], m, XX)) rfl ?_
      exact T_fin hD rfl (fun h => h)
  rw [← hr]
  exact h9 v hv hr
abbrev hT_allFit_2 (m : aM) (x1 : Int) (x2 : Int) : (Int) → aC → Prop := fun y c => ∃ (z4 : aV), c = (2, [(14, 12), (0, x1), (0, x2), (0, (y)), z4], [], m, XX)
def fT_allFit_2_b (m : aM) (x1 : Int) (x2 : Int) : (Int) → Option ((Int) ⊕ Int) := fun (x3) =>
  if x3 < m 12 7 then
    if fT_cellAt m x3 x1 = (-1) then
      some (Sum.inl (w32 (x3 + 1)))
    else
      (fT_isGone m (fT_cellAt m x3 x1)).bind fun v1 =>
      if v1 = 0 then
        (fT_fits m (fT_cellAt m x3 x1) x2).bind fun v2 =>
        if v2 = 0 then
          some (Sum.inr (0))
        else
          some (Sum.inl (w32 (x3 + 1)))
      else
        some (Sum.inl (w32 (x3 + 1)))
  else
    some (Sum.inr (1))
def fT_allFit_2 (m : aM) (x1 : Int) (x2 : Int) (x3 : Int) : Option Int := aLoop (fT_allFit_2_b m x1 x2) FU (x3)
set_option maxRecDepth 100000 in
theorem tT_allFit_2 (r : aR) (m : aM) (x1 : Int) (x2 : Int) (x3 : Int) (z4 : aV) : aT PB 2 172 r (fun w => r = (1, (0, w), m, XX)) (fT_allFit_2 m x1 x2 x3) (2, [(14, 12), (0, x1), (0, x2), (0, x3), z4], [], m, XX) := by
  have hD : aMd PB 172 = d_T_allFit := rfl
  refine T_loop (Hd := (hT_allFit_2 m x1 x2)) ?_ FU _ _ ⟨z4, rfl⟩
  clear x3 z4
  intro x3 c hc
  obtain ⟨z4, rfl⟩ := hc
  unfold fT_allFit_2_b
  try dsimp only
  refine T_run hD 3 (c' := (7, [(14, 12), (0, x1), (0, x2), (0, x3), z4], [(0, m 12 7), (0, x3)], m, XX)) rfl ?_
  refine T_if hD (c1 := (10, _, _, _, _)) (c2 := (51, _, _, _, _)) rfl (fun _ => ?_) (fun _ => ?_)
  · refine T_run hD 3 (c' := (13, [(14, 12), (0, x1), (0, x2), (0, x3), z4], [(0, x1), (0, x3), (14, 12)], m, XX)) rfl ?_
    refine T_call0 hD (D2 := d_T_cellAt) (q2 := 167) (as := [(14, 12), (0, x3), (0, x1)]) (c1 := (16, [(14, 12), (0, x1), (0, x2), (0, x3), z4], [], m, XX)) (r2 := (1, (0, fT_cellAt m x3 x1), m, XX)) (c2 := (16, [(14, 12), (0, x1), (0, x2), (0, x3), z4], [(0, fT_cellAt m x3 x1)], m, XX)) rfl rfl (Go.mono (tT_cellAt m x3 x1) (by decide)) rfl ?_
    refine T_run hD 3 (c' := (21, [(14, 12), (0, x1), (0, x2), (0, x3), (0, fT_cellAt m x3 x1)], [(0, (-1)), (0, fT_cellAt m x3 x1)], m, XX)) rfl ?_
    refine T_if hD (c1 := (45, _, _, _, _)) (c2 := (24, _, _, _, _)) rfl (fun _ => ?_) (fun _ => ?_)
    · refine T_run hD 2 (c' := (2, [(14, 12), (0, x1), (0, x2), (0, w32 (x3 + 1)), (0, fT_cellAt m x3 x1)], [], m, XX)) rfl ?_
      exact T_back0 ⟨_, rfl⟩
    · refine T_run hD 2 (c' := (27, [(14, 12), (0, x1), (0, x2), (0, x3), (0, fT_cellAt m x3 x1)], [(0, fT_cellAt m x3 x1), (14, 12)], m, XX)) rfl ?_
      refine T_call hD (D2 := d_T_isGone) (q2 := 168) (as := [(14, 12), (0, fT_cellAt m x3 x1)]) (c1 := (30, [(14, 12), (0, x1), (0, x2), (0, x3), (0, fT_cellAt m x3 x1)], [], m, XX)) (mk := fun w => (1, (0, w), m, XX)) (cc := fun v1 => (30, [(14, 12), (0, x1), (0, x2), (0, x3), (0, fT_cellAt m x3 x1)], [(0, v1)], m, XX)) rfl rfl (fun y9 h9y => Go.mono (tT_isGone m (fT_cellAt m x3 x1) y9 h9y) (by decide)) (fun _ => rfl) (fun v1 => ?_)
      refine T_if hD (c1 := (33, _, _, _, _)) (c2 := (45, _, _, _, _)) rfl (fun _ => ?_) (fun _ => ?_)
      · refine T_run hD 3 (c' := (37, [(14, 12), (0, x1), (0, x2), (0, x3), (0, fT_cellAt m x3 x1)], [(0, x2), (0, fT_cellAt m x3 x1), (14, 12)], m, XX)) rfl ?_
        refine T_call hD (D2 := d_T_fits) (q2 := 173) (as := [(14, 12), (0, fT_cellAt m x3 x1), (0, x2)]) (c1 := (40, [(14, 12), (0, x1), (0, x2), (0, x3), (0, fT_cellAt m x3 x1)], [], m, XX)) (mk := fun w => (1, (0, w), m, XX)) (cc := fun v2 => (40, [(14, 12), (0, x1), (0, x2), (0, x3), (0, fT_cellAt m x3 x1)], [(0, v2)], m, XX)) rfl rfl (fun y9 h9y => Go.mono (tT_fits m (fT_cellAt m x3 x1) x2 y9 h9y) (by decide)) (fun _ => rfl) (fun v2 => ?_)
        refine T_if hD (c1 := (43, _, _, _, _)) (c2 := (45, _, _, _, _)) rfl (fun _ => ?_) (fun _ => ?_)
        · refine T_run hD 1 (c' := (44, [(14, 12), (0, x1), (0, x2), (0, x3), (0, fT_cellAt m x3 x1)], [(0, 0)], m, XX)) rfl ?_
          exact T_fin hD rfl (fun h => h)
        · refine T_run hD 2 (c' := (2, [(14, 12), (0, x1), (0, x2), (0, w32 (x3 + 1)), (0, fT_cellAt m x3 x1)], [], m, XX)) rfl ?_
          exact T_back0 ⟨_, rfl⟩
      · refine T_run hD 2 (c' := (2, [(14, 12), (0, x1), (0, x2), (0, w32 (x3 + 1)), (0, fT_cellAt m x3 x1)], [], m, XX)) rfl ?_
        exact T_back0 ⟨_, rfl⟩
  · refine T_run hD 1 (c' := (52, [(14, 12), (0, x1), (0, x2), (0, x3), z4], [(0, 1)], m, XX)) rfl ?_
    exact T_fin hD rfl (fun h => h)
def fT_allFit (m : aM) (x1 : Int) (x2 : Int) : Option Int :=
  fT_allFit_2 m x1 x2 0
set_option maxRecDepth 100000 in
theorem tT_allFit (m : aM) (x1 : Int) (x2 : Int) : ∀ v, fT_allFit m x1 x2 = some v → Go PB 2 172 (aEnt d_T_allFit [(14, 12), (0, x1), (0, x2)] m XX) (1, (0, v), m, XX) := by
  intro v hv
  have hD : aMd PB 172 = d_T_allFit := rfl
  obtain ⟨r, hr⟩ : ∃ r : aR, r = (1, (0, v), m, XX) := ⟨_, rfl⟩
  have h9 : aT PB 2 172 r (fun w => r = (1, (0, w), m, XX)) (fT_allFit m x1 x2) (0, [(14, 12), (0, x1), (0, x2), (99, 0), (99, 0)], [], m, XX) := by
    unfold fT_allFit
    refine T_run hD 2 (c' := (2, [(14, 12), (0, x1), (0, x2), (0, 0), (99, 0)], [], m, XX)) rfl ?_
    exact tT_allFit_2 r m x1 x2 0 (99, 0)
  rw [← hr]
  exact h9 v hv hr
abbrev hT_findType_2 (m : aM) (x1 : Int) : (Int) → aC → Prop := fun y c => c = (2, [(14, 12), (0, x1), (0, (y))], [], m, XX)
def fT_findType_2_b (m : aM) (x1 : Int) : (Int) → Option ((Int) ⊕ Int) := fun (x2) =>
  if x2 < 3 then
    (fT_allFit m x1 x2).bind fun v1 =>
    if v1 = 0 then
      some (Sum.inl (w32 (x2 + 1)))
    else
      some (Sum.inr (x2))
  else
    some (Sum.inr (3))
def fT_findType_2 (m : aM) (x1 : Int) (x2 : Int) : Option Int := aLoop (fT_findType_2_b m x1) FU (x2)
set_option maxRecDepth 100000 in
theorem tT_findType_2 (r : aR) (m : aM) (x1 : Int) (x2 : Int) : aT PB 3 171 r (fun w => r = (1, (0, w), m, XX)) (fT_findType_2 m x1 x2) (2, [(14, 12), (0, x1), (0, x2)], [], m, XX) := by
  have hD : aMd PB 171 = d_T_findType := rfl
  refine T_loop (Hd := (hT_findType_2 m x1)) ?_ FU _ _ rfl
  clear x2
  intro x2 c hc
  obtain rfl := hc
  unfold fT_findType_2_b
  try dsimp only
  refine T_run hD 2 (c' := (4, [(14, 12), (0, x1), (0, x2)], [(0, 3), (0, x2)], m, XX)) rfl ?_
  refine T_if hD (c1 := (7, _, _, _, _)) (c2 := (24, _, _, _, _)) rfl (fun _ => ?_) (fun _ => ?_)
  · refine T_run hD 3 (c' := (10, [(14, 12), (0, x1), (0, x2)], [(0, x2), (0, x1), (14, 12)], m, XX)) rfl ?_
    refine T_call hD (D2 := d_T_allFit) (q2 := 172) (as := [(14, 12), (0, x1), (0, x2)]) (c1 := (13, [(14, 12), (0, x1), (0, x2)], [], m, XX)) (mk := fun w => (1, (0, w), m, XX)) (cc := fun v1 => (13, [(14, 12), (0, x1), (0, x2)], [(0, v1)], m, XX)) rfl rfl (fun y9 h9y => Go.mono (tT_allFit m x1 x2 y9 h9y) (by decide)) (fun _ => rfl) (fun v1 => ?_)
    refine T_if hD (c1 := (18, _, _, _, _)) (c2 := (16, _, _, _, _)) rfl (fun _ => ?_) (fun _ => ?_)
    · refine T_run hD 2 (c' := (2, [(14, 12), (0, x1), (0, w32 (x2 + 1))], [], m, XX)) rfl ?_
      exact T_back0 rfl
    · refine T_run hD 1 (c' := (17, [(14, 12), (0, x1), (0, x2)], [(0, x2)], m, XX)) rfl ?_
      exact T_fin hD rfl (fun h => h)
  · refine T_run hD 1 (c' := (25, [(14, 12), (0, x1), (0, x2)], [(0, 3)], m, XX)) rfl ?_
    exact T_fin hD rfl (fun h => h)
def fT_findType (m : aM) (x1 : Int) : Option Int :=
  fT_findType_2 m x1 0
set_option maxRecDepth 100000 in
theorem tT_findType (m : aM) (x1 : Int) : ∀ v, fT_findType m x1 = some v → Go PB 3 171 (aEnt d_T_findType [(14, 12), (0, x1)] m XX) (1, (0, v), m, XX) := by
  intro v hv
  have hD : aMd PB 171 = d_T_findType := rfl
  obtain ⟨r, hr⟩ : ∃ r : aR, r = (1, (0, v), m, XX) := ⟨_, rfl⟩
  have h9 : aT PB 3 171 r (fun w => r = (1, (0, w), m, XX)) (fT_findType m x1) (0, [(14, 12), (0, x1), (99, 0)], [], m, XX) := by
    unfold fT_findType
    refine T_run hD 2 (c' := (2, [(14, 12), (0, x1), (0, 0)], [], m, XX)) rfl ?_
    exact tT_findType_2 r m x1 0 
  rw [← hr]
  exact h9 v hv hr
abbrev hT_take_38 (x2 : Int) : (aM × Int) → aC → Prop := fun y c => c = (38, [(14, 12), (13, 8), (11, x2), (0, (y.2))], [], (y.1), XX)
abbrev hT_take_179 : (aM × Int) → aC → Prop := fun y c => ∃ (z1 : aV) (z2 : aV), c = (179, [(14, 12), z1, z2, (0, (y.2))], [], (y.1), XX)
def fT_take_179_b : (aM × Int) → Option ((aM × Int) ⊕ aM) := fun (m, x3) =>
  if x3 < m 12 8 then
    (fT_findType m x3).bind fun v5 =>
    gd (0 ≤ x3 ∧ x3 < 6) (
    some (Sum.inl (mup m 20 x3 v5, w32 (x3 + 1))))
  else
    some (Sum.inr (m))
def fT_take_179 (m : aM) (x3 : Int) : Option aM := aLoop (fT_take_179_b ) FU (m, x3)
set_option maxRecDepth 100000 in
theorem tT_take_179 (r : aR) (m : aM) (x3 : Int) (z1 : aV) (z2 : aV) : aT PB 7 152 r (fun w => r = (0, (0, 0), w, XX)) (fT_take_179 m x3) (179, [(14, 12), z1, z2, (0, x3)], [], m, XX) := by
  have hD : aMd PB 152 = d_T_take := rfl
  refine T_loop (Hd := (hT_take_179 )) ?_ FU _ _ ⟨z1, z2, rfl⟩
  clear m x3 z1 z2
  intro y c hc
  obtain ⟨m, x3⟩ := y
  obtain ⟨z1, z2, rfl⟩ := hc
  unfold fT_take_179_b
  try dsimp only
  refine T_run hD 3 (c' := (184, [(14, 12), z1, z2, (0, x3)], [(0, m 12 8), (0, x3)], m, XX)) rfl ?_
  refine T_if hD (c1 := (187, _, _, _, _)) (c2 := (204, _, _, _, _)) rfl (fun _ => ?_) (fun _ => ?_)
  · refine T_run hD 5 (c' := (194, [(14, 12), z1, z2, (0, x3)], [(0, x3), (14, 12), (0, x3), (31, 20)], m, XX)) rfl ?_
    refine T_call hD (D2 := d_T_findType) (q2 := 171) (as := [(14, 12), (0, x3)]) (c1 := (197, [(14, 12), z1, z2, (0, x3)], [(0, x3), (31, 20)], m, XX)) (mk := fun w => (1, (0, w), m, XX)) (cc := fun v5 => (197, [(14, 12), z1, z2, (0, x3)], [(0, v5), (0, x3), (31, 20)], m, XX)) rfl rfl (fun y9 h9y => Go.mono (tT_findType m x3 y9 h9y) (by decide)) (fun _ => rfl) (fun v5 => ?_)
    refine T_gd hD (c1 := (198, [(14, 12), z1, z2, (0, x3)], [], mup m 20 x3 v5, XX)) rfl (fun g6 => ?_)
    refine T_run hD 2 (c' := (179, [(14, 12), z1, aJ z2, (0, w32 (x3 + 1))], [], mup m 20 x3 v5, XX)) rfl ?_
    exact T_back0 ⟨_, _, rfl⟩
  · exact T_fin hD rfl (fun h => h)
def fT_take_38_b (x2 : Int) : (aM × Int) → Option ((aM × Int) ⊕ aM) := fun (m, x3) =>
  if x3 < m 8 3 then
    if x3 < 102 then
      gd (0 ≤ x3 ∧ x3 < 102) (
      (fT_addUndoubled (mup m 15 x3 (m 13 1)) x2 (m 9 x3) (m 10 x3)).bind fun v2 =>
      gd (v2 11 x3 = 0 ∨ v2 11 x3 = 1) (
      (fC_shapeOf (mup (mup v2 16 x3 (v2 13 1)) 17 x3 (v2 11 x3)) 13 (v2 15 x3) ((mup v2 16 x3 (v2 13 1)) 16 x3)).bind fun v3 =>
      if (mup (mup (mup v2 16 x3 (v2 13 1)) 17 x3 (v2 11 x3)) 18 x3 v3) 18 x3 = 3 then
        some (Sum.inl (mup (mup (mup (mup v2 16 x3 (v2 13 1)) 17 x3 (v2 11 x3)) 18 x3 v3) 19 x3 0, w32 (x3 + 1)))
      else
        (fC_digitsOf (mup (mup (mup v2 16 x3 (v2 13 1)) 17 x3 (v2 11 x3)) 18 x3 v3) 13 (v2 15 x3) ((mup v2 16 x3 (v2 13 1)) 16 x3)).bind fun v4 =>
        some (Sum.inl (mup (mup (mup (mup v2 16 x3 (v2 13 1)) 17 x3 (v2 11 x3)) 18 x3 v3) 19 x3 v4, w32 (x3 + 1)))))
    else
      (fT_take_179 m 0).map Sum.inr
  else
    (fT_take_179 m 0).map Sum.inr
def fT_take_38 (m : aM) (x2 : Int) (x3 : Int) : Option aM := aLoop (fT_take_38_b x2) FU (m, x3)
set_option maxRecDepth 100000 in
theorem tT_take_38 (r : aR) (m : aM) (x2 : Int) (x3 : Int) (hx2 : ck x2) : aT PB 7 152 r (fun w => r = (0, (0, 0), w, XX)) (fT_take_38 m x2 x3) (38, [(14, 12), (13, 8), (11, x2), (0, x3)], [], m, XX) := by
  have hD : aMd PB 152 = d_T_take := rfl
  refine T_loop (Hd := (hT_take_38 x2)) ?_ FU _ _ rfl
  clear m x3
  intro y c hc
  obtain ⟨m, x3⟩ := y
  obtain rfl := hc
  unfold fT_take_38_b
  try dsimp only
  refine T_run hD 3 (c' := (43, [(14, 12), (13, 8), (11, x2), (0, x3)], [(0, m 8 3), (0, x3)], m, XX)) rfl ?_
  refine T_if hD (c1 := (46, _, _, _, _)) (c2 := (177, _, _, _, _)) rfl (fun _ => ?_) (fun _ => ?_)
  · refine T_run hD 2 (c' := (49, [(14, 12), (13, 8), (11, x2), (0, x3)], [(0, 102), (0, x3)], m, XX)) rfl ?_
    refine T_if hD (c1 := (52, _, _, _, _)) (c2 := (177, _, _, _, _)) rfl (fun _ => ?_) (fun _ => ?_)
    · refine T_run hD 6 (c' := (64, [(14, 12), (13, 8), (11, x2), (0, x3)], [(0, m 13 1), (0, x3), (31, 15)], m, XX)) rfl ?_
      refine T_gd hD (c1 := (65, [(14, 12), (13, 8), (11, x2), (0, x3)], [], mup m 15 x3 (m 13 1), XX)) rfl (fun g1 => ?_)
      refine T_run hD 5 (c' := (72, [(14, 12), (13, 8), (11, x2), (0, x3)], [(0, x3), (31, 9), (11, x2), (14, 12)], mup m 15 x3 (m 13 1), XX)) rfl ?_
      refine T_gk hD (c1 := (73, [(14, 12), (13, 8), (11, x2), (0, x3)], [(0, m 9 x3), (11, x2), (14, 12)], mup m 15 x3 (m 13 1), XX)) (P := 0 ≤ x3 ∧ x3 < 102) rfl g1 ?_
      refine T_run hD 3 (c' := (78, [(14, 12), (13, 8), (11, x2), (0, x3)], [(0, x3), (31, 10), (0, m 9 x3), (11, x2), (14, 12)], mup m 15 x3 (m 13 1), XX)) rfl ?_
      refine T_gk hD (c1 := (79, [(14, 12), (13, 8), (11, x2), (0, x3)], [(0, m 10 x3), (0, m 9 x3), (11, x2), (14, 12)], mup m 15 x3 (m 13 1), XX)) (P := 0 ≤ x3 ∧ x3 < 102) rfl g1 ?_
      refine T_call hD (D2 := d_T_addUndoubled) (q2 := 169) (as := [(14, 12), (11, x2), (0, m 9 x3), (0, m 10 x3)]) (c1 := (82, [(14, 12), (13, 8), (11, x2), (0, x3)], [], mup m 15 x3 (m 13 1), XX)) (mk := fun w => (0, (0, 0), w, XX)) (cc := fun v2 => (82, [(14, 12), (13, 8), (11, x2), (0, x3)], [], v2, XX)) rfl rfl (fun y9 h9y => Go.mono (tT_addUndoubled (mup m 15 x3 (m 13 1)) x2 (m 9 x3) (m 10 x3) hx2 y9 h9y) (by decide)) (fun _ => rfl) (fun v2 => ?_)
      refine T_run hD 6 (c' := (94, [(14, 12), (13, 8), (11, x2), (0, x3)], [(0, v2 13 1), (0, x3), (31, 16)], v2, XX)) rfl ?_
      refine T_gk hD (c1 := (95, [(14, 12), (13, 8), (11, x2), (0, x3)], [], mup v2 16 x3 (v2 13 1), XX)) (P := 0 ≤ x3 ∧ x3 < 102) rfl g1 ?_
      refine T_run hD 6 (c' := (105, [(14, 12), (13, 8), (11, x2), (0, x3)], [(0, x3), (33, 11), (0, x3), (33, 17)], mup v2 16 x3 (v2 13 1), XX)) rfl ?_
      refine T_gk hD (c1 := (106, [(14, 12), (13, 8), (11, x2), (0, x3)], [(0, v2 11 x3), (0, x3), (33, 17)], mup v2 16 x3 (v2 13 1), XX)) (P := 0 ≤ x3 ∧ x3 < 102) rfl g1 ?_
      refine T_gdk hD (c1 := (107, [(14, 12), (13, 8), (11, x2), (0, x3)], [], mup (mup v2 16 x3 (v2 13 1)) 17 x3 (v2 11 x3), XX)) (Q := 0 ≤ x3 ∧ x3 < 102) rfl g1 (fun _ => ?_)
      refine T_run hD 8 (c' := (121, [(14, 12), (13, 8), (11, x2), (0, x3)], [(0, x3), (31, 15), (11, 13), (0, x3), (31, 18)], mup (mup v2 16 x3 (v2 13 1)) 17 x3 (v2 11 x3), XX)) rfl ?_
      refine T_gk hD (c1 := (122, [(14, 12), (13, 8), (11, x2), (0, x3)], [(0, v2 15 x3), (11, 13), (0, x3), (31, 18)], mup (mup v2 16 x3 (v2 13 1)) 17 x3 (v2 11 x3), XX)) (P := 0 ≤ x3 ∧ x3 < 102) rfl g1 ?_
      refine T_run hD 3 (c' := (127, [(14, 12), (13, 8), (11, x2), (0, x3)], [(0, x3), (31, 16), (0, v2 15 x3), (11, 13), (0, x3), (31, 18)], mup (mup v2 16 x3 (v2 13 1)) 17 x3 (v2 11 x3), XX)) rfl ?_
      refine T_gk hD (c1 := (128, [(14, 12), (13, 8), (11, x2), (0, x3)], [(0, (mup v2 16 x3 (v2 13 1)) 16 x3), (0, v2 15 x3), (11, 13), (0, x3), (31, 18)], mup (mup v2 16 x3 (v2 13 1)) 17 x3 (v2 11 x3), XX)) (P := 0 ≤ x3 ∧ x3 < 102) rfl g1 ?_
      refine T_call hD (D2 := d_C_shapeOf) (q2 := 118) (as := [(11, 13), (0, v2 15 x3), (0, (mup v2 16 x3 (v2 13 1)) 16 x3)]) (c1 := (131, [(14, 12), (13, 8), (11, x2), (0, x3)], [(0, x3), (31, 18)], mup (mup v2 16 x3 (v2 13 1)) 17 x3 (v2 11 x3), XX)) (mk := fun w => (1, (0, w), mup (mup v2 16 x3 (v2 13 1)) 17 x3 (v2 11 x3), XX)) (cc := fun v3 => (131, [(14, 12), (13, 8), (11, x2), (0, x3)], [(0, v3), (0, x3), (31, 18)], mup (mup v2 16 x3 (v2 13 1)) 17 x3 (v2 11 x3), XX)) rfl rfl (fun y9 h9y => Go.mono (tC_shapeOf (mup (mup v2 16 x3 (v2 13 1)) 17 x3 (v2 11 x3)) 13 (v2 15 x3) ((mup v2 16 x3 (v2 13 1)) 16 x3) (by decide) y9 h9y) (by decide)) (fun _ => rfl) (fun v3 => ?_)
      refine T_gk hD (c1 := (132, [(14, 12), (13, 8), (11, x2), (0, x3)], [], mup (mup (mup v2 16 x3 (v2 13 1)) 17 x3 (v2 11 x3)) 18 x3 v3, XX)) (P := 0 ≤ x3 ∧ x3 < 102) rfl g1 ?_
      refine T_run hD 6 (c' := (142, [(14, 12), (13, 8), (11, x2), (0, x3)], [(0, x3), (31, 18), (0, x3), (32, 19)], mup (mup (mup v2 16 x3 (v2 13 1)) 17 x3 (v2 11 x3)) 18 x3 v3, XX)) rfl ?_
      refine T_gk hD (c1 := (143, [(14, 12), (13, 8), (11, x2), (0, x3)], [(0, (mup (mup (mup v2 16 x3 (v2 13 1)) 17 x3 (v2 11 x3)) 18 x3 v3) 18 x3), (0, x3), (32, 19)], mup (mup (mup v2 16 x3 (v2 13 1)) 17 x3 (v2 11 x3)) 18 x3 v3, XX)) (P := 0 ≤ x3 ∧ x3 < 102) rfl g1 ?_
      refine T_run hD 1 (c' := (144, [(14, 12), (13, 8), (11, x2), (0, x3)], [(0, 3), (0, (mup (mup (mup v2 16 x3 (v2 13 1)) 17 x3 (v2 11 x3)) 18 x3 v3) 18 x3), (0, x3), (32, 19)], mup (mup (mup v2 16 x3 (v2 13 1)) 17 x3 (v2 11 x3)) 18 x3 v3, XX)) rfl ?_
      refine T_if hD (c1 := (147, _, _, _, _)) (c2 := (151, _, _, _, _)) rfl (fun _ => ?_) (fun _ => ?_)
      · refine T_run hD 2 (c' := (170, [(14, 12), (13, 8), (11, x2), (0, x3)], [(1, 0), (0, x3), (32, 19)], mup (mup (mup v2 16 x3 (v2 13 1)) 17 x3 (v2 11 x3)) 18 x3 v3, XX)) rfl ?_
        refine T_gk hD (c1 := (171, [(14, 12), (13, 8), (11, x2), (0, x3)], [], mup (mup (mup (mup v2 16 x3 (v2 13 1)) 17 x3 (v2 11 x3)) 18 x3 v3) 19 x3 0, XX)) (P := 0 ≤ x3 ∧ x3 < 102) rfl g1 ?_
        refine T_run hD 2 (c' := (38, [(14, 12), (13, 8), (11, x2), (0, w32 (x3 + 1))], [], mup (mup (mup (mup v2 16 x3 (v2 13 1)) 17 x3 (v2 11 x3)) 18 x3 v3) 19 x3 0, XX)) rfl ?_
        exact T_back0 rfl
      · refine T_run hD 5 (c' := (160, [(14, 12), (13, 8), (11, x2), (0, x3)], [(0, x3), (31, 15), (11, 13), (0, x3), (32, 19)], mup (mup (mup v2 16 x3 (v2 13 1)) 17 x3 (v2 11 x3)) 18 x3 v3, XX)) rfl ?_
        refine T_gk hD (c1 := (161, [(14, 12), (13, 8), (11, x2), (0, x3)], [(0, v2 15 x3), (11, 13), (0, x3), (32, 19)], mup (mup (mup v2 16 x3 (v2 13 1)) 17 x3 (v2 11 x3)) 18 x3 v3, XX)) (P := 0 ≤ x3 ∧ x3 < 102) rfl g1 ?_
        refine T_run hD 3 (c' := (166, [(14, 12), (13, 8), (11, x2), (0, x3)], [(0, x3), (31, 16), (0, v2 15 x3), (11, 13), (0, x3), (32, 19)], mup (mup (mup v2 16 x3 (v2 13 1)) 17 x3 (v2 11 x3)) 18 x3 v3, XX)) rfl ?_
        refine T_gk hD (c1 := (167, [(14, 12), (13, 8), (11, x2), (0, x3)], [(0, (mup v2 16 x3 (v2 13 1)) 16 x3), (0, v2 15 x3), (11, 13), (0, x3), (32, 19)], mup (mup (mup v2 16 x3 (v2 13 1)) 17 x3 (v2 11 x3)) 18 x3 v3, XX)) (P := 0 ≤ x3 ∧ x3 < 102) rfl g1 ?_
        refine T_call hD (D2 := d_C_digitsOf) (q2 := 119) (as := [(11, 13), (0, v2 15 x3), (0, (mup v2 16 x3 (v2 13 1)) 16 x3)]) (c1 := (170, [(14, 12), (13, 8), (11, x2), (0, x3)], [(0, x3), (32, 19)], mup (mup (mup v2 16 x3 (v2 13 1)) 17 x3 (v2 11 x3)) 18 x3 v3, XX)) (mk := fun w => (1, (1, w), mup (mup (mup v2 16 x3 (v2 13 1)) 17 x3 (v2 11 x3)) 18 x3 v3, XX)) (cc := fun v4 => (170, [(14, 12), (13, 8), (11, x2), (0, x3)], [(1, v4), (0, x3), (32, 19)], mup (mup (mup v2 16 x3 (v2 13 1)) 17 x3 (v2 11 x3)) 18 x3 v3, XX)) rfl rfl (fun y9 h9y => Go.mono (tC_digitsOf (mup (mup (mup v2 16 x3 (v2 13 1)) 17 x3 (v2 11 x3)) 18 x3 v3) 13 (v2 15 x3) ((mup v2 16 x3 (v2 13 1)) 16 x3) (by decide) y9 h9y) (by decide)) (fun _ => rfl) (fun v4 => ?_)
        refine T_gk hD (c1 := (171, [(14, 12), (13, 8), (11, x2), (0, x3)], [], mup (mup (mup (mup v2 16 x3 (v2 13 1)) 17 x3 (v2 11 x3)) 18 x3 v3) 19 x3 v4, XX)) (P := 0 ≤ x3 ∧ x3 < 102) rfl g1 ?_
        refine T_run hD 2 (c' := (38, [(14, 12), (13, 8), (11, x2), (0, w32 (x3 + 1))], [], mup (mup (mup (mup v2 16 x3 (v2 13 1)) 17 x3 (v2 11 x3)) 18 x3 v3) 19 x3 v4, XX)) rfl ?_
        exact T_back0 rfl
    · refine T_run hD 2 (c' := (179, [(14, 12), (13, 8), (11, x2), (0, 0)], [], m, XX)) rfl ?_
      exact T_map (tT_take_179 r m 0 (13, 8) (11, x2))
  · refine T_run hD 2 (c' := (179, [(14, 12), (13, 8), (11, x2), (0, 0)], [], m, XX)) rfl ?_
    exact T_map (tT_take_179 r m 0 (13, 8) (11, x2))
def fT_take (m : aM) (x2 : Int) : Option aM :=
  fT_take_38 (fC_keepFirst (mup (mup m 12 8 (fJM_min (m 8 5) 6)) 12 7 (fJM_min (w32 ((m 8 4) - 1)) 16)) 13 0) x2 0
set_option maxRecDepth 100000 in
theorem tT_take (m : aM) (x2 : Int) (hx2 : ck x2) : ∀ v, fT_take m x2 = some v → Go PB 7 152 (aEnt d_T_take [(14, 12), (13, 8), (11, x2)] m XX) (0, (0, 0), v, XX) := by
  intro v hv
  have hD : aMd PB 152 = d_T_take := rfl
  obtain ⟨r, hr⟩ : ∃ r : aR, r = (0, (0, 0), v, XX) := ⟨_, rfl⟩
  have h9 : aT PB 7 152 r (fun w => r = (0, (0, 0), w, XX)) (fT_take m x2) (0, [(14, 12), (13, 8), (11, x2), (99, 0)], [], m, XX) := by
    unfold fT_take
    refine T_run hD 4 (c' := (7, [(14, 12), (13, 8), (11, x2), (99, 0)], [(0, 6), (0, m 8 5), (14, 12)], m, XX)) rfl ?_
    refine T_call0 hD (D2 := d_JM_min) (q2 := 205) (as := [(0, m 8 5), (0, 6)]) (c1 := (10, [(14, 12), (13, 8), (11, x2), (99, 0)], [(14, 12)], m, XX)) (r2 := (1, (0, fJM_min (m 8 5) 6), m, XX)) (c2 := (10, [(14, 12), (13, 8), (11, x2), (99, 0)], [(0, fJM_min (m 8 5) 6), (14, 12)], m, XX)) rfl rfl (Go.mono (tJM_min m (m 8 5) 6) (by decide)) rfl ?_
    refine T_run hD 7 (c' := (22, [(14, 12), (13, 8), (11, x2), (99, 0)], [(0, 16), (0, w32 ((m 8 4) - 1)), (14, 12)], mup m 12 8 (fJM_min (m 8 5) 6), XX)) rfl ?_
    refine T_call0 hD (D2 := d_JM_min) (q2 := 205) (as := [(0, w32 ((m 8 4) - 1)), (0, 16)]) (c1 := (25, [(14, 12), (13, 8), (11, x2), (99, 0)], [(14, 12)], mup m 12 8 (fJM_min (m 8 5) 6), XX)) (r2 := (1, (0, fJM_min (w32 ((m 8 4) - 1)) 16), mup m 12 8 (fJM_min (m 8 5) 6), XX)) (c2 := (25, [(14, 12), (13, 8), (11, x2), (99, 0)], [(0, fJM_min (w32 ((m 8 4) - 1)) 16), (14, 12)], mup m 12 8 (fJM_min (m 8 5) 6), XX)) rfl rfl (Go.mono (tJM_min (mup m 12 8 (fJM_min (m 8 5) 6)) (w32 ((m 8 4) - 1)) 16) (by decide)) rfl ?_
    refine T_run hD 4 (c' := (33, [(14, 12), (13, 8), (11, x2), (99, 0)], [(0, 0), (11, 13)], mup (mup m 12 8 (fJM_min (m 8 5) 6)) 12 7 (fJM_min (w32 ((m 8 4) - 1)) 16), XX)) rfl ?_
    refine T_call0 hD (D2 := d_C_keepFirst) (q2 := 112) (as := [(11, 13), (0, 0)]) (c1 := (36, [(14, 12), (13, 8), (11, x2), (99, 0)], [], mup (mup m 12 8 (fJM_min (m 8 5) 6)) 12 7 (fJM_min (w32 ((m 8 4) - 1)) 16), XX)) (r2 := (0, (0, 0), fC_keepFirst (mup (mup m 12 8 (fJM_min (m 8 5) 6)) 12 7 (fJM_min (w32 ((m 8 4) - 1)) 16)) 13 0, XX)) (c2 := (36, [(14, 12), (13, 8), (11, x2), (99, 0)], [], fC_keepFirst (mup (mup m 12 8 (fJM_min (m 8 5) 6)) 12 7 (fJM_min (w32 ((m 8 4) - 1)) 16)) 13 0, XX)) rfl rfl (Go.mono (tC_keepFirst (mup (mup m 12 8 (fJM_min (m 8 5) 6)) 12 7 (fJM_min (w32 ((m 8 4) - 1)) 16)) 13 0 (by decide)) (by decide)) rfl ?_
    refine T_run hD 2 (c' := (38, [(14, 12), (13, 8), (11, x2), (0, 0)], [], fC_keepFirst (mup (mup m 12 8 (fJM_min (m 8 5) 6)) 12 7 (fJM_min (w32 ((m 8 4) - 1)) 16)) 13 0, XX)) rfl ?_
    exact tT_take_38 r (fC_keepFirst (mup (mup m 12 8 (fJM_min (m 8 5) 6)) 12 7 (fJM_min (w32 ((m 8 4) - 1)) 16)) 13 0) x2 0 hx2 
  rw [← hr]
  exact h9 v hv hr
def fT_hasColumn (m : aM) (x1 : Int) : Int :=
  if x1 < 0 then
    0
  else
    if x1 < m 12 8 then
      1
    else
      0
set_option maxRecDepth 100000 in
theorem tT_hasColumn (m : aM) (x1 : Int) : Go PB 1 153 (aEnt d_T_hasColumn [(14, 12), (0, x1)] m XX) (1, (0, (fT_hasColumn m x1)), m, XX) := by
  have hD : aMd PB 153 = d_T_hasColumn := rfl
  show aU PB 1 153 (fun w => (1, (0, w), m, XX)) (fT_hasColumn m x1) (0, [(14, 12), (0, x1)], [], m, XX)
  unfold fT_hasColumn
  refine U_run hD 1 (c' := (1, [(14, 12), (0, x1)], [(0, x1)], m, XX)) rfl ?_
  refine U_if hD (c1 := (16, _, _, _, _)) (c2 := (4, _, _, _, _)) rfl (fun _ => ?_) (fun _ => ?_)
  · refine U_run hD 1 (c' := (17, [(14, 12), (0, x1)], [(0, 0)], m, XX)) rfl ?_
    exact Go.fin hD rfl
  · refine U_run hD 3 (c' := (9, [(14, 12), (0, x1)], [(0, m 12 8), (0, x1)], m, XX)) rfl ?_
    refine U_if hD (c1 := (12, _, _, _, _)) (c2 := (16, _, _, _, _)) rfl (fun _ => ?_) (fun _ => ?_)
    · refine U_run hD 2 (c' := (17, [(14, 12), (0, x1)], [(0, 1)], m, XX)) rfl ?_
      exact Go.fin hD rfl
    · refine U_run hD 1 (c' := (17, [(14, 12), (0, x1)], [(0, 0)], m, XX)) rfl ?_
      exact Go.fin hD rfl
def fT_typeAt (m : aM) (x1 : Int) : Option Int :=
  if fT_hasColumn m x1 = 0 then
    some (3)
  else
    gd (0 ≤ x1 ∧ x1 < 6) (
    some (m 20 x1))
set_option maxRecDepth 100000 in
theorem tT_typeAt (m : aM) (x1 : Int) : ∀ v, fT_typeAt m x1 = some v → Go PB 2 155 (aEnt d_T_typeAt [(14, 12), (0, x1)] m XX) (1, (0, v), m, XX) := by
  intro v hv
  have hD : aMd PB 155 = d_T_typeAt := rfl
  obtain ⟨r, hr⟩ : ∃ r : aR, r = (1, (0, v), m, XX) := ⟨_, rfl⟩
  have h9 : aT PB 2 155 r (fun w => r = (1, (0, w), m, XX)) (fT_typeAt m x1) (0, [(14, 12), (0, x1)], [], m, XX) := by
    unfold fT_typeAt
    refine T_run hD 2 (c' := (2, [(14, 12), (0, x1)], [(0, x1), (14, 12)], m, XX)) rfl ?_
    refine T_call0 hD (D2 := d_T_hasColumn) (q2 := 153) (as := [(14, 12), (0, x1)]) (c1 := (5, [(14, 12), (0, x1)], [], m, XX)) (r2 := (1, (0, fT_hasColumn m x1), m, XX)) (c2 := (5, [(14, 12), (0, x1)], [(0, fT_hasColumn m x1)], m, XX)) rfl rfl (Go.mono (tT_hasColumn m x1) (by decide)) rfl ?_
    refine T_if hD (c1 := (17, _, _, _, _)) (c2 := (8, _, _, _, _)) rfl (fun _ => ?_) (fun _ => ?_)
    · refine T_run hD 1 (c' := (18, [(14, 12), (0, x1)], [(0, 3)], m, XX)) rfl ?_
      exact T_fin hD rfl (fun h => h)
    · refine T_run hD 3 (c' := (13, [(14, 12), (0, x1)], [(0, x1), (31, 20)], m, XX)) rfl ?_
      refine T_gd hD (c1 := (14, [(14, 12), (0, x1)], [(0, m 20 x1)], m, XX)) rfl (fun g1 => ?_)
      refine T_run hD 1 (c' := (18, [(14, 12), (0, x1)], [(0, m 20 x1)], m, XX)) rfl ?_
      exact T_fin hD rfl (fun h => h)
  rw [← hr]
  exact h9 v hv hr
def fT_hasCell (m : aM) (x1 : Int) (x2 : Int) : Int :=
  if fT_cellAt m x1 x2 = (-1) then
    0
  else
    1
set_option maxRecDepth 100000 in
theorem tT_hasCell (m : aM) (x1 : Int) (x2 : Int) : Go PB 2 154 (aEnt d_T_hasCell [(14, 12), (0, x1), (0, x2)] m XX) (1, (0, (fT_hasCell m x1 x2)), m, XX) := by
  have hD : aMd PB 154 = d_T_hasCell := rfl
  show aU PB 2 154 (fun w => (1, (0, w), m, XX)) (fT_hasCell m x1 x2) (0, [(14, 12), (0, x1), (0, x2)], [], m, XX)
  unfold fT_hasCell
  refine U_run hD 3 (c' := (3, [(14, 12), (0, x1), (0, x2)], [(0, x2), (0, x1), (14, 12)], m, XX)) rfl ?_
  refine U_call0 hD (D2 := d_T_cellAt) (q2 := 167) (as := [(14, 12), (0, x1), (0, x2)]) (c1 := (6, [(14, 12), (0, x1), (0, x2)], [], m, XX)) (r2 := (1, (0, fT_cellAt m x1 x2), m, XX)) (c2 := (6, [(14, 12), (0, x1), (0, x2)], [(0, fT_cellAt m x1 x2)], m, XX)) rfl rfl (Go.mono (tT_cellAt m x1 x2) (by decide)) rfl ?_
  refine U_run hD 1 (c' := (7, [(14, 12), (0, x1), (0, x2)], [(0, (-1)), (0, fT_cellAt m x1 x2)], m, XX)) rfl ?_
  refine U_if hD (c1 := (14, _, _, _, _)) (c2 := (10, _, _, _, _)) rfl (fun _ => ?_) (fun _ => ?_)
  · refine U_run hD 1 (c' := (15, [(14, 12), (0, x1), (0, x2)], [(0, 0)], m, XX)) rfl ?_
    exact Go.fin hD rfl
  · refine U_run hD 2 (c' := (15, [(14, 12), (0, x1), (0, x2)], [(0, 1)], m, XX)) rfl ?_
    exact Go.fin hD rfl
def fT_lacks (m : aM) (x1 : Int) (x2 : Int) : Option Int :=
  if fT_cellAt m x1 x2 = (-1) then
    some (1)
  else
    (fT_isGone m (fT_cellAt m x1 x2)).bind fun v1 =>
    if v1 = 0 then
      some (0)
    else
      some (1)
set_option maxRecDepth 100000 in
theorem tT_lacks (m : aM) (x1 : Int) (x2 : Int) : ∀ v, fT_lacks m x1 x2 = some v → Go PB 2 156 (aEnt d_T_lacks [(14, 12), (0, x1), (0, x2)] m XX) (1, (0, v), m, XX) := by
  intro v hv
  have hD : aMd PB 156 = d_T_lacks := rfl
  obtain ⟨r, hr⟩ : ∃ r : aR, r = (1, (0, v), m, XX) := ⟨_, rfl⟩
  have h9 : aT PB 2 156 r (fun w => r = (1, (0, w), m, XX)) (fT_lacks m x1 x2) (0, [(14, 12), (0, x1), (0, x2), (99, 0)], [], m, XX) := by
    unfold fT_lacks
    refine T_run hD 3 (c' := (3, [(14, 12), (0, x1), (0, x2), (99, 0)], [(0, x2), (0, x1), (14, 12)], m, XX)) rfl ?_
    refine T_call0 hD (D2 := d_T_cellAt) (q2 := 167) (as := [(14, 12), (0, x1), (0, x2)]) (c1 := (6, [(14, 12), (0, x1), (0, x2), (99, 0)], [], m, XX)) (r2 := (1, (0, fT_cellAt m x1 x2), m, XX)) (c2 := (6, [(14, 12), (0, x1), (0, x2), (99, 0)], [(0, fT_cellAt m x1 x2)], m, XX)) rfl rfl (Go.mono (tT_cellAt m x1 x2) (by decide)) rfl ?_
    refine T_run hD 3 (c' := (9, [(14, 12), (0, x1), (0, x2), (0, fT_cellAt m x1 x2)], [(0, (-1)), (0, fT_cellAt m x1 x2)], m, XX)) rfl ?_
    refine T_if hD (c1 := (20, _, _, _, _)) (c2 := (12, _, _, _, _)) rfl (fun _ => ?_) (fun _ => ?_)
    · refine T_run hD 2 (c' := (25, [(14, 12), (0, x1), (0, x2), (0, fT_cellAt m x1 x2)], [(0, 1)], m, XX)) rfl ?_
      exact T_fin hD rfl (fun h => h)
    · refine T_run hD 2 (c' := (14, [(14, 12), (0, x1), (0, x2), (0, fT_cellAt m x1 x2)], [(0, fT_cellAt m x1 x2), (14, 12)], m, XX)) rfl ?_
      refine T_call hD (D2 := d_T_isGone) (q2 := 168) (as := [(14, 12), (0, fT_cellAt m x1 x2)]) (c1 := (17, [(14, 12), (0, x1), (0, x2), (0, fT_cellAt m x1 x2)], [], m, XX)) (mk := fun w => (1, (0, w), m, XX)) (cc := fun v1 => (17, [(14, 12), (0, x1), (0, x2), (0, fT_cellAt m x1 x2)], [(0, v1)], m, XX)) rfl rfl (fun y9 h9y => Go.mono (tT_isGone m (fT_cellAt m x1 x2) y9 h9y) (by decide)) (fun _ => rfl) (fun v1 => ?_)
      refine T_if hD (c1 := (24, _, _, _, _)) (c2 := (20, _, _, _, _)) rfl (fun _ => ?_) (fun _ => ?_)
      · refine T_run hD 1 (c' := (25, [(14, 12), (0, x1), (0, x2), (0, fT_cellAt m x1 x2)], [(0, 0)], m, XX)) rfl ?_
        exact T_fin hD rfl (fun h => h)
      · refine T_run hD 2 (c' := (25, [(14, 12), (0, x1), (0, x2), (0, fT_cellAt m x1 x2)], [(0, 1)], m, XX)) rfl ?_
        exact T_fin hD rfl (fun h => h)
  rw [← hr]
  exact h9 v hv hr
def fT_valueAt (m : aM) (x1 : Int) (x2 : Int) : Option Int :=
  if fT_cellAt m x1 x2 = (-1) then
    some (0)
  else
    gd (0 ≤ fT_cellAt m x1 x2 ∧ fT_cellAt m x1 x2 < 102) (
    some (m 19 (fT_cellAt m x1 x2)))
set_option maxRecDepth 100000 in
theorem tT_valueAt (m : aM) (x1 : Int) (x2 : Int) : ∀ v, fT_valueAt m x1 x2 = some v → Go PB 2 157 (aEnt d_T_valueAt [(14, 12), (0, x1), (0, x2)] m XX) (1, (1, v), m, XX) := by
  intro v hv
  have hD : aMd PB 157 = d_T_valueAt := rfl
  obtain ⟨r, hr⟩ : ∃ r : aR, r = (1, (1, v), m, XX) := ⟨_, rfl⟩
  have h9 : aT PB 2 157 r (fun w => r = (1, (1, w), m, XX)) (fT_valueAt m x1 x2) (0, [(14, 12), (0, x1), (0, x2), (99, 0)], [], m, XX) := by
    unfold fT_valueAt
    refine T_run hD 3 (c' := (3, [(14, 12), (0, x1), (0, x2), (99, 0)], [(0, x2), (0, x1), (14, 12)], m, XX)) rfl ?_
    refine T_call0 hD (D2 := d_T_cellAt) (q2 := 167) (as := [(14, 12), (0, x1), (0, x2)]) (c1 := (6, [(14, 12), (0, x1), (0, x2), (99, 0)], [], m, XX)) (r2 := (1, (0, fT_cellAt m x1 x2), m, XX)) (c2 := (6, [(14, 12), (0, x1), (0, x2), (99, 0)], [(0, fT_cellAt m x1 x2)], m, XX)) rfl rfl (Go.mono (tT_cellAt m x1 x2) (by decide)) rfl ?_
    refine T_run hD 3 (c' := (9, [(14, 12), (0, x1), (0, x2), (0, fT_cellAt m x1 x2)], [(0, (-1)), (0, fT_cellAt m x1 x2)], m, XX)) rfl ?_
    refine T_if hD (c1 := (12, _, _, _, _)) (c2 := (16, _, _, _, _)) rfl (fun _ => ?_) (fun _ => ?_)
    · refine T_run hD 2 (c' := (22, [(14, 12), (0, x1), (0, x2), (0, fT_cellAt m x1 x2)], [(1, 0)], m, XX)) rfl ?_
      exact T_fin hD rfl (fun h => h)
    · refine T_run hD 3 (c' := (21, [(14, 12), (0, x1), (0, x2), (0, fT_cellAt m x1 x2)], [(0, fT_cellAt m x1 x2), (32, 19)], m, XX)) rfl ?_
      refine T_gd hD (c1 := (22, [(14, 12), (0, x1), (0, x2), (0, fT_cellAt m x1 x2)], [(1, m 19 (fT_cellAt m x1 x2))], m, XX)) rfl (fun g1 => ?_)
      exact T_fin hD rfl (fun h => h)
  rw [← hr]
  exact h9 v hv hr
abbrev hT_columnNamed_3 (m : aM) (x1 : Int) (x2 : Int) (x3 : Int) : (Int) → aC → Prop := fun y c => c = (3, [(14, 12), (11, x1), (0, x2), (0, x3), (0, (y))], [], m, XX)
def fT_columnNamed_3_b (m : aM) (x1 : Int) (x2 : Int) (x3 : Int) : (Int) → Option ((Int) ⊕ Int) := fun (x4) =>
  if x4 < m 12 8 then
    if x4 < 6 then
      gd (0 ≤ x4 ∧ x4 < 102) (
      (fC_compareWith m 13 (m 15 x4) (m 16 x4) x1 x2 x3).bind fun v2 =>
      if v2 = 0 then
        some (Sum.inr (x4))
      else
        some (Sum.inl (w32 (x4 + 1))))
    else
      some (Sum.inr ((-1)))
  else
    some (Sum.inr ((-1)))
def fT_columnNamed_3 (m : aM) (x1 : Int) (x2 : Int) (x3 : Int) (x4 : Int) : Option Int := aLoop (fT_columnNamed_3_b m x1 x2 x3) FU (x4)
set_option maxRecDepth 100000 in
theorem tT_columnNamed_3 (r : aR) (m : aM) (x1 : Int) (x2 : Int) (x3 : Int) (x4 : Int) (hx1 : ck x1) : aT PB 3 158 r (fun w => r = (1, (0, w), m, XX)) (fT_columnNamed_3 m x1 x2 x3 x4) (3, [(14, 12), (11, x1), (0, x2), (0, x3), (0, x4)], [], m, XX) := by
  have hD : aMd PB 158 = d_T_columnNamed := rfl
  refine T_loop (Hd := (hT_columnNamed_3 m x1 x2 x3)) ?_ FU _ _ rfl
  clear x4
  intro x4 c hc
  obtain rfl := hc
  unfold fT_columnNamed_3_b
  try dsimp only
  refine T_run hD 3 (c' := (9, [(14, 12), (11, x1), (0, x2), (0, x3), (0, x4)], [(0, m 12 8), (0, x4)], m, XX)) rfl ?_
  refine T_if hD (c1 := (12, _, _, _, _)) (c2 := (55, _, _, _, _)) rfl (fun _ => ?_) (fun _ => ?_)
  · refine T_run hD 2 (c' := (16, [(14, 12), (11, x1), (0, x2), (0, x3), (0, x4)], [(0, 6), (0, x4)], m, XX)) rfl ?_
    refine T_if hD (c1 := (19, _, _, _, _)) (c2 := (55, _, _, _, _)) rfl (fun _ => ?_) (fun _ => ?_)
    · refine T_run hD 5 (c' := (29, [(14, 12), (11, x1), (0, x2), (0, x3), (0, x4)], [(0, x4), (31, 15), (11, 13)], m, XX)) rfl ?_
      refine T_gd hD (c1 := (30, [(14, 12), (11, x1), (0, x2), (0, x3), (0, x4)], [(0, m 15 x4), (11, 13)], m, XX)) rfl (fun g1 => ?_)
      refine T_run hD 3 (c' := (36, [(14, 12), (11, x1), (0, x2), (0, x3), (0, x4)], [(0, x4), (31, 16), (0, m 15 x4), (11, 13)], m, XX)) rfl ?_
      refine T_gk hD (c1 := (37, [(14, 12), (11, x1), (0, x2), (0, x3), (0, x4)], [(0, m 16 x4), (0, m 15 x4), (11, 13)], m, XX)) (P := 0 ≤ x4 ∧ x4 < 102) rfl g1 ?_
      refine T_run hD 3 (c' := (40, [(14, 12), (11, x1), (0, x2), (0, x3), (0, x4)], [(0, x3), (0, x2), (11, x1), (0, m 16 x4), (0, m 15 x4), (11, 13)], m, XX)) rfl ?_
      refine T_call hD (D2 := d_C_compareWith) (q2 := 117) (as := [(11, 13), (0, m 15 x4), (0, m 16 x4), (11, x1), (0, x2), (0, x3)]) (c1 := (43, [(14, 12), (11, x1), (0, x2), (0, x3), (0, x4)], [], m, XX)) (mk := fun w => (1, (0, w), m, XX)) (cc := fun v2 => (43, [(14, 12), (11, x1), (0, x2), (0, x3), (0, x4)], [(0, v2)], m, XX)) rfl rfl (fun y9 h9y => Go.mono (tC_compareWith m 13 (m 15 x4) (m 16 x4) x1 x2 x3 (by decide) hx1 y9 h9y) (by decide)) (fun _ => rfl) (fun v2 => ?_)
      refine T_if hD (c1 := (46, _, _, _, _)) (c2 := (49, _, _, _, _)) rfl (fun _ => ?_) (fun _ => ?_)
      · refine T_run hD 1 (c' := (48, [(14, 12), (11, x1), (0, x2), (0, x3), (0, x4)], [(0, x4)], m, XX)) rfl ?_
        exact T_fin hD rfl (fun h => h)
      · refine T_run hD 2 (c' := (3, [(14, 12), (11, x1), (0, x2), (0, x3), (0, w32 (x4 + 1))], [], m, XX)) rfl ?_
        exact T_back0 rfl
    · refine T_run hD 1 (c' := (56, [(14, 12), (11, x1), (0, x2), (0, x3), (0, x4)], [(0, (-1))], m, XX)) rfl ?_
      exact T_fin hD rfl (fun h => h)
  · refine T_run hD 1 (c' := (56, [(14, 12), (11, x1), (0, x2), (0, x3), (0, x4)], [(0, (-1))], m, XX)) rfl ?_
    exact T_fin hD rfl (fun h => h)
def fT_columnNamed (m : aM) (x1 : Int) (x2 : Int) (x3 : Int) : Option Int :=
  fT_columnNamed_3 m x1 x2 x3 0
set_option maxRecDepth 100000 in
theorem tT_columnNamed (m : aM) (x1 : Int) (x2 : Int) (x3 : Int) (hx1 : ck x1) : ∀ v, fT_columnNamed m x1 x2 x3 = some v → Go PB 3 158 (aEnt d_T_columnNamed [(14, 12), (11, x1), (0, x2), (0, x3)] m XX) (1, (0, v), m, XX) := by
  intro v hv
  have hD : aMd PB 158 = d_T_columnNamed := rfl
  obtain ⟨r, hr⟩ : ∃ r : aR, r = (1, (0, v), m, XX) := ⟨_, rfl⟩
  have h9 : aT PB 3 158 r (fun w => r = (1, (0, w), m, XX)) (fT_columnNamed m x1 x2 x3) (0, [(14, 12), (11, x1), (0, x2), (0, x3), (99, 0)], [], m, XX) := by
    unfold fT_columnNamed
    refine T_run hD 2 (c' := (3, [(14, 12), (11, x1), (0, x2), (0, x3), (0, 0)], [], m, XX)) rfl ?_
    exact tT_columnNamed_3 r m x1 x2 x3 0 hx1 
  rw [← hr]
  exact h9 v hv hr
abbrev hC_endOfDigits_2 (m : aM) (x0 : Int) : (Int) → aC → Prop := fun y c => ∃ (z1 : aV), c = (2, [(11, x0), z1, (0, (y))], [], m, XX)
def fC_endOfDigits_2_b (m : aM) (x0 : Int) : (Int) → Option ((Int) ⊕ Int) := fun (x2) =>
  if x2 < m x0 1 then
    (fC_at m x0 x2).bind fun v1 =>
    if fX_isDigit v1 = 0 then
      (fC_at m x0 x2).bind fun v2 =>
      if v2 = 45 then
        some (Sum.inl (w32 (x2 + 1)))
      else
        some (Sum.inr (x2))
    else
      some (Sum.inl (w32 (x2 + 1)))
  else
    some (Sum.inr (x2))
def fC_endOfDigits_2 (m : aM) (x0 : Int) (x2 : Int) : Option Int := aLoop (fC_endOfDigits_2_b m x0) FU (x2)
set_option maxRecDepth 100000 in
theorem tC_endOfDigits_2 (r : aR) (m : aM) (x0 : Int) (x2 : Int) (hx0 : ck x0) (z1 : aV) : aT PB 2 114 r (fun w => r = (1, (0, w), m, XX)) (fC_endOfDigits_2 m x0 x2) (2, [(11, x0), z1, (0, x2)], [], m, XX) := by
  have hD : aMd PB 114 = d_C_endOfDigits := rfl
  refine T_loop (Hd := (hC_endOfDigits_2 m x0)) ?_ FU _ _ ⟨z1, rfl⟩
  clear x2 z1
  intro x2 c hc
  obtain ⟨z1, rfl⟩ := hc
  unfold fC_endOfDigits_2_b
  try dsimp only
  refine T_run hD 3 (c' := (7, [(11, x0), z1, (0, x2)], [(0, m x0 1), (0, x2)], m, XX)) rfl ?_
  refine T_if hD (c1 := (10, _, _, _, _)) (c2 := (37, _, _, _, _)) rfl (fun _ => ?_) (fun _ => ?_)
  · refine T_run hD 2 (c' := (12, [(11, x0), z1, (0, x2)], [(0, x2), (11, x0)], m, XX)) rfl ?_
    refine T_call hD (D2 := d_C_at) (q2 := 107) (as := [(11, x0), (0, x2)]) (c1 := (15, [(11, x0), z1, (0, x2)], [], m, XX)) (mk := fun w => (1, (0, w), m, XX)) (cc := fun v1 => (15, [(11, x0), z1, (0, x2)], [(0, v1)], m, XX)) rfl rfl (fun y9 h9y => Go.mono (tC_at m x0 x2 hx0 y9 h9y) (by decide)) (fun _ => rfl) (fun v1 => ?_)
    refine T_call0 hD (D2 := d_X_isDigit) (q2 := 18) (as := [(0, v1)]) (c1 := (18, [(11, x0), z1, (0, x2)], [], m, XX)) (r2 := (1, (0, fX_isDigit v1), m, XX)) (c2 := (18, [(11, x0), z1, (0, x2)], [(0, fX_isDigit v1)], m, XX)) rfl rfl (Go.mono (tX_isDigit m v1) (by decide)) rfl ?_
    refine T_if hD (c1 := (21, _, _, _, _)) (c2 := (31, _, _, _, _)) rfl (fun _ => ?_) (fun _ => ?_)
    · refine T_run hD 2 (c' := (23, [(11, x0), z1, (0, x2)], [(0, x2), (11, x0)], m, XX)) rfl ?_
      refine T_call hD (D2 := d_C_at) (q2 := 107) (as := [(11, x0), (0, x2)]) (c1 := (26, [(11, x0), z1, (0, x2)], [], m, XX)) (mk := fun w => (1, (0, w), m, XX)) (cc := fun v2 => (26, [(11, x0), z1, (0, x2)], [(0, v2)], m, XX)) rfl rfl (fun y9 h9y => Go.mono (tC_at m x0 x2 hx0 y9 h9y) (by decide)) (fun _ => rfl) (fun v2 => ?_)
      refine T_run hD 1 (c' := (28, [(11, x0), z1, (0, x2)], [(0, 45), (0, v2)], m, XX)) rfl ?_
      refine T_if hD (c1 := (31, _, _, _, _)) (c2 := (37, _, _, _, _)) rfl (fun _ => ?_) (fun _ => ?_)
      · refine T_run hD 2 (c' := (2, [(11, x0), aJ z1, (0, w32 (x2 + 1))], [], m, XX)) rfl ?_
        exact T_back0 ⟨_, rfl⟩
      · refine T_run hD 1 (c' := (38, [(11, x0), z1, (0, x2)], [(0, x2)], m, XX)) rfl ?_
        exact T_fin hD rfl (fun h => h)
    · refine T_run hD 2 (c' := (2, [(11, x0), aJ z1, (0, w32 (x2 + 1))], [], m, XX)) rfl ?_
      exact T_back0 ⟨_, rfl⟩
  · refine T_run hD 1 (c' := (38, [(11, x0), z1, (0, x2)], [(0, x2)], m, XX)) rfl ?_
    exact T_fin hD rfl (fun h => h)
def fC_endOfDigits (m : aM) (x0 : Int) (x1 : Int) : Option Int :=
  fC_endOfDigits_2 m x0 x1
set_option maxRecDepth 100000 in
theorem tC_endOfDigits (m : aM) (x0 : Int) (x1 : Int) (hx0 : ck x0) : ∀ v, fC_endOfDigits m x0 x1 = some v → Go PB 2 114 (aEnt d_C_endOfDigits [(11, x0), (0, x1)] m XX) (1, (0, v), m, XX) := by
  intro v hv
  have hD : aMd PB 114 = d_C_endOfDigits := rfl
  obtain ⟨r, hr⟩ : ∃ r : aR, r = (1, (0, v), m, XX) := ⟨_, rfl⟩
  have h9 : aT PB 2 114 r (fun w => r = (1, (0, w), m, XX)) (fC_endOfDigits m x0 x1) (0, [(11, x0), (0, x1), (99, 0)], [], m, XX) := by
    unfold fC_endOfDigits
    refine T_run hD 2 (c' := (2, [(11, x0), (0, x1), (0, x1)], [], m, XX)) rfl ?_
    exact tC_endOfDigits_2 r m x0 x1 hx0 (0, x1)
  rw [← hr]
  exact h9 v hv hr
abbrev hC_placeOf_2 (m : aM) (x0 : Int) (x1 : Int) : (Int) → aC → Prop := fun y c => ∃ (z2 : aV), c = (2, [(11, x0), (0, x1), z2, (0, (y))], [], m, XX)
def fC_placeOf_2_b (m : aM) (x0 : Int) (x1 : Int) : (Int) → Option ((Int) ⊕ Int) := fun (x3) =>
  if x3 < m x0 1 then
    (fC_at m x0 x3).bind fun v1 =>
    if v1 = x1 then
      some (Sum.inr (x3))
    else
      some (Sum.inl (w32 (x3 + 1)))
  else
    some (Sum.inr (x3))
def fC_placeOf_2 (m : aM) (x0 : Int) (x1 : Int) (x3 : Int) : Option Int := aLoop (fC_placeOf_2_b m x0 x1) FU (x3)
set_option maxRecDepth 100000 in
theorem tC_placeOf_2 (r : aR) (m : aM) (x0 : Int) (x1 : Int) (x3 : Int) (hx0 : ck x0) (z2 : aV) : aT PB 2 115 r (fun w => r = (1, (0, w), m, XX)) (fC_placeOf_2 m x0 x1 x3) (2, [(11, x0), (0, x1), z2, (0, x3)], [], m, XX) := by
  have hD : aMd PB 115 = d_C_placeOf := rfl
  refine T_loop (Hd := (hC_placeOf_2 m x0 x1)) ?_ FU _ _ ⟨z2, rfl⟩
  clear x3 z2
  intro x3 c hc
  obtain ⟨z2, rfl⟩ := hc
  unfold fC_placeOf_2_b
  try dsimp only
  refine T_run hD 3 (c' := (7, [(11, x0), (0, x1), z2, (0, x3)], [(0, m x0 1), (0, x3)], m, XX)) rfl ?_
  refine T_if hD (c1 := (10, _, _, _, _)) (c2 := (25, _, _, _, _)) rfl (fun _ => ?_) (fun _ => ?_)
  · refine T_run hD 2 (c' := (12, [(11, x0), (0, x1), z2, (0, x3)], [(0, x3), (11, x0)], m, XX)) rfl ?_
    refine T_call hD (D2 := d_C_at) (q2 := 107) (as := [(11, x0), (0, x3)]) (c1 := (15, [(11, x0), (0, x1), z2, (0, x3)], [], m, XX)) (mk := fun w => (1, (0, w), m, XX)) (cc := fun v1 => (15, [(11, x0), (0, x1), z2, (0, x3)], [(0, v1)], m, XX)) rfl rfl (fun y9 h9y => Go.mono (tC_at m x0 x3 hx0 y9 h9y) (by decide)) (fun _ => rfl) (fun v1 => ?_)
    refine T_run hD 1 (c' := (16, [(11, x0), (0, x1), z2, (0, x3)], [(0, x1), (0, v1)], m, XX)) rfl ?_
    refine T_if hD (c1 := (25, _, _, _, _)) (c2 := (19, _, _, _, _)) rfl (fun _ => ?_) (fun _ => ?_)
    · refine T_run hD 1 (c' := (26, [(11, x0), (0, x1), z2, (0, x3)], [(0, x3)], m, XX)) rfl ?_
      exact T_fin hD rfl (fun h => h)
    · refine T_run hD 2 (c' := (2, [(11, x0), (0, x1), aJ z2, (0, w32 (x3 + 1))], [], m, XX)) rfl ?_
      exact T_back0 ⟨_, rfl⟩
  · refine T_run hD 1 (c' := (26, [(11, x0), (0, x1), z2, (0, x3)], [(0, x3)], m, XX)) rfl ?_
    exact T_fin hD rfl (fun h => h)
def fC_placeOf (m : aM) (x0 : Int) (x1 : Int) (x2 : Int) : Option Int :=
  fC_placeOf_2 m x0 x1 x2
set_option maxRecDepth 100000 in
theorem tC_placeOf (m : aM) (x0 : Int) (x1 : Int) (x2 : Int) (hx0 : ck x0) : ∀ v, fC_placeOf m x0 x1 x2 = some v → Go PB 2 115 (aEnt d_C_placeOf [(11, x0), (0, x1), (0, x2)] m XX) (1, (0, v), m, XX) := by
  intro v hv
  have hD : aMd PB 115 = d_C_placeOf := rfl
  obtain ⟨r, hr⟩ : ∃ r : aR, r = (1, (0, v), m, XX) := ⟨_, rfl⟩
  have h9 : aT PB 2 115 r (fun w => r = (1, (0, w), m, XX)) (fC_placeOf m x0 x1 x2) (0, [(11, x0), (0, x1), (0, x2), (99, 0)], [], m, XX) := by
    unfold fC_placeOf
    refine T_run hD 2 (c' := (2, [(11, x0), (0, x1), (0, x2), (0, x2)], [], m, XX)) rfl ?_
    exact tC_placeOf_2 r m x0 x1 x2 hx0 (0, x2)
  rw [← hr]
  exact h9 v hv hr
def fJG_compare (x0 : Int) (x2 : Int) : Int :=
  if cmp3 x0 x2 < 0 then
    (-1)
  else
    if cmp3 x0 x2 = 0 then
      0
    else
      1
set_option maxRecDepth 100000 in
theorem tJG_compare (m : aM) (x0 : Int) (x2 : Int) : Go PB 1 206 (aEnt d_JG_compare [(1, x0), (1, x2)] m XX) (1, (0, (fJG_compare x0 x2)), m, XX) := by
  have hD : aMd PB 206 = d_JG_compare := rfl
  show aU PB 1 206 (fun w => (1, (0, w), m, XX)) (fJG_compare x0 x2) (0, [(1, x0), (99, 0), (1, x2), (99, 0)], [], m, XX)
  unfold fJG_compare
  refine U_run hD 3 (c' := (3, [(1, x0), (99, 0), (1, x2), (99, 0)], [(0, cmp3 x0 x2)], m, XX)) rfl ?_
  refine U_if hD (c1 := (6, _, _, _, _)) (c2 := (10, _, _, _, _)) rfl (fun _ => ?_) (fun _ => ?_)
  · refine U_run hD 2 (c' := (21, [(1, x0), (99, 0), (1, x2), (99, 0)], [(0, (-1))], m, XX)) rfl ?_
    exact Go.fin hD rfl
  · refine U_run hD 3 (c' := (13, [(1, x0), (99, 0), (1, x2), (99, 0)], [(0, cmp3 x0 x2)], m, XX)) rfl ?_
    refine U_if hD (c1 := (16, _, _, _, _)) (c2 := (20, _, _, _, _)) rfl (fun _ => ?_) (fun _ => ?_)
    · refine U_run hD 2 (c' := (21, [(1, x0), (99, 0), (1, x2), (99, 0)], [(0, 0)], m, XX)) rfl ?_
      exact Go.fin hD rfl
    · refine U_run hD 1 (c' := (21, [(1, x0), (99, 0), (1, x2), (99, 0)], [(0, 1)], m, XX)) rfl ?_
      exact Go.fin hD rfl
def fT_compareCells (m : aM) (x1 : Int) (x2 : Int) (x3 : Int) (x4 : Int) : Option Int :=
  if fT_cellAt m x1 x2 = (-1) then
    some (0)
  else
    if fT_cellAt m x3 x4 = (-1) then
      some (0)
    else
      (fT_typeAt m x2).bind fun v1 =>
      if v1 = 3 then
        gd (0 ≤ fT_cellAt m x1 x2 ∧ fT_cellAt m x1 x2 < 102) (
        gd (0 ≤ fT_cellAt m x3 x4 ∧ fT_cellAt m x3 x4 < 102) (
        (fC_compareWith m 13 (m 15 (fT_cellAt m x1 x2)) (m 16 (fT_cellAt m x1 x2)) 13 (m 15 (fT_cellAt m x3 x4)) (m 16 (fT_cellAt m x3 x4))).bind fun v4 =>
        some (v4)))
      else
        gd (0 ≤ fT_cellAt m x1 x2 ∧ fT_cellAt m x1 x2 < 102) (
        gd (0 ≤ fT_cellAt m x3 x4 ∧ fT_cellAt m x3 x4 < 102) (
        some (fJG_compare (m 19 (fT_cellAt m x1 x2)) (m 19 (fT_cellAt m x3 x4)))))
set_option maxRecDepth 100000 in
theorem tT_compareCells (m : aM) (x1 : Int) (x2 : Int) (x3 : Int) (x4 : Int) : ∀ v, fT_compareCells m x1 x2 x3 x4 = some v → Go PB 3 159 (aEnt d_T_compareCells [(14, 12), (0, x1), (0, x2), (0, x3), (0, x4)] m XX) (1, (0, v), m, XX) := by
  intro v hv
  have hD : aMd PB 159 = d_T_compareCells := rfl
  obtain ⟨r, hr⟩ : ∃ r : aR, r = (1, (0, v), m, XX) := ⟨_, rfl⟩
  have h9 : aT PB 3 159 r (fun w => r = (1, (0, w), m, XX)) (fT_compareCells m x1 x2 x3 x4) (0, [(14, 12), (0, x1), (0, x2), (0, x3), (0, x4), (99, 0), (99, 0)], [], m, XX) := by
    unfold fT_compareCells
    refine T_run hD 3 (c' := (3, [(14, 12), (0, x1), (0, x2), (0, x3), (0, x4), (99, 0), (99, 0)], [(0, x2), (0, x1), (14, 12)], m, XX)) rfl ?_
    refine T_call0 hD (D2 := d_T_cellAt) (q2 := 167) (as := [(14, 12), (0, x1), (0, x2)]) (c1 := (6, [(14, 12), (0, x1), (0, x2), (0, x3), (0, x4), (99, 0), (99, 0)], [], m, XX)) (r2 := (1, (0, fT_cellAt m x1 x2), m, XX)) (c2 := (6, [(14, 12), (0, x1), (0, x2), (0, x3), (0, x4), (99, 0), (99, 0)], [(0, fT_cellAt m x1 x2)], m, XX)) rfl rfl (Go.mono (tT_cellAt m x1 x2) (by decide)) rfl ?_
    refine T_run hD 4 (c' := (12, [(14, 12), (0, x1), (0, x2), (0, x3), (0, x4), (0, fT_cellAt m x1 x2), (99, 0)], [(0, x4), (0, x3), (14, 12)], m, XX)) rfl ?_
    refine T_call0 hD (D2 := d_T_cellAt) (q2 := 167) (as := [(14, 12), (0, x3), (0, x4)]) (c1 := (15, [(14, 12), (0, x1), (0, x2), (0, x3), (0, x4), (0, fT_cellAt m x1 x2), (99, 0)], [], m, XX)) (r2 := (1, (0, fT_cellAt m x3 x4), m, XX)) (c2 := (15, [(14, 12), (0, x1), (0, x2), (0, x3), (0, x4), (0, fT_cellAt m x1 x2), (99, 0)], [(0, fT_cellAt m x3 x4)], m, XX)) rfl rfl (Go.mono (tT_cellAt m x3 x4) (by decide)) rfl ?_
    refine T_run hD 3 (c' := (20, [(14, 12), (0, x1), (0, x2), (0, x3), (0, x4), (0, fT_cellAt m x1 x2), (0, fT_cellAt m x3 x4)], [(0, (-1)), (0, fT_cellAt m x1 x2)], m, XX)) rfl ?_
    refine T_if hD (c1 := (29, _, _, _, _)) (c2 := (23, _, _, _, _)) rfl (fun _ => ?_) (fun _ => ?_)
    · refine T_run hD 1 (c' := (30, [(14, 12), (0, x1), (0, x2), (0, x3), (0, x4), (0, fT_cellAt m x1 x2), (0, fT_cellAt m x3 x4)], [(0, 0)], m, XX)) rfl ?_
      exact T_fin hD rfl (fun h => h)
    · refine T_run hD 2 (c' := (26, [(14, 12), (0, x1), (0, x2), (0, x3), (0, x4), (0, fT_cellAt m x1 x2), (0, fT_cellAt m x3 x4)], [(0, (-1)), (0, fT_cellAt m x3 x4)], m, XX)) rfl ?_
      refine T_if hD (c1 := (29, _, _, _, _)) (c2 := (31, _, _, _, _)) rfl (fun _ => ?_) (fun _ => ?_)
      · refine T_run hD 1 (c' := (30, [(14, 12), (0, x1), (0, x2), (0, x3), (0, x4), (0, fT_cellAt m x1 x2), (0, fT_cellAt m x3 x4)], [(0, 0)], m, XX)) rfl ?_
        exact T_fin hD rfl (fun h => h)
      · refine T_run hD 2 (c' := (33, [(14, 12), (0, x1), (0, x2), (0, x3), (0, x4), (0, fT_cellAt m x1 x2), (0, fT_cellAt m x3 x4)], [(0, x2), (14, 12)], m, XX)) rfl ?_
        refine T_call hD (D2 := d_T_typeAt) (q2 := 155) (as := [(14, 12), (0, x2)]) (c1 := (36, [(14, 12), (0, x1), (0, x2), (0, x3), (0, x4), (0, fT_cellAt m x1 x2), (0, fT_cellAt m x3 x4)], [], m, XX)) (mk := fun w => (1, (0, w), m, XX)) (cc := fun v1 => (36, [(14, 12), (0, x1), (0, x2), (0, x3), (0, x4), (0, fT_cellAt m x1 x2), (0, fT_cellAt m x3 x4)], [(0, v1)], m, XX)) rfl rfl (fun y9 h9y => Go.mono (tT_typeAt m x2 y9 h9y) (by decide)) (fun _ => rfl) (fun v1 => ?_)
        refine T_run hD 1 (c' := (37, [(14, 12), (0, x1), (0, x2), (0, x3), (0, x4), (0, fT_cellAt m x1 x2), (0, fT_cellAt m x3 x4)], [(0, 3), (0, v1)], m, XX)) rfl ?_
        refine T_if hD (c1 := (40, _, _, _, _)) (c2 := (82, _, _, _, _)) rfl (fun _ => ?_) (fun _ => ?_)
        · refine T_run hD 5 (c' := (50, [(14, 12), (0, x1), (0, x2), (0, x3), (0, x4), (0, fT_cellAt m x1 x2), (0, fT_cellAt m x3 x4)], [(0, fT_cellAt m x1 x2), (31, 15), (11, 13)], m, XX)) rfl ?_
          refine T_gd hD (c1 := (51, [(14, 12), (0, x1), (0, x2), (0, x3), (0, x4), (0, fT_cellAt m x1 x2), (0, fT_cellAt m x3 x4)], [(0, m 15 (fT_cellAt m x1 x2)), (11, 13)], m, XX)) rfl (fun g2 => ?_)
          refine T_run hD 3 (c' := (57, [(14, 12), (0, x1), (0, x2), (0, x3), (0, x4), (0, fT_cellAt m x1 x2), (0, fT_cellAt m x3 x4)], [(0, fT_cellAt m x1 x2), (31, 16), (0, m 15 (fT_cellAt m x1 x2)), (11, 13)], m, XX)) rfl ?_
          refine T_gk hD (c1 := (58, [(14, 12), (0, x1), (0, x2), (0, x3), (0, x4), (0, fT_cellAt m x1 x2), (0, fT_cellAt m x3 x4)], [(0, m 16 (fT_cellAt m x1 x2)), (0, m 15 (fT_cellAt m x1 x2)), (11, 13)], m, XX)) (P := 0 ≤ fT_cellAt m x1 x2 ∧ fT_cellAt m x1 x2 < 102) rfl g2 ?_
          refine T_run hD 5 (c' := (68, [(14, 12), (0, x1), (0, x2), (0, x3), (0, x4), (0, fT_cellAt m x1 x2), (0, fT_cellAt m x3 x4)], [(0, fT_cellAt m x3 x4), (31, 15), (11, 13), (0, m 16 (fT_cellAt m x1 x2)), (0, m 15 (fT_cellAt m x1 x2)), (11, 13)], m, XX)) rfl ?_
          refine T_gd hD (c1 := (69, [(14, 12), (0, x1), (0, x2), (0, x3), (0, x4), (0, fT_cellAt m x1 x2), (0, fT_cellAt m x3 x4)], [(0, m 15 (fT_cellAt m x3 x4)), (11, 13), (0, m 16 (fT_cellAt m x1 x2)), (0, m 15 (fT_cellAt m x1 x2)), (11, 13)], m, XX)) rfl (fun g3 => ?_)
          refine T_run hD 3 (c' := (75, [(14, 12), (0, x1), (0, x2), (0, x3), (0, x4), (0, fT_cellAt m x1 x2), (0, fT_cellAt m x3 x4)], [(0, fT_cellAt m x3 x4), (31, 16), (0, m 15 (fT_cellAt m x3 x4)), (11, 13), (0, m 16 (fT_cellAt m x1 x2)), (0, m 15 (fT_cellAt m x1 x2)), (11, 13)], m, XX)) rfl ?_
          refine T_gk hD (c1 := (76, [(14, 12), (0, x1), (0, x2), (0, x3), (0, x4), (0, fT_cellAt m x1 x2), (0, fT_cellAt m x3 x4)], [(0, m 16 (fT_cellAt m x3 x4)), (0, m 15 (fT_cellAt m x3 x4)), (11, 13), (0, m 16 (fT_cellAt m x1 x2)), (0, m 15 (fT_cellAt m x1 x2)), (11, 13)], m, XX)) (P := 0 ≤ fT_cellAt m x3 x4 ∧ fT_cellAt m x3 x4 < 102) rfl g3 ?_
          refine T_call hD (D2 := d_C_compareWith) (q2 := 117) (as := [(11, 13), (0, m 15 (fT_cellAt m x1 x2)), (0, m 16 (fT_cellAt m x1 x2)), (11, 13), (0, m 15 (fT_cellAt m x3 x4)), (0, m 16 (fT_cellAt m x3 x4))]) (c1 := (79, [(14, 12), (0, x1), (0, x2), (0, x3), (0, x4), (0, fT_cellAt m x1 x2), (0, fT_cellAt m x3 x4)], [], m, XX)) (mk := fun w => (1, (0, w), m, XX)) (cc := fun v4 => (79, [(14, 12), (0, x1), (0, x2), (0, x3), (0, x4), (0, fT_cellAt m x1 x2), (0, fT_cellAt m x3 x4)], [(0, v4)], m, XX)) rfl rfl (fun y9 h9y => Go.mono (tC_compareWith m 13 (m 15 (fT_cellAt m x1 x2)) (m 16 (fT_cellAt m x1 x2)) 13 (m 15 (fT_cellAt m x3 x4)) (m 16 (fT_cellAt m x3 x4)) (by decide) (by decide) y9 h9y) (by decide)) (fun _ => rfl) (fun v4 => ?_)
          refine T_run hD 1 (c' := (99, [(14, 12), (0, x1), (0, x2), (0, x3), (0, x4), (0, fT_cellAt m x1 x2), (0, fT_cellAt m x3 x4)], [(0, v4)], m, XX)) rfl ?_
          exact T_fin hD rfl (fun h => h)
        · refine T_run hD 3 (c' := (88, [(14, 12), (0, x1), (0, x2), (0, x3), (0, x4), (0, fT_cellAt m x1 x2), (0, fT_cellAt m x3 x4)], [(0, fT_cellAt m x1 x2), (32, 19)], m, XX)) rfl ?_
          refine T_gd hD (c1 := (89, [(14, 12), (0, x1), (0, x2), (0, x3), (0, x4), (0, fT_cellAt m x1 x2), (0, fT_cellAt m x3 x4)], [(1, m 19 (fT_cellAt m x1 x2))], m, XX)) rfl (fun g5 => ?_)
          refine T_run hD 3 (c' := (95, [(14, 12), (0, x1), (0, x2), (0, x3), (0, x4), (0, fT_cellAt m x1 x2), (0, fT_cellAt m x3 x4)], [(0, fT_cellAt m x3 x4), (32, 19), (1, m 19 (fT_cellAt m x1 x2))], m, XX)) rfl ?_
          refine T_gd hD (c1 := (96, [(14, 12), (0, x1), (0, x2), (0, x3), (0, x4), (0, fT_cellAt m x1 x2), (0, fT_cellAt m x3 x4)], [(1, m 19 (fT_cellAt m x3 x4)), (1, m 19 (fT_cellAt m x1 x2))], m, XX)) rfl (fun g6 => ?_)
          refine T_call0 hD (D2 := d_JG_compare) (q2 := 206) (as := [(1, m 19 (fT_cellAt m x1 x2)), (1, m 19 (fT_cellAt m x3 x4))]) (c1 := (99, [(14, 12), (0, x1), (0, x2), (0, x3), (0, x4), (0, fT_cellAt m x1 x2), (0, fT_cellAt m x3 x4)], [], m, XX)) (r2 := (1, (0, fJG_compare (m 19 (fT_cellAt m x1 x2)) (m 19 (fT_cellAt m x3 x4))), m, XX)) (c2 := (99, [(14, 12), (0, x1), (0, x2), (0, x3), (0, x4), (0, fT_cellAt m x1 x2), (0, fT_cellAt m x3 x4)], [(0, fJG_compare (m 19 (fT_cellAt m x1 x2)) (m 19 (fT_cellAt m x3 x4)))], m, XX)) rfl rfl (Go.mono (tJG_compare m (m 19 (fT_cellAt m x1 x2)) (m 19 (fT_cellAt m x3 x4))) (by decide)) rfl ?_
          exact T_fin hD rfl (fun h => h)
  rw [← hr]
  exact h9 v hv hr
def fT_compareWithToken (m : aM) (x1 : Int) (x2 : Int) (x3 : Int) (x4 : Int) : Option Int :=
  if fT_cellAt m x1 x2 = (-1) then
    some (0)
  else
    (fT_typeAt m x2).bind fun v1 =>
    if v1 = 3 then
      gd (0 ≤ fT_cellAt m x1 x2 ∧ fT_cellAt m x1 x2 < 102) (
      (fC_compareWith m 13 (m 15 (fT_cellAt m x1 x2)) (m 16 (fT_cellAt m x1 x2)) x4 (w32 ((m x3 1) + 1)) (w32 ((m x3 2) - 1))).bind fun v3 =>
      some (v3))
    else
      gd (0 ≤ fT_cellAt m x1 x2 ∧ fT_cellAt m x1 x2 < 102) (
      some (fJG_compare (m 19 (fT_cellAt m x1 x2)) (m x3 6)))
set_option maxRecDepth 100000 in
theorem tT_compareWithToken (m : aM) (x1 : Int) (x2 : Int) (x3 : Int) (x4 : Int) (hx4 : ck x4) : ∀ v, fT_compareWithToken m x1 x2 x3 x4 = some v → Go PB 3 160 (aEnt d_T_compareWithToken [(14, 12), (0, x1), (0, x2), (15, x3), (11, x4)] m XX) (1, (0, v), m, XX) := by
  intro v hv
  have hD : aMd PB 160 = d_T_compareWithToken := rfl
  obtain ⟨r, hr⟩ : ∃ r : aR, r = (1, (0, v), m, XX) := ⟨_, rfl⟩
  have h9 : aT PB 3 160 r (fun w => r = (1, (0, w), m, XX)) (fT_compareWithToken m x1 x2 x3 x4) (0, [(14, 12), (0, x1), (0, x2), (15, x3), (11, x4), (99, 0)], [], m, XX) := by
    unfold fT_compareWithToken
    refine T_run hD 3 (c' := (3, [(14, 12), (0, x1), (0, x2), (15, x3), (11, x4), (99, 0)], [(0, x2), (0, x1), (14, 12)], m, XX)) rfl ?_
    refine T_call0 hD (D2 := d_T_cellAt) (q2 := 167) (as := [(14, 12), (0, x1), (0, x2)]) (c1 := (6, [(14, 12), (0, x1), (0, x2), (15, x3), (11, x4), (99, 0)], [], m, XX)) (r2 := (1, (0, fT_cellAt m x1 x2), m, XX)) (c2 := (6, [(14, 12), (0, x1), (0, x2), (15, x3), (11, x4), (99, 0)], [(0, fT_cellAt m x1 x2)], m, XX)) rfl rfl (Go.mono (tT_cellAt m x1 x2) (by decide)) rfl ?_
    refine T_run hD 3 (c' := (11, [(14, 12), (0, x1), (0, x2), (15, x3), (11, x4), (0, fT_cellAt m x1 x2)], [(0, (-1)), (0, fT_cellAt m x1 x2)], m, XX)) rfl ?_
    refine T_if hD (c1 := (14, _, _, _, _)) (c2 := (16, _, _, _, _)) rfl (fun _ => ?_) (fun _ => ?_)
    · refine T_run hD 1 (c' := (15, [(14, 12), (0, x1), (0, x2), (15, x3), (11, x4), (0, fT_cellAt m x1 x2)], [(0, 0)], m, XX)) rfl ?_
      exact T_fin hD rfl (fun h => h)
    · refine T_run hD 2 (c' := (18, [(14, 12), (0, x1), (0, x2), (15, x3), (11, x4), (0, fT_cellAt m x1 x2)], [(0, x2), (14, 12)], m, XX)) rfl ?_
      refine T_call hD (D2 := d_T_typeAt) (q2 := 155) (as := [(14, 12), (0, x2)]) (c1 := (21, [(14, 12), (0, x1), (0, x2), (15, x3), (11, x4), (0, fT_cellAt m x1 x2)], [], m, XX)) (mk := fun w => (1, (0, w), m, XX)) (cc := fun v1 => (21, [(14, 12), (0, x1), (0, x2), (15, x3), (11, x4), (0, fT_cellAt m x1 x2)], [(0, v1)], m, XX)) rfl rfl (fun y9 h9y => Go.mono (tT_typeAt m x2 y9 h9y) (by decide)) (fun _ => rfl) (fun v1 => ?_)
      refine T_run hD 1 (c' := (22, [(14, 12), (0, x1), (0, x2), (15, x3), (11, x4), (0, fT_cellAt m x1 x2)], [(0, 3), (0, v1)], m, XX)) rfl ?_
      refine T_if hD (c1 := (25, _, _, _, _)) (c2 := (63, _, _, _, _)) rfl (fun _ => ?_) (fun _ => ?_)
      · refine T_run hD 5 (c' := (35, [(14, 12), (0, x1), (0, x2), (15, x3), (11, x4), (0, fT_cellAt m x1 x2)], [(0, fT_cellAt m x1 x2), (31, 15), (11, 13)], m, XX)) rfl ?_
        refine T_gd hD (c1 := (36, [(14, 12), (0, x1), (0, x2), (15, x3), (11, x4), (0, fT_cellAt m x1 x2)], [(0, m 15 (fT_cellAt m x1 x2)), (11, 13)], m, XX)) rfl (fun g2 => ?_)
        refine T_run hD 3 (c' := (42, [(14, 12), (0, x1), (0, x2), (15, x3), (11, x4), (0, fT_cellAt m x1 x2)], [(0, fT_cellAt m x1 x2), (31, 16), (0, m 15 (fT_cellAt m x1 x2)), (11, 13)], m, XX)) rfl ?_
        refine T_gk hD (c1 := (43, [(14, 12), (0, x1), (0, x2), (15, x3), (11, x4), (0, fT_cellAt m x1 x2)], [(0, m 16 (fT_cellAt m x1 x2)), (0, m 15 (fT_cellAt m x1 x2)), (11, 13)], m, XX)) (P := 0 ≤ fT_cellAt m x1 x2 ∧ fT_cellAt m x1 x2 < 102) rfl g2 ?_
        refine T_run hD 9 (c' := (57, [(14, 12), (0, x1), (0, x2), (15, x3), (11, x4), (0, fT_cellAt m x1 x2)], [(0, w32 ((m x3 2) - 1)), (0, w32 ((m x3 1) + 1)), (11, x4), (0, m 16 (fT_cellAt m x1 x2)), (0, m 15 (fT_cellAt m x1 x2)), (11, 13)], m, XX)) rfl ?_
        refine T_call hD (D2 := d_C_compareWith) (q2 := 117) (as := [(11, 13), (0, m 15 (fT_cellAt m x1 x2)), (0, m 16 (fT_cellAt m x1 x2)), (11, x4), (0, w32 ((m x3 1) + 1)), (0, w32 ((m x3 2) - 1))]) (c1 := (60, [(14, 12), (0, x1), (0, x2), (15, x3), (11, x4), (0, fT_cellAt m x1 x2)], [], m, XX)) (mk := fun w => (1, (0, w), m, XX)) (cc := fun v3 => (60, [(14, 12), (0, x1), (0, x2), (15, x3), (11, x4), (0, fT_cellAt m x1 x2)], [(0, v3)], m, XX)) rfl rfl (fun y9 h9y => Go.mono (tC_compareWith m 13 (m 15 (fT_cellAt m x1 x2)) (m 16 (fT_cellAt m x1 x2)) x4 (w32 ((m x3 1) + 1)) (w32 ((m x3 2) - 1)) (by decide) hx4 y9 h9y) (by decide)) (fun _ => rfl) (fun v3 => ?_)
        refine T_run hD 1 (c' := (77, [(14, 12), (0, x1), (0, x2), (15, x3), (11, x4), (0, fT_cellAt m x1 x2)], [(0, v3)], m, XX)) rfl ?_
        exact T_fin hD rfl (fun h => h)
      · refine T_run hD 3 (c' := (69, [(14, 12), (0, x1), (0, x2), (15, x3), (11, x4), (0, fT_cellAt m x1 x2)], [(0, fT_cellAt m x1 x2), (32, 19)], m, XX)) rfl ?_
        refine T_gd hD (c1 := (70, [(14, 12), (0, x1), (0, x2), (15, x3), (11, x4), (0, fT_cellAt m x1 x2)], [(1, m 19 (fT_cellAt m x1 x2))], m, XX)) rfl (fun g4 => ?_)
        refine T_run hD 2 (c' := (74, [(14, 12), (0, x1), (0, x2), (15, x3), (11, x4), (0, fT_cellAt m x1 x2)], [(1, m x3 6), (1, m 19 (fT_cellAt m x1 x2))], m, XX)) rfl ?_
        refine T_call0 hD (D2 := d_JG_compare) (q2 := 206) (as := [(1, m 19 (fT_cellAt m x1 x2)), (1, m x3 6)]) (c1 := (77, [(14, 12), (0, x1), (0, x2), (15, x3), (11, x4), (0, fT_cellAt m x1 x2)], [], m, XX)) (r2 := (1, (0, fJG_compare (m 19 (fT_cellAt m x1 x2)) (m x3 6)), m, XX)) (c2 := (77, [(14, 12), (0, x1), (0, x2), (15, x3), (11, x4), (0, fT_cellAt m x1 x2)], [(0, fJG_compare (m 19 (fT_cellAt m x1 x2)) (m x3 6))], m, XX)) rfl rfl (Go.mono (tJG_compare m (m 19 (fT_cellAt m x1 x2)) (m x3 6)) (by decide)) rfl ?_
        exact T_fin hD rfl (fun h => h)
  rw [← hr]
  exact h9 v hv hr
def fT_compareRows_26 (m : aM) (x4 : Int) (x5 : Int) : Option Int :=
  if x4 = x5 then
    some (0)
  else
    if x4 = 0 then
      some (1)
    else
      some ((-1))
set_option maxRecDepth 100000 in
theorem tT_compareRows_26 (r : aR) (m : aM) (x4 : Int) (x5 : Int) (z0 : aV) (z1 : aV) (z2 : aV) (z3 : aV) : aT PB 4 161 r (fun w => r = (1, (0, w), m, XX)) (fT_compareRows_26 m x4 x5) (26, [z0, z1, z2, z3, (0, x4), (0, x5)], [], m, XX) := by
  have hD : aMd PB 161 = d_T_compareRows := rfl
  unfold fT_compareRows_26
  refine T_run hD 2 (c' := (30, [z0, z1, z2, z3, (0, x4), (0, x5)], [(0, x5), (0, x4)], m, XX)) rfl ?_
  refine T_if hD (c1 := (33, _, _, _, _)) (c2 := (37, _, _, _, _)) rfl (fun _ => ?_) (fun _ => ?_)
  · refine T_run hD 2 (c' := (47, [z0, z1, z2, z3, (0, x4), (0, x5)], [(0, 0)], m, XX)) rfl ?_
    exact T_fin hD rfl (fun h => h)
  · refine T_run hD 1 (c' := (39, [z0, z1, z2, z3, (0, x4), (0, x5)], [(0, x4)], m, XX)) rfl ?_
    refine T_if hD (c1 := (46, _, _, _, _)) (c2 := (42, _, _, _, _)) rfl (fun _ => ?_) (fun _ => ?_)
    · refine T_run hD 1 (c' := (47, [z0, z1, z2, z3, (0, x4), (0, x5)], [(0, 1)], m, XX)) rfl ?_
      exact T_fin hD rfl (fun h => h)
    · refine T_run hD 2 (c' := (47, [z0, z1, z2, z3, (0, x4), (0, x5)], [(0, (-1))], m, XX)) rfl ?_
      exact T_fin hD rfl (fun h => h)
def fT_compareRows (m : aM) (x1 : Int) (x2 : Int) (x3 : Int) : Option Int :=
  (fT_lacks m x1 x3).bind fun v1 =>
  (fT_lacks m x2 x3).bind fun v2 =>
  if v1 = 0 then
    if v2 = 0 then
      (fT_compareCells m x1 x3 x2 x3).bind fun v3 =>
      some (v3)
    else
      fT_compareRows_26 m v1 v2
  else
    fT_compareRows_26 m v1 v2
set_option maxRecDepth 100000 in
theorem tT_compareRows (m : aM) (x1 : Int) (x2 : Int) (x3 : Int) : ∀ v, fT_compareRows m x1 x2 x3 = some v → Go PB 4 161 (aEnt d_T_compareRows [(14, 12), (0, x1), (0, x2), (0, x3)] m XX) (1, (0, v), m, XX) := by
  intro v hv
  have hD : aMd PB 161 = d_T_compareRows := rfl
  obtain ⟨r, hr⟩ : ∃ r : aR, r = (1, (0, v), m, XX) := ⟨_, rfl⟩
  have h9 : aT PB 4 161 r (fun w => r = (1, (0, w), m, XX)) (fT_compareRows m x1 x2 x3) (0, [(14, 12), (0, x1), (0, x2), (0, x3), (99, 0), (99, 0)], [], m, XX) := by
    unfold fT_compareRows
    refine T_run hD 3 (c' := (3, [(14, 12), (0, x1), (0, x2), (0, x3), (99, 0), (99, 0)], [(0, x3), (0, x1), (14, 12)], m, XX)) rfl ?_
    refine T_call hD (D2 := d_T_lacks) (q2 := 156) (as := [(14, 12), (0, x1), (0, x3)]) (c1 := (6, [(14, 12), (0, x1), (0, x2), (0, x3), (99, 0), (99, 0)], [], m, XX)) (mk := fun w => (1, (0, w), m, XX)) (cc := fun v1 => (6, [(14, 12), (0, x1), (0, x2), (0, x3), (99, 0), (99, 0)], [(0, v1)], m, XX)) rfl rfl (fun y9 h9y => Go.mono (tT_lacks m x1 x3 y9 h9y) (by decide)) (fun _ => rfl) (fun v1 => ?_)
    refine T_run hD 4 (c' := (11, [(14, 12), (0, x1), (0, x2), (0, x3), (0, v1), (99, 0)], [(0, x3), (0, x2), (14, 12)], m, XX)) rfl ?_
    refine T_call hD (D2 := d_T_lacks) (q2 := 156) (as := [(14, 12), (0, x2), (0, x3)]) (c1 := (14, [(14, 12), (0, x1), (0, x2), (0, x3), (0, v1), (99, 0)], [], m, XX)) (mk := fun w => (1, (0, w), m, XX)) (cc := fun v2 => (14, [(14, 12), (0, x1), (0, x2), (0, x3), (0, v1), (99, 0)], [(0, v2)], m, XX)) rfl rfl (fun y9 h9y => Go.mono (tT_lacks m x2 x3 y9 h9y) (by decide)) (fun _ => rfl) (fun v2 => ?_)
    refine T_run hD 2 (c' := (18, [(14, 12), (0, x1), (0, x2), (0, x3), (0, v1), (0, v2)], [(0, v1)], m, XX)) rfl ?_
    refine T_if hD (c1 := (21, _, _, _, _)) (c2 := (26, _, _, _, _)) rfl (fun _ => ?_) (fun _ => ?_)
    · refine T_run hD 1 (c' := (23, [(14, 12), (0, x1), (0, x2), (0, x3), (0, v1), (0, v2)], [(0, v2)], m, XX)) rfl ?_
      refine T_if hD (c1 := (48, _, _, _, _)) (c2 := (26, _, _, _, _)) rfl (fun _ => ?_) (fun _ => ?_)
      · refine T_run hD 5 (c' := (53, [(14, 12), (0, x1), (0, x2), (0, x3), (0, v1), (0, v2)], [(0, x3), (0, x2), (0, x3), (0, x1), (14, 12)], m, XX)) rfl ?_
        refine T_call hD (D2 := d_T_compareCells) (q2 := 159) (as := [(14, 12), (0, x1), (0, x3), (0, x2), (0, x3)]) (c1 := (56, [(14, 12), (0, x1), (0, x2), (0, x3), (0, v1), (0, v2)], [], m, XX)) (mk := fun w => (1, (0, w), m, XX)) (cc := fun v3 => (56, [(14, 12), (0, x1), (0, x2), (0, x3), (0, v1), (0, v2)], [(0, v3)], m, XX)) rfl rfl (fun y9 h9y => Go.mono (tT_compareCells m x1 x3 x2 x3 y9 h9y) (by decide)) (fun _ => rfl) (fun v3 => ?_)
        exact T_fin hD rfl (fun h => h)
      · exact tT_compareRows_26 r m v1 v2 (14, 12) (0, x1) (0, x2) (0, x3)
    · exact tT_compareRows_26 r m v1 v2 (14, 12) (0, x1) (0, x2) (0, x3)
  rw [← hr]
  exact h9 v hv hr
abbrev hT_addStretch_3 (x2 : Int) (x3 : Int) (x4 : Int) : (aM × Int) → aC → Prop := fun y c => ∃ (z1 : aV), c = (3, [(14, 12), z1, (0, x2), (0, x3), (11, x4), (0, (y.2))], [], (y.1), XX)
def fT_addStretch_34 (m : aM) (x2 : Int) (x3 : Int) (x4 : Int) (x5 : Int) : Option ((aM × Int) ⊕ aM) :=
  (fC_at m 13 x5).bind fun v1 =>
  (fC_add m x4 v1).bind fun v2 =>
  some (Sum.inl (v2, w32 (x5 + 1)))
set_option maxRecDepth 100000 in
theorem tT_addStretch_34 (r : aR) (m : aM) (x2 : Int) (x3 : Int) (x4 : Int) (x5 : Int) (hx4 : ck x4) (z1 : aV) : aT PB 2 170 r (aTurn PB 2 170 r (hT_addStretch_3 x2 x3 x4) (fun w => r = (0, (0, 0), w, XX))) (fT_addStretch_34 m x2 x3 x4 x5) (34, [(14, 12), z1, (0, x2), (0, x3), (11, x4), (0, x5)], [], m, XX) := by
  have hD : aMd PB 170 = d_T_addStretch := rfl
  unfold fT_addStretch_34
  refine T_run hD 4 (c' := (42, [(14, 12), z1, (0, x2), (0, x3), (11, x4), (0, x5)], [(0, x5), (11, 13), (11, x4)], m, XX)) rfl ?_
  refine T_call hD (D2 := d_C_at) (q2 := 107) (as := [(11, 13), (0, x5)]) (c1 := (45, [(14, 12), z1, (0, x2), (0, x3), (11, x4), (0, x5)], [(11, x4)], m, XX)) (mk := fun w => (1, (0, w), m, XX)) (cc := fun v1 => (45, [(14, 12), z1, (0, x2), (0, x3), (11, x4), (0, x5)], [(0, v1), (11, x4)], m, XX)) rfl rfl (fun y9 h9y => Go.mono (tC_at m 13 x5 (by decide) y9 h9y) (by decide)) (fun _ => rfl) (fun v1 => ?_)
  refine T_call hD (D2 := d_C_add) (q2 := 109) (as := [(11, x4), (0, v1)]) (c1 := (48, [(14, 12), z1, (0, x2), (0, x3), (11, x4), (0, x5)], [], m, XX)) (mk := fun w => (0, (0, 0), w, XX)) (cc := fun v2 => (48, [(14, 12), z1, (0, x2), (0, x3), (11, x4), (0, x5)], [], v2, XX)) rfl rfl (fun y9 h9y => Go.mono (tC_add m x4 v1 hx4 y9 h9y) (by decide)) (fun _ => rfl) (fun v2 => ?_)
  refine T_run hD 2 (c' := (3, [(14, 12), z1, (0, x2), (0, x3), (11, x4), (0, w32 (x5 + 1))], [], v2, XX)) rfl ?_
  exact T_back0 ⟨_, rfl⟩
def fT_addStretch_3_b (x2 : Int) (x3 : Int) (x4 : Int) : (aM × Int) → Option ((aM × Int) ⊕ aM) := fun (m, x5) =>
  if x5 < x2 then
    if x3 = 0 then
      fT_addStretch_34 m x2 x3 x4 x5
    else
      (fC_at m 13 x5).bind fun v3 =>
      if v3 = 34 then
        (fC_add m x4 34).bind fun v4 =>
        fT_addStretch_34 v4 x2 x3 x4 x5
      else
        fT_addStretch_34 m x2 x3 x4 x5
  else
    some (Sum.inr (m))
def fT_addStretch_3 (m : aM) (x2 : Int) (x3 : Int) (x4 : Int) (x5 : Int) : Option aM := aLoop (fT_addStretch_3_b x2 x3 x4) FU (m, x5)
set_option maxRecDepth 100000 in
theorem tT_addStretch_3 (r : aR) (m : aM) (x2 : Int) (x3 : Int) (x4 : Int) (x5 : Int) (hx4 : ck x4) (z1 : aV) : aT PB 2 170 r (fun w => r = (0, (0, 0), w, XX)) (fT_addStretch_3 m x2 x3 x4 x5) (3, [(14, 12), z1, (0, x2), (0, x3), (11, x4), (0, x5)], [], m, XX) := by
  have hD : aMd PB 170 = d_T_addStretch := rfl
  refine T_loop (Hd := (hT_addStretch_3 x2 x3 x4)) ?_ FU _ _ ⟨z1, rfl⟩
  clear m x5 z1
  intro y c hc
  obtain ⟨m, x5⟩ := y
  obtain ⟨z1, rfl⟩ := hc
  unfold fT_addStretch_3_b
  try dsimp only
  refine T_run hD 2 (c' := (6, [(14, 12), z1, (0, x2), (0, x3), (11, x4), (0, x5)], [(0, x2), (0, x5)], m, XX)) rfl ?_
  refine T_if hD (c1 := (9, _, _, _, _)) (c2 := (54, _, _, _, _)) rfl (fun _ => ?_) (fun _ => ?_)
  · refine T_run hD 1 (c' := (10, [(14, 12), z1, (0, x2), (0, x3), (11, x4), (0, x5)], [(0, x3)], m, XX)) rfl ?_
    refine T_if hD (c1 := (34, _, _, _, _)) (c2 := (13, _, _, _, _)) rfl (fun _ => ?_) (fun _ => ?_)
    · exact tT_addStretch_34 r m x2 x3 x4 x5 hx4 z1
    · refine T_run hD 3 (c' := (19, [(14, 12), z1, (0, x2), (0, x3), (11, x4), (0, x5)], [(0, x5), (11, 13)], m, XX)) rfl ?_
      refine T_call hD (D2 := d_C_at) (q2 := 107) (as := [(11, 13), (0, x5)]) (c1 := (22, [(14, 12), z1, (0, x2), (0, x3), (11, x4), (0, x5)], [], m, XX)) (mk := fun w => (1, (0, w), m, XX)) (cc := fun v3 => (22, [(14, 12), z1, (0, x2), (0, x3), (11, x4), (0, x5)], [(0, v3)], m, XX)) rfl rfl (fun y9 h9y => Go.mono (tC_at m 13 x5 (by decide) y9 h9y) (by decide)) (fun _ => rfl) (fun v3 => ?_)
      refine T_run hD 1 (c' := (24, [(14, 12), z1, (0, x2), (0, x3), (11, x4), (0, x5)], [(0, 34), (0, v3)], m, XX)) rfl ?_
      refine T_if hD (c1 := (27, _, _, _, _)) (c2 := (34, _, _, _, _)) rfl (fun _ => ?_) (fun _ => ?_)
      · refine T_run hD 2 (c' := (31, [(14, 12), z1, (0, x2), (0, x3), (11, x4), (0, x5)], [(0, 34), (11, x4)], m, XX)) rfl ?_
        refine T_call hD (D2 := d_C_add) (q2 := 109) (as := [(11, x4), (0, 34)]) (c1 := (34, [(14, 12), z1, (0, x2), (0, x3), (11, x4), (0, x5)], [], m, XX)) (mk := fun w => (0, (0, 0), w, XX)) (cc := fun v4 => (34, [(14, 12), z1, (0, x2), (0, x3), (11, x4), (0, x5)], [], v4, XX)) rfl rfl (fun y9 h9y => Go.mono (tC_add m x4 34 hx4 y9 h9y) (by decide)) (fun _ => rfl) (fun v4 => ?_)
        exact tT_addStretch_34 r v4 x2 x3 x4 x5 hx4 z1
      · exact tT_addStretch_34 r m x2 x3 x4 x5 hx4 z1
  · exact T_fin hD rfl (fun h => h)
def fT_addStretch (m : aM) (x1 : Int) (x2 : Int) (x3 : Int) (x4 : Int) : Option aM :=
  fT_addStretch_3 m x2 x3 x4 x1
set_option maxRecDepth 100000 in
theorem tT_addStretch (m : aM) (x1 : Int) (x2 : Int) (x3 : Int) (x4 : Int) (hx4 : ck x4) : ∀ v, fT_addStretch m x1 x2 x3 x4 = some v → Go PB 2 170 (aEnt d_T_addStretch [(14, 12), (0, x1), (0, x2), (0, x3), (11, x4)] m XX) (0, (0, 0), v, XX) := by
  intro v hv
  have hD : aMd PB 170 = d_T_addStretch := rfl
  obtain ⟨r, hr⟩ : ∃ r : aR, r = (0, (0, 0), v, XX) := ⟨_, rfl⟩
  have h9 : aT PB 2 170 r (fun w => r = (0, (0, 0), w, XX)) (fT_addStretch m x1 x2 x3 x4) (0, [(14, 12), (0, x1), (0, x2), (0, x3), (11, x4), (99, 0)], [], m, XX) := by
    unfold fT_addStretch
    refine T_run hD 2 (c' := (3, [(14, 12), (0, x1), (0, x2), (0, x3), (11, x4), (0, x1)], [], m, XX)) rfl ?_
    exact tT_addStretch_3 r m x2 x3 x4 x1 hx4 (0, x1)
  rw [← hr]
  exact h9 v hv hr
def fT_writeName (m : aM) (x1 : Int) (x2 : Int) : Option aM :=
  if fT_hasColumn m x1 = 0 then
    some (m)
  else
    gd (0 ≤ x1 ∧ x1 < 102) (
    (fT_addStretch m (m 15 x1) (m 16 x1) 0 x2).bind fun v2 =>
    some (v2))
set_option maxRecDepth 100000 in
theorem tT_writeName (m : aM) (x1 : Int) (x2 : Int) (hx2 : ck x2) : ∀ v, fT_writeName m x1 x2 = some v → Go PB 3 164 (aEnt d_T_writeName [(14, 12), (0, x1), (11, x2)] m XX) (0, (0, 0), v, XX) := by
  intro v hv
  have hD : aMd PB 164 = d_T_writeName := rfl
  obtain ⟨r, hr⟩ : ∃ r : aR, r = (0, (0, 0), v, XX) := ⟨_, rfl⟩
  have h9 : aT PB 3 164 r (fun w => r = (0, (0, 0), w, XX)) (fT_writeName m x1 x2) (0, [(14, 12), (0, x1), (11, x2)], [], m, XX) := by
    unfold fT_writeName
    refine T_run hD 2 (c' := (2, [(14, 12), (0, x1), (11, x2)], [(0, x1), (14, 12)], m, XX)) rfl ?_
    refine T_call0 hD (D2 := d_T_hasColumn) (q2 := 153) (as := [(14, 12), (0, x1)]) (c1 := (5, [(14, 12), (0, x1), (11, x2)], [], m, XX)) (r2 := (1, (0, fT_hasColumn m x1), m, XX)) (c2 := (5, [(14, 12), (0, x1), (11, x2)], [(0, fT_hasColumn m x1)], m, XX)) rfl rfl (Go.mono (tT_hasColumn m x1) (by decide)) rfl ?_
    refine T_if hD (c1 := (26, _, _, _, _)) (c2 := (8, _, _, _, _)) rfl (fun _ => ?_) (fun _ => ?_)
    · exact T_fin hD rfl (fun h => h)
    · refine T_run hD 4 (c' := (14, [(14, 12), (0, x1), (11, x2)], [(0, x1), (31, 15), (14, 12)], m, XX)) rfl ?_
      refine T_gd hD (c1 := (15, [(14, 12), (0, x1), (11, x2)], [(0, m 15 x1), (14, 12)], m, XX)) rfl (fun g1 => ?_)
      refine T_run hD 3 (c' := (20, [(14, 12), (0, x1), (11, x2)], [(0, x1), (31, 16), (0, m 15 x1), (14, 12)], m, XX)) rfl ?_
      refine T_gk hD (c1 := (21, [(14, 12), (0, x1), (11, x2)], [(0, m 16 x1), (0, m 15 x1), (14, 12)], m, XX)) (P := 0 ≤ x1 ∧ x1 < 102) rfl g1 ?_
      refine T_run hD 2 (c' := (23, [(14, 12), (0, x1), (11, x2)], [(11, x2), (0, 0), (0, m 16 x1), (0, m 15 x1), (14, 12)], m, XX)) rfl ?_
      refine T_call hD (D2 := d_T_addStretch) (q2 := 170) (as := [(14, 12), (0, m 15 x1), (0, m 16 x1), (0, 0), (11, x2)]) (c1 := (26, [(14, 12), (0, x1), (11, x2)], [], m, XX)) (mk := fun w => (0, (0, 0), w, XX)) (cc := fun v2 => (26, [(14, 12), (0, x1), (11, x2)], [], v2, XX)) rfl rfl (fun y9 h9y => Go.mono (tT_addStretch m (m 15 x1) (m 16 x1) 0 x2 hx2 y9 h9y) (by decide)) (fun _ => rfl) (fun v2 => ?_)
      exact T_fin hD rfl (fun h => h)
  rw [← hr]
  exact h9 v hv hr
abbrev hT_writeNames_2 (x1 : Int) : (aM × Int) → aC → Prop := fun y c => c = (2, [(14, 12), (11, x1), (0, (y.2))], [], (y.1), XX)
def fT_writeNames_34 (m : aM) (x1 : Int) (x2 : Int) (s0 : Int) (s1 : Int) : Option ((aM × Int) ⊕ aM) :=
  (fC_add m s0 s1).bind fun v2 =>
  some (Sum.inl (v2, w32 (x2 + 1)))
set_option maxRecDepth 100000 in
theorem tT_writeNames_34 (r : aR) (m : aM) (x1 : Int) (x2 : Int) (s0 : Int) (s1 : Int) (hx1 : ck x1) (hs0 : ck s0) : aT PB 4 163 r (aTurn PB 4 163 r (hT_writeNames_2 x1) (fun w => r = (0, (0, 0), w, XX))) (fT_writeNames_34 m x1 x2 s0 s1) (34, [(14, 12), (11, x1), (0, x2)], [(0, s1), (11, s0)], m, XX) := by
  have hD : aMd PB 163 = d_T_writeNames := rfl
  unfold fT_writeNames_34
  refine T_call hD (D2 := d_C_add) (q2 := 109) (as := [(11, s0), (0, s1)]) (c1 := (37, [(14, 12), (11, x1), (0, x2)], [], m, XX)) (mk := fun w => (0, (0, 0), w, XX)) (cc := fun v2 => (37, [(14, 12), (11, x1), (0, x2)], [], v2, XX)) rfl rfl (fun y9 h9y => Go.mono (tC_add m s0 s1 hs0 y9 h9y) (by decide)) (fun _ => rfl) (fun v2 => ?_)
  refine T_run hD 2 (c' := (2, [(14, 12), (11, x1), (0, w32 (x2 + 1))], [], v2, XX)) rfl ?_
  exact T_back0 rfl
def fT_writeNames_2_b (x1 : Int) : (aM × Int) → Option ((aM × Int) ⊕ aM) := fun (m, x2) =>
  if x2 < m 12 8 then
    (fT_writeName m x2 x1).bind fun v1 =>
    if w32 (x2 + 1) < v1 12 8 then
      fT_writeNames_34 v1 x1 x2 x1 44
    else
      fT_writeNames_34 v1 x1 x2 x1 10
  else
    some (Sum.inr (m))
def fT_writeNames_2 (m : aM) (x1 : Int) (x2 : Int) : Option aM := aLoop (fT_writeNames_2_b x1) FU (m, x2)
set_option maxRecDepth 100000 in
theorem tT_writeNames_2 (r : aR) (m : aM) (x1 : Int) (x2 : Int) (hx1 : ck x1) : aT PB 4 163 r (fun w => r = (0, (0, 0), w, XX)) (fT_writeNames_2 m x1 x2) (2, [(14, 12), (11, x1), (0, x2)], [], m, XX) := by
  have hD : aMd PB 163 = d_T_writeNames := rfl
  refine T_loop (Hd := (hT_writeNames_2 x1)) ?_ FU _ _ rfl
  clear m x2
  intro y c hc
  obtain ⟨m, x2⟩ := y
  obtain rfl := hc
  unfold fT_writeNames_2_b
  try dsimp only
  refine T_run hD 3 (c' := (7, [(14, 12), (11, x1), (0, x2)], [(0, m 12 8), (0, x2)], m, XX)) rfl ?_
  refine T_if hD (c1 := (10, _, _, _, _)) (c2 := (43, _, _, _, _)) rfl (fun _ => ?_) (fun _ => ?_)
  · refine T_run hD 3 (c' := (13, [(14, 12), (11, x1), (0, x2)], [(11, x1), (0, x2), (14, 12)], m, XX)) rfl ?_
    refine T_call hD (D2 := d_T_writeName) (q2 := 164) (as := [(14, 12), (0, x2), (11, x1)]) (c1 := (16, [(14, 12), (11, x1), (0, x2)], [], m, XX)) (mk := fun w => (0, (0, 0), w, XX)) (cc := fun v1 => (16, [(14, 12), (11, x1), (0, x2)], [], v1, XX)) rfl rfl (fun y9 h9y => Go.mono (tT_writeName m x2 x1 hx1 y9 h9y) (by decide)) (fun _ => rfl) (fun v1 => ?_)
    refine T_run hD 6 (c' := (24, [(14, 12), (11, x1), (0, x2)], [(0, v1 12 8), (0, w32 (x2 + 1)), (11, x1)], v1, XX)) rfl ?_
    refine T_if hD (c1 := (27, _, _, _, _)) (c2 := (32, _, _, _, _)) rfl (fun _ => ?_) (fun _ => ?_)
    · refine T_run hD 2 (c' := (34, [(14, 12), (11, x1), (0, x2)], [(0, 44), (11, x1)], v1, XX)) rfl ?_
      exact tT_writeNames_34 r v1 x1 x2 x1 44 hx1 hx1 
    · refine T_run hD 1 (c' := (34, [(14, 12), (11, x1), (0, x2)], [(0, 10), (11, x1)], v1, XX)) rfl ?_
      exact tT_writeNames_34 r v1 x1 x2 x1 10 hx1 hx1 
  · exact T_fin hD rfl (fun h => h)
def fT_writeNames (m : aM) (x1 : Int) : Option aM :=
  fT_writeNames_2 m x1 0
set_option maxRecDepth 100000 in
theorem tT_writeNames (m : aM) (x1 : Int) (hx1 : ck x1) : ∀ v, fT_writeNames m x1 = some v → Go PB 4 163 (aEnt d_T_writeNames [(14, 12), (11, x1)] m XX) (0, (0, 0), v, XX) := by
  intro v hv
  have hD : aMd PB 163 = d_T_writeNames := rfl
  obtain ⟨r, hr⟩ : ∃ r : aR, r = (0, (0, 0), v, XX) := ⟨_, rfl⟩
  have h9 : aT PB 4 163 r (fun w => r = (0, (0, 0), w, XX)) (fT_writeNames m x1) (0, [(14, 12), (11, x1), (99, 0)], [], m, XX) := by
    unfold fT_writeNames
    refine T_run hD 2 (c' := (2, [(14, 12), (11, x1), (0, 0)], [], m, XX)) rfl ?_
    exact tT_writeNames_2 r m x1 0 hx1 
  rw [← hr]
  exact h9 v hv hr
abbrev hT_needsMarks_34 (m : aM) (x1 : Int) : (Int) → aC → Prop := fun y c => ∃ (z3 : aV), c = (34, [(14, 12), (0, x1), (0, (y)), z3], [], m, XX)
def fT_needsMarks_34_b (m : aM) (x1 : Int) : (Int) → Option ((Int) ⊕ Int) := fun (x2) =>
  gd (0 ≤ x1 ∧ x1 < 102) (
  if x2 < m 16 x1 then
    (fC_at m 13 x2).bind fun v3 =>
    if v3 = 44 then
      some (Sum.inr (1))
    else
      if v3 = 34 then
        some (Sum.inr (1))
      else
        if v3 = 10 then
          some (Sum.inr (1))
        else
          if v3 = 13 then
            some (Sum.inr (1))
          else
            some (Sum.inl (w32 (x2 + 1)))
  else
    some (Sum.inr (0)))
def fT_needsMarks_34 (m : aM) (x1 : Int) (x2 : Int) : Option Int := aLoop (fT_needsMarks_34_b m x1) FU (x2)
set_option maxRecDepth 100000 in
theorem tT_needsMarks_34 (r : aR) (m : aM) (x1 : Int) (x2 : Int) (z3 : aV) : aT PB 2 174 r (fun w => r = (1, (0, w), m, XX)) (fT_needsMarks_34 m x1 x2) (34, [(14, 12), (0, x1), (0, x2), z3], [], m, XX) := by
  have hD : aMd PB 174 = d_T_needsMarks := rfl
  refine T_loop (Hd := (hT_needsMarks_34 m x1)) ?_ FU _ _ ⟨z3, rfl⟩
  clear x2 z3
  intro x2 c hc
  obtain ⟨z3, rfl⟩ := hc
  unfold fT_needsMarks_34_b
  try dsimp only
  refine T_run hD 4 (c' := (40, [(14, 12), (0, x1), (0, x2), z3], [(0, x1), (31, 16), (0, x2)], m, XX)) rfl ?_
  refine T_gd hD (c1 := (41, [(14, 12), (0, x1), (0, x2), z3], [(0, m 16 x1), (0, x2)], m, XX)) rfl (fun g2 => ?_)
  refine T_if hD (c1 := (44, _, _, _, _)) (c2 := (85, _, _, _, _)) rfl (fun _ => ?_) (fun _ => ?_)
  · refine T_run hD 3 (c' := (49, [(14, 12), (0, x1), (0, x2), z3], [(0, x2), (11, 13)], m, XX)) rfl ?_
    refine T_call hD (D2 := d_C_at) (q2 := 107) (as := [(11, 13), (0, x2)]) (c1 := (52, [(14, 12), (0, x1), (0, x2), z3], [], m, XX)) (mk := fun w => (1, (0, w), m, XX)) (cc := fun v3 => (52, [(14, 12), (0, x1), (0, x2), z3], [(0, v3)], m, XX)) rfl rfl (fun y9 h9y => Go.mono (tC_at m 13 x2 (by decide) y9 h9y) (by decide)) (fun _ => rfl) (fun v3 => ?_)
    refine T_run hD 3 (c' := (56, [(14, 12), (0, x1), (0, x2), (0, v3)], [(0, 44), (0, v3)], m, XX)) rfl ?_
    refine T_if hD (c1 := (77, _, _, _, _)) (c2 := (59, _, _, _, _)) rfl (fun _ => ?_) (fun _ => ?_)
    · refine T_run hD 1 (c' := (78, [(14, 12), (0, x1), (0, x2), (0, v3)], [(0, 1)], m, XX)) rfl ?_
      exact T_fin hD rfl (fun h => h)
    · refine T_run hD 2 (c' := (62, [(14, 12), (0, x1), (0, x2), (0, v3)], [(0, 34), (0, v3)], m, XX)) rfl ?_
      refine T_if hD (c1 := (77, _, _, _, _)) (c2 := (65, _, _, _, _)) rfl (fun _ => ?_) (fun _ => ?_)
      · refine T_run hD 1 (c' := (78, [(14, 12), (0, x1), (0, x2), (0, v3)], [(0, 1)], m, XX)) rfl ?_
        exact T_fin hD rfl (fun h => h)
      · refine T_run hD 2 (c' := (68, [(14, 12), (0, x1), (0, x2), (0, v3)], [(0, 10), (0, v3)], m, XX)) rfl ?_
        refine T_if hD (c1 := (77, _, _, _, _)) (c2 := (71, _, _, _, _)) rfl (fun _ => ?_) (fun _ => ?_)
        · refine T_run hD 1 (c' := (78, [(14, 12), (0, x1), (0, x2), (0, v3)], [(0, 1)], m, XX)) rfl ?_
          exact T_fin hD rfl (fun h => h)
        · refine T_run hD 2 (c' := (74, [(14, 12), (0, x1), (0, x2), (0, v3)], [(0, 13), (0, v3)], m, XX)) rfl ?_
          refine T_if hD (c1 := (77, _, _, _, _)) (c2 := (79, _, _, _, _)) rfl (fun _ => ?_) (fun _ => ?_)
          · refine T_run hD 1 (c' := (78, [(14, 12), (0, x1), (0, x2), (0, v3)], [(0, 1)], m, XX)) rfl ?_
            exact T_fin hD rfl (fun h => h)
          · refine T_run hD 2 (c' := (34, [(14, 12), (0, x1), (0, w32 (x2 + 1)), (0, v3)], [], m, XX)) rfl ?_
            exact T_back0 ⟨_, rfl⟩
  · refine T_run hD 1 (c' := (86, [(14, 12), (0, x1), (0, x2), z3], [(0, 0)], m, XX)) rfl ?_
    exact T_fin hD rfl (fun h => h)
def fT_needsMarks (m : aM) (x1 : Int) : Option Int :=
  gd (0 ≤ x1 ∧ x1 < 102) (
  if m 15 x1 = m 16 x1 then
    some (1)
  else
    if m 18 x1 = 3 then
      fT_needsMarks_34 m x1 (m 15 x1)
    else
      some (1))
set_option maxRecDepth 100000 in
theorem tT_needsMarks (m : aM) (x1 : Int) : ∀ v, fT_needsMarks m x1 = some v → Go PB 2 174 (aEnt d_T_needsMarks [(14, 12), (0, x1)] m XX) (1, (0, v), m, XX) := by
  intro v hv
  have hD : aMd PB 174 = d_T_needsMarks := rfl
  obtain ⟨r, hr⟩ : ∃ r : aR, r = (1, (0, v), m, XX) := ⟨_, rfl⟩
  have h9 : aT PB 2 174 r (fun w => r = (1, (0, w), m, XX)) (fT_needsMarks m x1) (0, [(14, 12), (0, x1), (99, 0), (99, 0)], [], m, XX) := by
    unfold fT_needsMarks
    refine T_run hD 3 (c' := (5, [(14, 12), (0, x1), (99, 0), (99, 0)], [(0, x1), (31, 15)], m, XX)) rfl ?_
    refine T_gd hD (c1 := (6, [(14, 12), (0, x1), (99, 0), (99, 0)], [(0, m 15 x1)], m, XX)) rfl (fun g1 => ?_)
    refine T_run hD 3 (c' := (11, [(14, 12), (0, x1), (99, 0), (99, 0)], [(0, x1), (31, 16), (0, m 15 x1)], m, XX)) rfl ?_
    refine T_gk hD (c1 := (12, [(14, 12), (0, x1), (99, 0), (99, 0)], [(0, m 16 x1), (0, m 15 x1)], m, XX)) (P := 0 ≤ x1 ∧ x1 < 102) rfl g1 ?_
    refine T_if hD (c1 := (25, _, _, _, _)) (c2 := (15, _, _, _, _)) rfl (fun _ => ?_) (fun _ => ?_)
    · refine T_run hD 1 (c' := (26, [(14, 12), (0, x1), (99, 0), (99, 0)], [(0, 1)], m, XX)) rfl ?_
      exact T_fin hD rfl (fun h => h)
    · refine T_run hD 3 (c' := (20, [(14, 12), (0, x1), (99, 0), (99, 0)], [(0, x1), (31, 18)], m, XX)) rfl ?_
      refine T_gk hD (c1 := (21, [(14, 12), (0, x1), (99, 0), (99, 0)], [(0, m 18 x1)], m, XX)) (P := 0 ≤ x1 ∧ x1 < 102) rfl g1 ?_
      refine T_run hD 1 (c' := (22, [(14, 12), (0, x1), (99, 0), (99, 0)], [(0, 3), (0, m 18 x1)], m, XX)) rfl ?_
      refine T_if hD (c1 := (27, _, _, _, _)) (c2 := (25, _, _, _, _)) rfl (fun _ => ?_) (fun _ => ?_)
      · refine T_run hD 3 (c' := (32, [(14, 12), (0, x1), (99, 0), (99, 0)], [(0, x1), (31, 15)], m, XX)) rfl ?_
        refine T_gk hD (c1 := (33, [(14, 12), (0, x1), (99, 0), (99, 0)], [(0, m 15 x1)], m, XX)) (P := 0 ≤ x1 ∧ x1 < 102) rfl g1 ?_
        refine T_run hD 1 (c' := (34, [(14, 12), (0, x1), (0, m 15 x1), (99, 0)], [], m, XX)) rfl ?_
        exact tT_needsMarks_34 r m x1 (m 15 x1) (99, 0)
      · refine T_run hD 1 (c' := (26, [(14, 12), (0, x1), (99, 0), (99, 0)], [(0, 1)], m, XX)) rfl ?_
        exact T_fin hD rfl (fun h => h)
  rw [← hr]
  exact h9 v hv hr
def fT_writeCell_60 (m : aM) (x3 : Int) (x4 : Int) (x5 : Int) : Option aM :=
  gd (0 ≤ x4 ∧ x4 < 102) (
  (fT_addStretch m (m 15 x4) (m 16 x4) x5 x3).bind fun v5 =>
  if x5 = 0 then
    some (v5)
  else
    (fC_add v5 x3 34).bind fun v6 =>
    some (v6))
set_option maxRecDepth 100000 in
theorem tT_writeCell_60 (r : aR) (m : aM) (x3 : Int) (x4 : Int) (x5 : Int) (hx3 : ck x3) (z1 : aV) (z2 : aV) : aT PB 3 166 r (fun w => r = (0, (0, 0), w, XX)) (fT_writeCell_60 m x3 x4 x5) (60, [(14, 12), z1, z2, (11, x3), (0, x4), (0, x5)], [], m, XX) := by
  have hD : aMd PB 166 = d_T_writeCell := rfl
  unfold fT_writeCell_60
  refine T_run hD 4 (c' := (67, [(14, 12), z1, z2, (11, x3), (0, x4), (0, x5)], [(0, x4), (31, 15), (14, 12)], m, XX)) rfl ?_
  refine T_gd hD (c1 := (68, [(14, 12), z1, z2, (11, x3), (0, x4), (0, x5)], [(0, m 15 x4), (14, 12)], m, XX)) rfl (fun g4 => ?_)
  refine T_run hD 3 (c' := (74, [(14, 12), z1, z2, (11, x3), (0, x4), (0, x5)], [(0, x4), (31, 16), (0, m 15 x4), (14, 12)], m, XX)) rfl ?_
  refine T_gk hD (c1 := (75, [(14, 12), z1, z2, (11, x3), (0, x4), (0, x5)], [(0, m 16 x4), (0, m 15 x4), (14, 12)], m, XX)) (P := 0 ≤ x4 ∧ x4 < 102) rfl g4 ?_
  refine T_run hD 2 (c' := (78, [(14, 12), z1, z2, (11, x3), (0, x4), (0, x5)], [(11, x3), (0, x5), (0, m 16 x4), (0, m 15 x4), (14, 12)], m, XX)) rfl ?_
  refine T_call hD (D2 := d_T_addStretch) (q2 := 170) (as := [(14, 12), (0, m 15 x4), (0, m 16 x4), (0, x5), (11, x3)]) (c1 := (81, [(14, 12), z1, z2, (11, x3), (0, x4), (0, x5)], [], m, XX)) (mk := fun w => (0, (0, 0), w, XX)) (cc := fun v5 => (81, [(14, 12), z1, z2, (11, x3), (0, x4), (0, x5)], [], v5, XX)) rfl rfl (fun y9 h9y => Go.mono (tT_addStretch m (m 15 x4) (m 16 x4) x5 x3 hx3 y9 h9y) (by decide)) (fun _ => rfl) (fun v5 => ?_)
  refine T_run hD 1 (c' := (83, [(14, 12), z1, z2, (11, x3), (0, x4), (0, x5)], [(0, x5)], v5, XX)) rfl ?_
  refine T_if hD (c1 := (92, _, _, _, _)) (c2 := (86, _, _, _, _)) rfl (fun _ => ?_) (fun _ => ?_)
  · exact T_fin hD rfl (fun h => h)
  · refine T_run hD 2 (c' := (89, [(14, 12), z1, z2, (11, x3), (0, x4), (0, x5)], [(0, 34), (11, x3)], v5, XX)) rfl ?_
    refine T_call hD (D2 := d_C_add) (q2 := 109) (as := [(11, x3), (0, 34)]) (c1 := (92, [(14, 12), z1, z2, (11, x3), (0, x4), (0, x5)], [], v5, XX)) (mk := fun w => (0, (0, 0), w, XX)) (cc := fun v6 => (92, [(14, 12), z1, z2, (11, x3), (0, x4), (0, x5)], [], v6, XX)) rfl rfl (fun y9 h9y => Go.mono (tC_add v5 x3 34 hx3 y9 h9y) (by decide)) (fun _ => rfl) (fun v6 => ?_)
    exact T_fin hD rfl (fun h => h)
def fT_writeCell_47 (m : aM) (x3 : Int) (x4 : Int) (s0 : Int) : Option aM :=
  if s0 = 0 then
    fT_writeCell_60 m x3 x4 s0
  else
    (fC_add m x3 34).bind fun v7 =>
    fT_writeCell_60 v7 x3 x4 s0
set_option maxRecDepth 100000 in
theorem tT_writeCell_47 (r : aR) (m : aM) (x3 : Int) (x4 : Int) (s0 : Int) (hx3 : ck x3) (z1 : aV) (z2 : aV) (z5 : aV) : aT PB 3 166 r (fun w => r = (0, (0, 0), w, XX)) (fT_writeCell_47 m x3 x4 s0) (47, [(14, 12), z1, z2, (11, x3), (0, x4), z5], [(0, s0)], m, XX) := by
  have hD : aMd PB 166 = d_T_writeCell := rfl
  unfold fT_writeCell_47
  refine T_run hD 2 (c' := (51, [(14, 12), z1, z2, (11, x3), (0, x4), (0, s0)], [(0, s0)], m, XX)) rfl ?_
  refine T_if hD (c1 := (60, _, _, _, _)) (c2 := (54, _, _, _, _)) rfl (fun _ => ?_) (fun _ => ?_)
  · exact tT_writeCell_60 r m x3 x4 s0 hx3 z1 z2
  · refine T_run hD 2 (c' := (57, [(14, 12), z1, z2, (11, x3), (0, x4), (0, s0)], [(0, 34), (11, x3)], m, XX)) rfl ?_
    refine T_call hD (D2 := d_C_add) (q2 := 109) (as := [(11, x3), (0, 34)]) (c1 := (60, [(14, 12), z1, z2, (11, x3), (0, x4), (0, s0)], [], m, XX)) (mk := fun w => (0, (0, 0), w, XX)) (cc := fun v7 => (60, [(14, 12), z1, z2, (11, x3), (0, x4), (0, s0)], [], v7, XX)) rfl rfl (fun y9 h9y => Go.mono (tC_add m x3 34 hx3 y9 h9y) (by decide)) (fun _ => rfl) (fun v7 => ?_)
    exact tT_writeCell_60 r v7 x3 x4 s0 hx3 z1 z2
def fT_writeCell (m : aM) (x1 : Int) (x2 : Int) (x3 : Int) : Option aM :=
  if fT_cellAt m x1 x2 = (-1) then
    some (m)
  else
    (fT_isGone m (fT_cellAt m x1 x2)).bind fun v1 =>
    if v1 = 0 then
      (fT_typeAt m x2).bind fun v2 =>
      if v2 = 3 then
        (fT_needsMarks m (fT_cellAt m x1 x2)).bind fun v3 =>
        if v3 = 0 then
          fT_writeCell_47 m x3 (fT_cellAt m x1 x2) 0
        else
          fT_writeCell_47 m x3 (fT_cellAt m x1 x2) 1
      else
        fT_writeCell_47 m x3 (fT_cellAt m x1 x2) 0
    else
      some (m)
set_option maxRecDepth 100000 in
theorem tT_writeCell (m : aM) (x1 : Int) (x2 : Int) (x3 : Int) (hx3 : ck x3) : ∀ v, fT_writeCell m x1 x2 x3 = some v → Go PB 3 166 (aEnt d_T_writeCell [(14, 12), (0, x1), (0, x2), (11, x3)] m XX) (0, (0, 0), v, XX) := by
  intro v hv
  have hD : aMd PB 166 = d_T_writeCell := rfl
  obtain ⟨r, hr⟩ : ∃ r : aR, r = (0, (0, 0), v, XX) := ⟨_, rfl⟩
  have h9 : aT PB 3 166 r (fun w => r = (0, (0, 0), w, XX)) (fT_writeCell m x1 x2 x3) (0, [(14, 12), (0, x1), (0, x2), (11, x3), (99, 0), (99, 0)], [], m, XX) := by
    unfold fT_writeCell
    refine T_run hD 3 (c' := (3, [(14, 12), (0, x1), (0, x2), (11, x3), (99, 0), (99, 0)], [(0, x2), (0, x1), (14, 12)], m, XX)) rfl ?_
    refine T_call0 hD (D2 := d_T_cellAt) (q2 := 167) (as := [(14, 12), (0, x1), (0, x2)]) (c1 := (6, [(14, 12), (0, x1), (0, x2), (11, x3), (99, 0), (99, 0)], [], m, XX)) (r2 := (1, (0, fT_cellAt m x1 x2), m, XX)) (c2 := (6, [(14, 12), (0, x1), (0, x2), (11, x3), (99, 0), (99, 0)], [(0, fT_cellAt m x1 x2)], m, XX)) rfl rfl (Go.mono (tT_cellAt m x1 x2) (by decide)) rfl ?_
    refine T_run hD 3 (c' := (11, [(14, 12), (0, x1), (0, x2), (11, x3), (0, fT_cellAt m x1 x2), (99, 0)], [(0, (-1)), (0, fT_cellAt m x1 x2)], m, XX)) rfl ?_
    refine T_if hD (c1 := (23, _, _, _, _)) (c2 := (14, _, _, _, _)) rfl (fun _ => ?_) (fun _ => ?_)
    · exact T_fin hD rfl (fun h => h)
    · refine T_run hD 2 (c' := (17, [(14, 12), (0, x1), (0, x2), (11, x3), (0, fT_cellAt m x1 x2), (99, 0)], [(0, fT_cellAt m x1 x2), (14, 12)], m, XX)) rfl ?_
      refine T_call hD (D2 := d_T_isGone) (q2 := 168) (as := [(14, 12), (0, fT_cellAt m x1 x2)]) (c1 := (20, [(14, 12), (0, x1), (0, x2), (11, x3), (0, fT_cellAt m x1 x2), (99, 0)], [], m, XX)) (mk := fun w => (1, (0, w), m, XX)) (cc := fun v1 => (20, [(14, 12), (0, x1), (0, x2), (11, x3), (0, fT_cellAt m x1 x2), (99, 0)], [(0, v1)], m, XX)) rfl rfl (fun y9 h9y => Go.mono (tT_isGone m (fT_cellAt m x1 x2) y9 h9y) (by decide)) (fun _ => rfl) (fun v1 => ?_)
      refine T_if hD (c1 := (24, _, _, _, _)) (c2 := (23, _, _, _, _)) rfl (fun _ => ?_) (fun _ => ?_)
      · refine T_run hD 2 (c' := (26, [(14, 12), (0, x1), (0, x2), (11, x3), (0, fT_cellAt m x1 x2), (99, 0)], [(0, x2), (14, 12)], m, XX)) rfl ?_
        refine T_call hD (D2 := d_T_typeAt) (q2 := 155) (as := [(14, 12), (0, x2)]) (c1 := (29, [(14, 12), (0, x1), (0, x2), (11, x3), (0, fT_cellAt m x1 x2), (99, 0)], [], m, XX)) (mk := fun w => (1, (0, w), m, XX)) (cc := fun v2 => (29, [(14, 12), (0, x1), (0, x2), (11, x3), (0, fT_cellAt m x1 x2), (99, 0)], [(0, v2)], m, XX)) rfl rfl (fun y9 h9y => Go.mono (tT_typeAt m x2 y9 h9y) (by decide)) (fun _ => rfl) (fun v2 => ?_)
        refine T_run hD 1 (c' := (30, [(14, 12), (0, x1), (0, x2), (11, x3), (0, fT_cellAt m x1 x2), (99, 0)], [(0, 3), (0, v2)], m, XX)) rfl ?_
        refine T_if hD (c1 := (33, _, _, _, _)) (c2 := (46, _, _, _, _)) rfl (fun _ => ?_) (fun _ => ?_)
        · refine T_run hD 2 (c' := (36, [(14, 12), (0, x1), (0, x2), (11, x3), (0, fT_cellAt m x1 x2), (99, 0)], [(0, fT_cellAt m x1 x2), (14, 12)], m, XX)) rfl ?_
          refine T_call hD (D2 := d_T_needsMarks) (q2 := 174) (as := [(14, 12), (0, fT_cellAt m x1 x2)]) (c1 := (39, [(14, 12), (0, x1), (0, x2), (11, x3), (0, fT_cellAt m x1 x2), (99, 0)], [], m, XX)) (mk := fun w => (1, (0, w), m, XX)) (cc := fun v3 => (39, [(14, 12), (0, x1), (0, x2), (11, x3), (0, fT_cellAt m x1 x2), (99, 0)], [(0, v3)], m, XX)) rfl rfl (fun y9 h9y => Go.mono (tT_needsMarks m (fT_cellAt m x1 x2) y9 h9y) (by decide)) (fun _ => rfl) (fun v3 => ?_)
          refine T_if hD (c1 := (46, _, _, _, _)) (c2 := (42, _, _, _, _)) rfl (fun _ => ?_) (fun _ => ?_)
          · refine T_run hD 1 (c' := (47, [(14, 12), (0, x1), (0, x2), (11, x3), (0, fT_cellAt m x1 x2), (99, 0)], [(0, 0)], m, XX)) rfl ?_
            exact tT_writeCell_47 r m x3 (fT_cellAt m x1 x2) 0 hx3 (0, x1) (0, x2) (99, 0)
          · refine T_run hD 2 (c' := (47, [(14, 12), (0, x1), (0, x2), (11, x3), (0, fT_cellAt m x1 x2), (99, 0)], [(0, 1)], m, XX)) rfl ?_
            exact tT_writeCell_47 r m x3 (fT_cellAt m x1 x2) 1 hx3 (0, x1) (0, x2) (99, 0)
        · refine T_run hD 1 (c' := (47, [(14, 12), (0, x1), (0, x2), (11, x3), (0, fT_cellAt m x1 x2), (99, 0)], [(0, 0)], m, XX)) rfl ?_
          exact tT_writeCell_47 r m x3 (fT_cellAt m x1 x2) 0 hx3 (0, x1) (0, x2) (99, 0)
      · exact T_fin hD rfl (fun h => h)
  rw [← hr]
  exact h9 v hv hr
abbrev hT_writeRow_2 (x1 : Int) (x2 : Int) : (aM × Int) → aC → Prop := fun y c => c = (2, [(14, 12), (0, x1), (11, x2), (0, (y.2))], [], (y.1), XX)
def fT_writeRow_35 (m : aM) (x1 : Int) (x2 : Int) (x3 : Int) (s0 : Int) (s1 : Int) : Option ((aM × Int) ⊕ aM) :=
  (fC_add m s0 s1).bind fun v2 =>
  some (Sum.inl (v2, w32 (x3 + 1)))
set_option maxRecDepth 100000 in
theorem tT_writeRow_35 (r : aR) (m : aM) (x1 : Int) (x2 : Int) (x3 : Int) (s0 : Int) (s1 : Int) (hx2 : ck x2) (hs0 : ck s0) : aT PB 4 165 r (aTurn PB 4 165 r (hT_writeRow_2 x1 x2) (fun w => r = (0, (0, 0), w, XX))) (fT_writeRow_35 m x1 x2 x3 s0 s1) (35, [(14, 12), (0, x1), (11, x2), (0, x3)], [(0, s1), (11, s0)], m, XX) := by
  have hD : aMd PB 165 = d_T_writeRow := rfl
  unfold fT_writeRow_35
  refine T_call hD (D2 := d_C_add) (q2 := 109) (as := [(11, s0), (0, s1)]) (c1 := (38, [(14, 12), (0, x1), (11, x2), (0, x3)], [], m, XX)) (mk := fun w => (0, (0, 0), w, XX)) (cc := fun v2 => (38, [(14, 12), (0, x1), (11, x2), (0, x3)], [], v2, XX)) rfl rfl (fun y9 h9y => Go.mono (tC_add m s0 s1 hs0 y9 h9y) (by decide)) (fun _ => rfl) (fun v2 => ?_)
  refine T_run hD 2 (c' := (2, [(14, 12), (0, x1), (11, x2), (0, w32 (x3 + 1))], [], v2, XX)) rfl ?_
  exact T_back0 rfl
def fT_writeRow_2_b (x1 : Int) (x2 : Int) : (aM × Int) → Option ((aM × Int) ⊕ aM) := fun (m, x3) =>
  if x3 < m 12 8 then
    (fT_writeCell m x1 x3 x2).bind fun v1 =>
    if w32 (x3 + 1) < v1 12 8 then
      fT_writeRow_35 v1 x1 x2 x3 x2 44
    else
      fT_writeRow_35 v1 x1 x2 x3 x2 10
  else
    some (Sum.inr (m))
def fT_writeRow_2 (m : aM) (x1 : Int) (x2 : Int) (x3 : Int) : Option aM := aLoop (fT_writeRow_2_b x1 x2) FU (m, x3)
set_option maxRecDepth 100000 in
theorem tT_writeRow_2 (r : aR) (m : aM) (x1 : Int) (x2 : Int) (x3 : Int) (hx2 : ck x2) : aT PB 4 165 r (fun w => r = (0, (0, 0), w, XX)) (fT_writeRow_2 m x1 x2 x3) (2, [(14, 12), (0, x1), (11, x2), (0, x3)], [], m, XX) := by
  have hD : aMd PB 165 = d_T_writeRow := rfl
  refine T_loop (Hd := (hT_writeRow_2 x1 x2)) ?_ FU _ _ rfl
  clear m x3
  intro y c hc
  obtain ⟨m, x3⟩ := y
  obtain rfl := hc
  unfold fT_writeRow_2_b
  try dsimp only
  refine T_run hD 3 (c' := (7, [(14, 12), (0, x1), (11, x2), (0, x3)], [(0, m 12 8), (0, x3)], m, XX)) rfl ?_
  refine T_if hD (c1 := (10, _, _, _, _)) (c2 := (44, _, _, _, _)) rfl (fun _ => ?_) (fun _ => ?_)
  · refine T_run hD 4 (c' := (14, [(14, 12), (0, x1), (11, x2), (0, x3)], [(11, x2), (0, x3), (0, x1), (14, 12)], m, XX)) rfl ?_
    refine T_call hD (D2 := d_T_writeCell) (q2 := 166) (as := [(14, 12), (0, x1), (0, x3), (11, x2)]) (c1 := (17, [(14, 12), (0, x1), (11, x2), (0, x3)], [], m, XX)) (mk := fun w => (0, (0, 0), w, XX)) (cc := fun v1 => (17, [(14, 12), (0, x1), (11, x2), (0, x3)], [], v1, XX)) rfl rfl (fun y9 h9y => Go.mono (tT_writeCell m x1 x3 x2 hx2 y9 h9y) (by decide)) (fun _ => rfl) (fun v1 => ?_)
    refine T_run hD 6 (c' := (25, [(14, 12), (0, x1), (11, x2), (0, x3)], [(0, v1 12 8), (0, w32 (x3 + 1)), (11, x2)], v1, XX)) rfl ?_
    refine T_if hD (c1 := (28, _, _, _, _)) (c2 := (33, _, _, _, _)) rfl (fun _ => ?_) (fun _ => ?_)
    · refine T_run hD 2 (c' := (35, [(14, 12), (0, x1), (11, x2), (0, x3)], [(0, 44), (11, x2)], v1, XX)) rfl ?_
      exact tT_writeRow_35 r v1 x1 x2 x3 x2 44 hx2 hx2 
    · refine T_run hD 1 (c' := (35, [(14, 12), (0, x1), (11, x2), (0, x3)], [(0, 10), (11, x2)], v1, XX)) rfl ?_
      exact tT_writeRow_35 r v1 x1 x2 x3 x2 10 hx2 hx2 
  · exact T_fin hD rfl (fun h => h)
def fT_writeRow (m : aM) (x1 : Int) (x2 : Int) : Option aM :=
  fT_writeRow_2 m x1 x2 0
set_option maxRecDepth 100000 in
theorem tT_writeRow (m : aM) (x1 : Int) (x2 : Int) (hx2 : ck x2) : ∀ v, fT_writeRow m x1 x2 = some v → Go PB 4 165 (aEnt d_T_writeRow [(14, 12), (0, x1), (11, x2)] m XX) (0, (0, 0), v, XX) := by
  intro v hv
  have hD : aMd PB 165 = d_T_writeRow := rfl
  obtain ⟨r, hr⟩ : ∃ r : aR, r = (0, (0, 0), v, XX) := ⟨_, rfl⟩
  have h9 : aT PB 4 165 r (fun w => r = (0, (0, 0), w, XX)) (fT_writeRow m x1 x2) (0, [(14, 12), (0, x1), (11, x2), (99, 0)], [], m, XX) := by
    unfold fT_writeRow
    refine T_run hD 2 (c' := (2, [(14, 12), (0, x1), (11, x2), (0, 0)], [], m, XX)) rfl ?_
    exact tT_writeRow_2 r m x1 x2 0 hx2 
  rw [← hr]
  exact h9 v hv hr
abbrev hC_addWord_2 (x0 : Int) (x1 : Int) : (aM × Int) → aC → Prop := fun y c => c = (2, [(11, x0), (41, x1), (0, (y.2))], [], (y.1), XX)
def fC_addWord_2_b (x0 : Int) (x1 : Int) : (aM × Int) → Option ((aM × Int) ⊕ aM) := fun (m, x2) =>
  if x2 < fJS_length x1 then
    (fJS_charAt x1 x2).bind fun v1 =>
    (fC_add m x0 v1).bind fun v2 =>
    some (Sum.inl (v2, w32 (x2 + 1)))
  else
    some (Sum.inr (m))
def fC_addWord_2 (m : aM) (x0 : Int) (x1 : Int) (x2 : Int) : Option aM := aLoop (fC_addWord_2_b x0 x1) FU (m, x2)
set_option maxRecDepth 100000 in
theorem tC_addWord_2 (r : aR) (m : aM) (x0 : Int) (x1 : Int) (x2 : Int) (hx0 : ck x0) : aT PB 5 110 r (fun w => r = (0, (0, 0), w, XX)) (fC_addWord_2 m x0 x1 x2) (2, [(11, x0), (41, x1), (0, x2)], [], m, XX) := by
  have hD : aMd PB 110 = d_C_addWord := rfl
  refine T_loop (Hd := (hC_addWord_2 x0 x1)) ?_ FU _ _ rfl
  clear m x2
  intro y c hc
  obtain ⟨m, x2⟩ := y
  obtain rfl := hc
  unfold fC_addWord_2_b
  try dsimp only
  refine T_run hD 2 (c' := (4, [(11, x0), (41, x1), (0, x2)], [(41, x1), (0, x2)], m, XX)) rfl ?_
  refine T_call0 hD (D2 := d_JS_length) (q2 := 198) (as := [(41, x1)]) (c1 := (7, [(11, x0), (41, x1), (0, x2)], [(0, x2)], m, XX)) (r2 := (1, (0, fJS_length x1), m, XX)) (c2 := (7, [(11, x0), (41, x1), (0, x2)], [(0, fJS_length x1), (0, x2)], m, XX)) rfl rfl (Go.mono (tJS_length m x1) (by decide)) rfl ?_
  refine T_if hD (c1 := (10, _, _, _, _)) (c2 := (25, _, _, _, _)) rfl (fun _ => ?_) (fun _ => ?_)
  · refine T_run hD 3 (c' := (13, [(11, x0), (41, x1), (0, x2)], [(0, x2), (41, x1), (11, x0)], m, XX)) rfl ?_
    refine T_call hD (D2 := d_JS_charAt) (q2 := 200) (as := [(41, x1), (0, x2)]) (c1 := (16, [(11, x0), (41, x1), (0, x2)], [(11, x0)], m, XX)) (mk := fun w => (1, (0, w), m, XX)) (cc := fun v1 => (16, [(11, x0), (41, x1), (0, x2)], [(0, v1), (11, x0)], m, XX)) rfl rfl (fun y9 h9y => Go.mono (tJS_charAt m x1 x2 y9 h9y) (by decide)) (fun _ => rfl) (fun v1 => ?_)
    refine T_call hD (D2 := d_C_add) (q2 := 109) (as := [(11, x0), (0, v1)]) (c1 := (19, [(11, x0), (41, x1), (0, x2)], [], m, XX)) (mk := fun w => (0, (0, 0), w, XX)) (cc := fun v2 => (19, [(11, x0), (41, x1), (0, x2)], [], v2, XX)) rfl rfl (fun y9 h9y => Go.mono (tC_add m x0 v1 hx0 y9 h9y) (by decide)) (fun _ => rfl) (fun v2 => ?_)
    refine T_run hD 2 (c' := (2, [(11, x0), (41, x1), (0, w32 (x2 + 1))], [], v2, XX)) rfl ?_
    exact T_back0 rfl
  · exact T_fin hD rfl (fun h => h)
def fC_addWord (m : aM) (x0 : Int) (x1 : Int) : Option aM :=
  fC_addWord_2 m x0 x1 0
set_option maxRecDepth 100000 in
theorem tC_addWord (m : aM) (x0 : Int) (x1 : Int) (hx0 : ck x0) : ∀ v, fC_addWord m x0 x1 = some v → Go PB 5 110 (aEnt d_C_addWord [(11, x0), (41, x1)] m XX) (0, (0, 0), v, XX) := by
  intro v hv
  have hD : aMd PB 110 = d_C_addWord := rfl
  obtain ⟨r, hr⟩ : ∃ r : aR, r = (0, (0, 0), v, XX) := ⟨_, rfl⟩
  have h9 : aT PB 5 110 r (fun w => r = (0, (0, 0), w, XX)) (fC_addWord m x0 x1) (0, [(11, x0), (41, x1), (99, 0)], [], m, XX) := by
    unfold fC_addWord
    refine T_run hD 2 (c' := (2, [(11, x0), (41, x1), (0, 0)], [], m, XX)) rfl ?_
    exact tC_addWord_2 r m x0 x1 0 hx0 
  rw [← hr]
  exact h9 v hv hr
abbrev hC_addNumber_33 (x0 : Int) (x3 : Int) : (aM × Int × Int) → aC → Prop := fun y c => ∃ (z1 : aV) (z2 : aV) (z4 : aV) (z7 : aV) (z8 : aV), c = (33, [(11, x0), z1, z2, (1, x3), z4, (0, (y.2.1)), (1, (y.2.2)), z7, z8], [], (y.1), XX)
def fC_addNumber_74 (m : aM) (x0 : Int) (x3 : Int) (x6 : Int) (x8 : Int) (s0 : Int) : Option ((aM × Int × Int) ⊕ aM) :=
  if s0 = 0 then
    some (Sum.inl (m, s0, w64 (Int.tdiv x6 10)))
  else
    (fC_add m x0 (w32 (48 + x8))).bind fun v3 =>
    some (Sum.inl (v3, s0, w64 (Int.tdiv x6 10)))
set_option maxRecDepth 100000 in
theorem tC_addNumber_74 (r : aR) (m : aM) (x0 : Int) (x3 : Int) (x6 : Int) (x8 : Int) (s0 : Int) (hx0 : ck x0) (z1 : aV) (z2 : aV) (z4 : aV) (z5 : aV) (z7 : aV) : aT PB 2 111 r (aTurn PB 2 111 r (hC_addNumber_33 x0 x3) (fun w => r = (0, (0, 0), w, XX))) (fC_addNumber_74 m x0 x3 x6 x8 s0) (74, [(11, x0), z1, z2, (1, x3), z4, z5, (1, x6), z7, (0, x8)], [(0, s0)], m, XX) := by
  have hD : aMd PB 111 = d_C_addNumber := rfl
  unfold fC_addNumber_74
  refine T_run hD 2 (c' := (78, [(11, x0), z1, z2, (1, x3), aJ z4, (0, s0), (1, x6), z7, (0, x8)], [(0, s0)], m, XX)) rfl ?_
  refine T_if hD (c1 := (90, _, _, _, _)) (c2 := (81, _, _, _, _)) rfl (fun _ => ?_) (fun _ => ?_)
  · refine T_run hD 5 (c' := (33, [(11, x0), z1, z2, (1, x3), aJ z4, (0, s0), (1, w64 (Int.tdiv x6 10)), (99, 0), (0, x8)], [], m, XX)) rfl ?_
    exact T_back0 ⟨_, _, _, _, _, rfl⟩
  · refine T_run hD 4 (c' := (87, [(11, x0), z1, z2, (1, x3), aJ z4, (0, s0), (1, x6), z7, (0, x8)], [(0, w32 (48 + x8)), (11, x0)], m, XX)) rfl ?_
    refine T_call hD (D2 := d_C_add) (q2 := 109) (as := [(11, x0), (0, w32 (48 + x8))]) (c1 := (90, [(11, x0), z1, z2, (1, x3), aJ z4, (0, s0), (1, x6), z7, (0, x8)], [], m, XX)) (mk := fun w => (0, (0, 0), w, XX)) (cc := fun v3 => (90, [(11, x0), z1, z2, (1, x3), aJ z4, (0, s0), (1, x6), z7, (0, x8)], [], v3, XX)) rfl rfl (fun y9 h9y => Go.mono (tC_add m x0 (w32 (48 + x8)) hx0 y9 h9y) (by decide)) (fun _ => rfl) (fun v3 => ?_)
    refine T_run hD 5 (c' := (33, [(11, x0), z1, z2, (1, x3), aJ z4, (0, s0), (1, w64 (Int.tdiv x6 10)), (99, 0), (0, x8)], [], v3, XX)) rfl ?_
    exact T_back0 ⟨_, _, _, _, _, rfl⟩
def fC_addNumber_33_b (x0 : Int) (x3 : Int) : (aM × Int × Int) → Option ((aM × Int × Int) ⊕ aM) := fun (m, x5, x6) =>
  if 0 < cmp3 x6 0 then
    if x6 = 0 then none else (
    if x5 = 0 then
      if w32 (w64 (-(Int.tmod (w64 (Int.tdiv x3 x6)) 10))) = 0 then
        if cmp3 x6 1 = 0 then
          fC_addNumber_74 m x0 x3 x6 (w32 (w64 (-(Int.tmod (w64 (Int.tdiv x3 x6)) 10)))) 1
        else
          fC_addNumber_74 m x0 x3 x6 (w32 (w64 (-(Int.tmod (w64 (Int.tdiv x3 x6)) 10)))) 0
      else
        fC_addNumber_74 m x0 x3 x6 (w32 (w64 (-(Int.tmod (w64 (Int.tdiv x3 x6)) 10)))) 1
    else
      fC_addNumber_74 m x0 x3 x6 (w32 (w64 (-(Int.tmod (w64 (Int.tdiv x3 x6)) 10)))) 1)
  else
    some (Sum.inr (m))
def fC_addNumber_33 (m : aM) (x0 : Int) (x3 : Int) (x5 : Int) (x6 : Int) : Option aM := aLoop (fC_addNumber_33_b x0 x3) FU (m, x5, x6)
set_option maxRecDepth 100000 in
theorem tC_addNumber_33 (r : aR) (m : aM) (x0 : Int) (x3 : Int) (x5 : Int) (x6 : Int) (hx0 : ck x0) (z1 : aV) (z2 : aV) (z4 : aV) (z7 : aV) (z8 : aV) : aT PB 2 111 r (fun w => r = (0, (0, 0), w, XX)) (fC_addNumber_33 m x0 x3 x5 x6) (33, [(11, x0), z1, z2, (1, x3), z4, (0, x5), (1, x6), z7, z8], [], m, XX) := by
  have hD : aMd PB 111 = d_C_addNumber := rfl
  refine T_loop (Hd := (hC_addNumber_33 x0 x3)) ?_ FU _ _ ⟨z1, z2, z4, z7, z8, rfl⟩
  clear m x5 x6 z1 z2 z4 z7 z8
  intro y c hc
  obtain ⟨m, x5, x6⟩ := y
  obtain ⟨z1, z2, z4, z7, z8, rfl⟩ := hc
  unfold fC_addNumber_33_b
  try dsimp only
  refine T_run hD 3 (c' := (37, [(11, x0), z1, z2, (1, x3), z4, (0, x5), (1, x6), z7, z8], [(0, cmp3 x6 0)], m, XX)) rfl ?_
  refine T_if hD (c1 := (40, _, _, _, _)) (c2 := (101, _, _, _, _)) rfl (fun _ => ?_) (fun _ => ?_)
  · refine T_run hD 2 (c' := (43, [(11, x0), z1, z2, (1, x3), z4, (0, x5), (1, x6), z7, z8], [(1, x6), (1, x3)], m, XX)) rfl ?_
    refine T_gn hD (c1 := (44, [(11, x0), z1, z2, (1, x3), z4, (0, x5), (1, x6), z7, z8], [(1, w64 (Int.tdiv x3 x6))], m, XX)) rfl (fun g2 => ?_)
    refine T_run hD 6 (c' := (54, [(11, x0), z1, z2, (1, x3), z4, (0, x5), (1, x6), aJ z7, (0, w32 (w64 (-(Int.tmod (w64 (Int.tdiv x3 x6)) 10))))], [(0, x5)], m, XX)) rfl ?_
    refine T_if hD (c1 := (57, _, _, _, _)) (c2 := (69, _, _, _, _)) rfl (fun _ => ?_) (fun _ => ?_)
    · refine T_run hD 1 (c' := (59, [(11, x0), z1, z2, (1, x3), z4, (0, x5), (1, x6), aJ z7, (0, w32 (w64 (-(Int.tmod (w64 (Int.tdiv x3 x6)) 10))))], [(0, w32 (w64 (-(Int.tmod (w64 (Int.tdiv x3 x6)) 10))))], m, XX)) rfl ?_
      refine T_if hD (c1 := (62, _, _, _, _)) (c2 := (69, _, _, _, _)) rfl (fun _ => ?_) (fun _ => ?_)
      · refine T_run hD 3 (c' := (66, [(11, x0), z1, z2, (1, x3), z4, (0, x5), (1, x6), aJ z7, (0, w32 (w64 (-(Int.tmod (w64 (Int.tdiv x3 x6)) 10))))], [(0, cmp3 x6 1)], m, XX)) rfl ?_
        refine T_if hD (c1 := (69, _, _, _, _)) (c2 := (73, _, _, _, _)) rfl (fun _ => ?_) (fun _ => ?_)
        · refine T_run hD 2 (c' := (74, [(11, x0), z1, z2, (1, x3), z4, (0, x5), (1, x6), aJ z7, (0, w32 (w64 (-(Int.tmod (w64 (Int.tdiv x3 x6)) 10))))], [(0, 1)], m, XX)) rfl ?_
          exact tC_addNumber_74 r m x0 x3 x6 (w32 (w64 (-(Int.tmod (w64 (Int.tdiv x3 x6)) 10)))) 1 hx0 z1 z2 z4 (0, x5) (aJ z7)
        · refine T_run hD 1 (c' := (74, [(11, x0), z1, z2, (1, x3), z4, (0, x5), (1, x6), aJ z7, (0, w32 (w64 (-(Int.tmod (w64 (Int.tdiv x3 x6)) 10))))], [(0, 0)], m, XX)) rfl ?_
          exact tC_addNumber_74 r m x0 x3 x6 (w32 (w64 (-(Int.tmod (w64 (Int.tdiv x3 x6)) 10)))) 0 hx0 z1 z2 z4 (0, x5) (aJ z7)
      · refine T_run hD 2 (c' := (74, [(11, x0), z1, z2, (1, x3), z4, (0, x5), (1, x6), aJ z7, (0, w32 (w64 (-(Int.tmod (w64 (Int.tdiv x3 x6)) 10))))], [(0, 1)], m, XX)) rfl ?_
        exact tC_addNumber_74 r m x0 x3 x6 (w32 (w64 (-(Int.tmod (w64 (Int.tdiv x3 x6)) 10)))) 1 hx0 z1 z2 z4 (0, x5) (aJ z7)
    · refine T_run hD 2 (c' := (74, [(11, x0), z1, z2, (1, x3), z4, (0, x5), (1, x6), aJ z7, (0, w32 (w64 (-(Int.tmod (w64 (Int.tdiv x3 x6)) 10))))], [(0, 1)], m, XX)) rfl ?_
      exact tC_addNumber_74 r m x0 x3 x6 (w32 (w64 (-(Int.tmod (w64 (Int.tdiv x3 x6)) 10)))) 1 hx0 z1 z2 z4 (0, x5) (aJ z7)
  · exact T_fin hD rfl (fun h => h)
def fC_addNumber_12 (m : aM) (x0 : Int) (x1 : Int) : Option aM :=
  if cmp3 x1 0 < 0 then
    fC_addNumber_33 m x0 x1 0 1000000000000000000
  else
    fC_addNumber_33 m x0 (w64 (-x1)) 0 1000000000000000000
set_option maxRecDepth 100000 in
theorem tC_addNumber_12 (r : aR) (m : aM) (x0 : Int) (x1 : Int) (hx0 : ck x0) (z2 : aV) (z3 : aV) (z4 : aV) (z5 : aV) (z6 : aV) (z7 : aV) (z8 : aV) : aT PB 2 111 r (fun w => r = (0, (0, 0), w, XX)) (fC_addNumber_12 m x0 x1) (12, [(11, x0), (1, x1), z2, z3, z4, z5, z6, z7, z8], [], m, XX) := by
  have hD : aMd PB 111 = d_C_addNumber := rfl
  unfold fC_addNumber_12
  refine T_run hD 3 (c' := (15, [(11, x0), (1, x1), z2, z3, z4, z5, z6, z7, z8], [(0, cmp3 x1 0)], m, XX)) rfl ?_
  refine T_if hD (c1 := (18, _, _, _, _)) (c2 := (22, _, _, _, _)) rfl (fun _ => ?_) (fun _ => ?_)
  · refine T_run hD 7 (c' := (33, [(11, x0), (1, x1), aJ z2, (1, x1), (99, 0), (0, 0), (1, 1000000000000000000), (99, 0), z8], [], m, XX)) rfl ?_
    exact tC_addNumber_33 r m x0 x1 0 1000000000000000000 hx0 (1, x1) (aJ z2) (99, 0) (99, 0) z8
  · refine T_run hD 7 (c' := (33, [(11, x0), (1, x1), aJ z2, (1, w64 (-x1)), (99, 0), (0, 0), (1, 1000000000000000000), (99, 0), z8], [], m, XX)) rfl ?_
    exact tC_addNumber_33 r m x0 (w64 (-x1)) 0 1000000000000000000 hx0 (1, x1) (aJ z2) (99, 0) (99, 0) z8
def fC_addNumber (m : aM) (x0 : Int) (x1 : Int) : Option aM :=
  if cmp3 x1 0 < 0 then
    (fC_add m x0 45).bind fun v1 =>
    fC_addNumber_12 v1 x0 x1
  else
    fC_addNumber_12 m x0 x1
set_option maxRecDepth 100000 in
theorem tC_addNumber (m : aM) (x0 : Int) (x1 : Int) (hx0 : ck x0) : ∀ v, fC_addNumber m x0 x1 = some v → Go PB 2 111 (aEnt d_C_addNumber [(11, x0), (1, x1)] m XX) (0, (0, 0), v, XX) := by
  intro v hv
  have hD : aMd PB 111 = d_C_addNumber := rfl
  obtain ⟨r, hr⟩ : ∃ r : aR, r = (0, (0, 0), v, XX) := ⟨_, rfl⟩
  have h9 : aT PB 2 111 r (fun w => r = (0, (0, 0), w, XX)) (fC_addNumber m x0 x1) (0, [(11, x0), (1, x1), (99, 0), (99, 0), (99, 0), (99, 0), (99, 0), (99, 0), (99, 0)], [], m, XX) := by
    unfold fC_addNumber
    refine T_run hD 3 (c' := (3, [(11, x0), (1, x1), (99, 0), (99, 0), (99, 0), (99, 0), (99, 0), (99, 0), (99, 0)], [(0, cmp3 x1 0)], m, XX)) rfl ?_
    refine T_if hD (c1 := (6, _, _, _, _)) (c2 := (12, _, _, _, _)) rfl (fun _ => ?_) (fun _ => ?_)
    · refine T_run hD 2 (c' := (9, [(11, x0), (1, x1), (99, 0), (99, 0), (99, 0), (99, 0), (99, 0), (99, 0), (99, 0)], [(0, 45), (11, x0)], m, XX)) rfl ?_
      refine T_call hD (D2 := d_C_add) (q2 := 109) (as := [(11, x0), (0, 45)]) (c1 := (12, [(11, x0), (1, x1), (99, 0), (99, 0), (99, 0), (99, 0), (99, 0), (99, 0), (99, 0)], [], m, XX)) (mk := fun w => (0, (0, 0), w, XX)) (cc := fun v1 => (12, [(11, x0), (1, x1), (99, 0), (99, 0), (99, 0), (99, 0), (99, 0), (99, 0), (99, 0)], [], v1, XX)) rfl rfl (fun y9 h9y => Go.mono (tC_add m x0 45 hx0 y9 h9y) (by decide)) (fun _ => rfl) (fun v1 => ?_)
      exact tC_addNumber_12 r v1 x0 x1 hx0 (99, 0) (99, 0) (99, 0) (99, 0) (99, 0) (99, 0) (99, 0)
    · exact tC_addNumber_12 r m x0 x1 hx0 (99, 0) (99, 0) (99, 0) (99, 0) (99, 0) (99, 0) (99, 0)
  rw [← hr]
  exact h9 v hv hr
abbrev hT_writeTo_7 (x1 : Int) : (aM × Int) → aC → Prop := fun y c => c = (7, [(14, 12), (11, x1), (0, (y.2))], [], (y.1), XX)
def fT_writeTo_7_b (x1 : Int) : (aM × Int) → Option ((aM × Int) ⊕ aM) := fun (m, x2) =>
  if x2 < m 12 7 then
    (fT_writeRow m x2 x1).bind fun v2 =>
    some (Sum.inl (v2, w32 (x2 + 1)))
  else
    some (Sum.inr (m))
def fT_writeTo_7 (m : aM) (x1 : Int) (x2 : Int) : Option aM := aLoop (fT_writeTo_7_b x1) FU (m, x2)
set_option maxRecDepth 100000 in
theorem tT_writeTo_7 (r : aR) (m : aM) (x1 : Int) (x2 : Int) (hx1 : ck x1) : aT PB 5 162 r (fun w => r = (0, (0, 0), w, XX)) (fT_writeTo_7 m x1 x2) (7, [(14, 12), (11, x1), (0, x2)], [], m, XX) := by
  have hD : aMd PB 162 = d_T_writeTo := rfl
  refine T_loop (Hd := (hT_writeTo_7 x1)) ?_ FU _ _ rfl
  clear m x2
  intro y c hc
  obtain ⟨m, x2⟩ := y
  obtain rfl := hc
  unfold fT_writeTo_7_b
  try dsimp only
  refine T_run hD 3 (c' := (12, [(14, 12), (11, x1), (0, x2)], [(0, m 12 7), (0, x2)], m, XX)) rfl ?_
  refine T_if hD (c1 := (15, _, _, _, _)) (c2 := (27, _, _, _, _)) rfl (fun _ => ?_) (fun _ => ?_)
  · refine T_run hD 3 (c' := (18, [(14, 12), (11, x1), (0, x2)], [(11, x1), (0, x2), (14, 12)], m, XX)) rfl ?_
    refine T_call hD (D2 := d_T_writeRow) (q2 := 165) (as := [(14, 12), (0, x2), (11, x1)]) (c1 := (21, [(14, 12), (11, x1), (0, x2)], [], m, XX)) (mk := fun w => (0, (0, 0), w, XX)) (cc := fun v2 => (21, [(14, 12), (11, x1), (0, x2)], [], v2, XX)) rfl rfl (fun y9 h9y => Go.mono (tT_writeRow m x2 x1 hx1 y9 h9y) (by decide)) (fun _ => rfl) (fun v2 => ?_)
    refine T_run hD 2 (c' := (7, [(14, 12), (11, x1), (0, w32 (x2 + 1))], [], v2, XX)) rfl ?_
    exact T_back0 rfl
  · exact T_fin hD rfl (fun h => h)
def fT_writeTo (m : aM) (x1 : Int) : Option aM :=
  (fT_writeNames m x1).bind fun v1 =>
  fT_writeTo_7 v1 x1 0
set_option maxRecDepth 100000 in
theorem tT_writeTo (m : aM) (x1 : Int) (hx1 : ck x1) : ∀ v, fT_writeTo m x1 = some v → Go PB 5 162 (aEnt d_T_writeTo [(14, 12), (11, x1)] m XX) (0, (0, 0), v, XX) := by
  intro v hv
  have hD : aMd PB 162 = d_T_writeTo := rfl
  obtain ⟨r, hr⟩ : ∃ r : aR, r = (0, (0, 0), v, XX) := ⟨_, rfl⟩
  have h9 : aT PB 5 162 r (fun w => r = (0, (0, 0), w, XX)) (fT_writeTo m x1) (0, [(14, 12), (11, x1), (99, 0)], [], m, XX) := by
    unfold fT_writeTo
    refine T_run hD 2 (c' := (2, [(14, 12), (11, x1), (99, 0)], [(11, x1), (14, 12)], m, XX)) rfl ?_
    refine T_call hD (D2 := d_T_writeNames) (q2 := 163) (as := [(14, 12), (11, x1)]) (c1 := (5, [(14, 12), (11, x1), (99, 0)], [], m, XX)) (mk := fun w => (0, (0, 0), w, XX)) (cc := fun v1 => (5, [(14, 12), (11, x1), (99, 0)], [], v1, XX)) rfl rfl (fun y9 h9y => Go.mono (tT_writeNames m x1 hx1 y9 h9y) (by decide)) (fun _ => rfl) (fun v1 => ?_)
    refine T_run hD 2 (c' := (7, [(14, 12), (11, x1), (0, 0)], [], v1, XX)) rfl ?_
    exact tT_writeTo_7 r v1 x1 0 hx1 
  rw [← hr]
  exact h9 v hv hr
