abbrev hX_put_45 (m : aM) (x1 : Int) (x2 : Int) (x4 : Int) (x5 : Int) : (Int) → aC → Prop := fun y c => ∃ (z0 : aV) (z3 : aV), c = (45, [z0, (0, x1), (1, x2), z3, (0, x4), (11, x5), (0, (y))], [], m, XX)
abbrev hX_put_76 (x2 : Int) (x4 : Int) (x5 : Int) : (aM × Int) → aC → Prop := fun y c => ∃ (z0 : aV) (z1 : aV) (z3 : aV), c = (76, [z0, z1, (1, x2), z3, (0, x4), (11, x5), (0, (y.2))], [], (y.1), XX)
def fX_put_76_b (x2 : Int) (x4 : Int) (x5 : Int) : (aM × Int) → Option ((aM × Int) ⊕ (Int × aM)) := fun (m, x6) =>
  if x6 < x4 then
    (fC_add m x5 (fX_byteOf x2 x6)).bind fun v1 =>
    some (Sum.inl (v1, w32 (x6 + 1)))
  else
    some (Sum.inr ((1, m)))
def fX_put_76 (m : aM) (x2 : Int) (x4 : Int) (x5 : Int) (x6 : Int) : Option (Int × aM) := aLoop (fX_put_76_b x2 x4 x5) FU (m, x6)
set_option maxRecDepth 100000 in
theorem tX_put_76 (r : aR) (m : aM) (x2 : Int) (x4 : Int) (x5 : Int) (x6 : Int) (hx5 : ck x5) (z0 : aV) (z1 : aV) (z3 : aV) : aT PB 2 1 r (fun w => r = (1, (0, w.1), w.2, XX)) (fX_put_76 m x2 x4 x5 x6) (76, [z0, z1, (1, x2), z3, (0, x4), (11, x5), (0, x6)], [], m, XX) := by
  have hD : aMd PB 1 = d_X_put := rfl
  refine T_loop (Hd := (hX_put_76 x2 x4 x5)) ?_ FU _ _ ⟨z0, z1, z3, rfl⟩
  clear m x6 z0 z1 z3
  intro y c hc
  obtain ⟨m, x6⟩ := y
  obtain ⟨z0, z1, z3, rfl⟩ := hc
  unfold fX_put_76_b
  try dsimp only
  refine T_run hD 2 (c' := (80, [z0, z1, (1, x2), z3, (0, x4), (11, x5), (0, x6)], [(0, x4), (0, x6)], m, XX)) rfl ?_
  refine T_if hD (c1 := (83, _, _, _, _)) (c2 := (100, _, _, _, _)) rfl (fun _ => ?_) (fun _ => ?_)
  · refine T_run hD 3 (c' := (88, [z0, z1, (1, x2), z3, (0, x4), (11, x5), (0, x6)], [(0, x6), (1, x2), (11, x5)], m, XX)) rfl ?_
    refine T_call0 hD (D2 := d_X_byteOf) (q2 := 15) (as := [(1, x2), (0, x6)]) (c1 := (91, [z0, z1, (1, x2), z3, (0, x4), (11, x5), (0, x6)], [(11, x5)], m, XX)) (r2 := (1, (0, fX_byteOf x2 x6), m, XX)) (c2 := (91, [z0, z1, (1, x2), z3, (0, x4), (11, x5), (0, x6)], [(0, fX_byteOf x2 x6), (11, x5)], m, XX)) rfl rfl (Go.mono (tX_byteOf m x2 x6) (by decide)) rfl ?_
    refine T_call hD (D2 := d_C_add) (q2 := 109) (as := [(11, x5), (0, fX_byteOf x2 x6)]) (c1 := (94, [z0, z1, (1, x2), z3, (0, x4), (11, x5), (0, x6)], [], m, XX)) (mk := fun w => (0, (0, 0), w, XX)) (cc := fun v1 => (94, [z0, z1, (1, x2), z3, (0, x4), (11, x5), (0, x6)], [], v1, XX)) rfl rfl (fun y9 h9y => Go.mono (tC_add m x5 (fX_byteOf x2 x6) hx5 y9 h9y) (by decide)) (fun _ => rfl) (fun v1 => ?_)
    refine T_run hD 2 (c' := (76, [z0, z1, (1, x2), z3, (0, x4), (11, x5), (0, w32 (x6 + 1))], [], v1, XX)) rfl ?_
    exact T_back0 ⟨_, _, _, rfl⟩
  · refine T_run hD 1 (c' := (101, [z0, z1, (1, x2), z3, (0, x4), (11, x5), (0, x6)], [(0, 1)], m, XX)) rfl ?_
    exact T_fin hD rfl (fun h => h)
def fX_put_45_b (m : aM) (x1 : Int) (x2 : Int) (x4 : Int) (x5 : Int) : (Int) → Option ((Int) ⊕ (Int × aM)) := fun (x6) =>
  if x6 < x4 then
    if fX_mayStand (fX_byteOf x2 x6) x1 = 0 then
      some (Sum.inr ((0, m)))
    else
      some (Sum.inl (w32 (x6 + 1)))
  else
    (fX_put_76 m x2 x4 x5 0).map Sum.inr
def fX_put_45 (m : aM) (x1 : Int) (x2 : Int) (x4 : Int) (x5 : Int) (x6 : Int) : Option (Int × aM) := aLoop (fX_put_45_b m x1 x2 x4 x5) FU (x6)
set_option maxRecDepth 100000 in
theorem tX_put_45 (r : aR) (m : aM) (x1 : Int) (x2 : Int) (x4 : Int) (x5 : Int) (x6 : Int) (hx5 : ck x5) (z0 : aV) (z3 : aV) : aT PB 2 1 r (fun w => r = (1, (0, w.1), w.2, XX)) (fX_put_45 m x1 x2 x4 x5 x6) (45, [z0, (0, x1), (1, x2), z3, (0, x4), (11, x5), (0, x6)], [], m, XX) := by
  have hD : aMd PB 1 = d_X_put := rfl
  refine T_loop (Hd := (hX_put_45 m x1 x2 x4 x5)) ?_ FU _ _ ⟨z0, z3, rfl⟩
  clear x6 z0 z3
  intro x6 c hc
  obtain ⟨z0, z3, rfl⟩ := hc
  unfold fX_put_45_b
  try dsimp only
  refine T_run hD 2 (c' := (49, [z0, (0, x1), (1, x2), z3, (0, x4), (11, x5), (0, x6)], [(0, x4), (0, x6)], m, XX)) rfl ?_
  refine T_if hD (c1 := (52, _, _, _, _)) (c2 := (73, _, _, _, _)) rfl (fun _ => ?_) (fun _ => ?_)
  · refine T_run hD 2 (c' := (55, [z0, (0, x1), (1, x2), z3, (0, x4), (11, x5), (0, x6)], [(0, x6), (1, x2)], m, XX)) rfl ?_
    refine T_call0 hD (D2 := d_X_byteOf) (q2 := 15) (as := [(1, x2), (0, x6)]) (c1 := (58, [z0, (0, x1), (1, x2), z3, (0, x4), (11, x5), (0, x6)], [], m, XX)) (r2 := (1, (0, fX_byteOf x2 x6), m, XX)) (c2 := (58, [z0, (0, x1), (1, x2), z3, (0, x4), (11, x5), (0, x6)], [(0, fX_byteOf x2 x6)], m, XX)) rfl rfl (Go.mono (tX_byteOf m x2 x6) (by decide)) rfl ?_
    refine T_run hD 1 (c' := (59, [z0, (0, x1), (1, x2), z3, (0, x4), (11, x5), (0, x6)], [(0, x1), (0, fX_byteOf x2 x6)], m, XX)) rfl ?_
    refine T_call0 hD (D2 := d_X_mayStand) (q2 := 16) (as := [(0, fX_byteOf x2 x6), (0, x1)]) (c1 := (62, [z0, (0, x1), (1, x2), z3, (0, x4), (11, x5), (0, x6)], [], m, XX)) (r2 := (1, (0, fX_mayStand (fX_byteOf x2 x6) x1), m, XX)) (c2 := (62, [z0, (0, x1), (1, x2), z3, (0, x4), (11, x5), (0, x6)], [(0, fX_mayStand (fX_byteOf x2 x6) x1)], m, XX)) rfl rfl (Go.mono (tX_mayStand m (fX_byteOf x2 x6) x1) (by decide)) rfl ?_
    refine T_if hD (c1 := (65, _, _, _, _)) (c2 := (67, _, _, _, _)) rfl (fun _ => ?_) (fun _ => ?_)
    · refine T_run hD 1 (c' := (66, [z0, (0, x1), (1, x2), z3, (0, x4), (11, x5), (0, x6)], [(0, 0)], m, XX)) rfl ?_
      exact T_fin hD rfl (fun h => h)
    · refine T_run hD 2 (c' := (45, [z0, (0, x1), (1, x2), z3, (0, x4), (11, x5), (0, w32 (x6 + 1))], [], m, XX)) rfl ?_
      exact T_back0 ⟨_, _, rfl⟩
  · refine T_run hD 2 (c' := (76, [z0, (0, x1), (1, x2), z3, (0, x4), (11, x5), (0, 0)], [], m, XX)) rfl ?_
    exact T_map (tX_put_76 r m x2 x4 x5 0 hx5 z0 (0, x1) z3)
def fX_put_15 (m : aM) (x1 : Int) (x2 : Int) (x4 : Int) (s0 : Int) : Option (Int × aM) :=
  if x4 < 1 then
    some ((0, m))
  else
    if 8 < x4 then
      some ((0, m))
    else
      if fC_free m s0 < x4 then
        some ((0, m))
      else
        fX_put_45 m x1 x2 x4 s0 0
set_option maxRecDepth 100000 in
theorem tX_put_15 (r : aR) (m : aM) (x1 : Int) (x2 : Int) (x4 : Int) (s0 : Int) (hs0 : ck s0) (z0 : aV) (z3 : aV) (z5 : aV) (z6 : aV) : aT PB 2 1 r (fun w => r = (1, (0, w.1), w.2, XX)) (fX_put_15 m x1 x2 x4 s0) (15, [z0, (0, x1), (1, x2), z3, (0, x4), z5, z6], [(11, s0)], m, XX) := by
  have hD : aMd PB 1 = d_X_put := rfl
  unfold fX_put_15
  refine T_run hD 3 (c' := (20, [z0, (0, x1), (1, x2), z3, (0, x4), (11, s0), z6], [(0, 1), (0, x4)], m, XX)) rfl ?_
  refine T_if hD (c1 := (40, _, _, _, _)) (c2 := (23, _, _, _, _)) rfl (fun _ => ?_) (fun _ => ?_)
  · refine T_run hD 1 (c' := (41, [z0, (0, x1), (1, x2), z3, (0, x4), (11, s0), z6], [(0, 0)], m, XX)) rfl ?_
    exact T_fin hD rfl (fun h => h)
  · refine T_run hD 2 (c' := (27, [z0, (0, x1), (1, x2), z3, (0, x4), (11, s0), z6], [(0, 8), (0, x4)], m, XX)) rfl ?_
    refine T_if hD (c1 := (40, _, _, _, _)) (c2 := (30, _, _, _, _)) rfl (fun _ => ?_) (fun _ => ?_)
    · refine T_run hD 1 (c' := (41, [z0, (0, x1), (1, x2), z3, (0, x4), (11, s0), z6], [(0, 0)], m, XX)) rfl ?_
      exact T_fin hD rfl (fun h => h)
    · refine T_run hD 2 (c' := (34, [z0, (0, x1), (1, x2), z3, (0, x4), (11, s0), z6], [(11, s0), (0, x4)], m, XX)) rfl ?_
      refine T_call0 hD (D2 := d_C_free) (q2 := 108) (as := [(11, s0)]) (c1 := (37, [z0, (0, x1), (1, x2), z3, (0, x4), (11, s0), z6], [(0, x4)], m, XX)) (r2 := (1, (0, fC_free m s0), m, XX)) (c2 := (37, [z0, (0, x1), (1, x2), z3, (0, x4), (11, s0), z6], [(0, fC_free m s0), (0, x4)], m, XX)) rfl rfl (Go.mono (tC_free m s0 hs0) (by decide)) rfl ?_
      refine T_if hD (c1 := (40, _, _, _, _)) (c2 := (42, _, _, _, _)) rfl (fun _ => ?_) (fun _ => ?_)
      · refine T_run hD 1 (c' := (41, [z0, (0, x1), (1, x2), z3, (0, x4), (11, s0), z6], [(0, 0)], m, XX)) rfl ?_
        exact T_fin hD rfl (fun h => h)
      · refine T_run hD 2 (c' := (45, [z0, (0, x1), (1, x2), z3, (0, x4), (11, s0), (0, 0)], [], m, XX)) rfl ?_
        exact tX_put_45 r m x1 x2 x4 s0 0 hs0 z0 z3
def fX_put (m : aM) (x1 : Int) (x2 : Int) (x4 : Int) : Option (Int × aM) :=
  if x1 = 0 then
    fX_put_15 m x1 x2 x4 2
  else
    fX_put_15 m x1 x2 x4 4
set_option maxRecDepth 100000 in
theorem tX_put (m : aM) (x1 : Int) (x2 : Int) (x4 : Int) : ∀ v, fX_put m x1 x2 x4 = some v → Go PB 2 1 (aEnt d_X_put [(17, 1), (0, x1), (1, x2), (0, x4)] m XX) (1, (0, v.1), v.2, XX) := by
  intro v hv
  have hD : aMd PB 1 = d_X_put := rfl
  obtain ⟨r, hr⟩ : ∃ r : aR, r = (1, (0, v.1), v.2, XX) := ⟨_, rfl⟩
  have h9 : aT PB 2 1 r (fun w => r = (1, (0, w.1), w.2, XX)) (fX_put m x1 x2 x4) (0, [(17, 1), (0, x1), (1, x2), (99, 0), (0, x4), (99, 0), (99, 0)], [], m, XX) := by
    unfold fX_put
    refine T_run hD 1 (c' := (1, [(17, 1), (0, x1), (1, x2), (99, 0), (0, x4), (99, 0), (99, 0)], [(0, x1)], m, XX)) rfl ?_
    refine T_if hD (c1 := (11, _, _, _, _)) (c2 := (4, _, _, _, _)) rfl (fun _ => ?_) (fun _ => ?_)
    · refine T_run hD 2 (c' := (15, [(17, 1), (0, x1), (1, x2), (99, 0), (0, x4), (99, 0), (99, 0)], [(11, 2)], m, XX)) rfl ?_
      exact tX_put_15 r m x1 x2 x4 2 (by decide) (17, 1) (99, 0) (99, 0) (99, 0)
    · refine T_run hD 3 (c' := (15, [(17, 1), (0, x1), (1, x2), (99, 0), (0, x4), (99, 0), (99, 0)], [(11, 4)], m, XX)) rfl ?_
      exact tX_put_15 r m x1 x2 x4 4 (by decide) (17, 1) (99, 0) (99, 0) (99, 0)
  rw [← hr]
  exact h9 v hv hr
def fX_cut_15 (m : aM) (x2 : Int) (s0 : Int) : (Int × aM) :=
  if x2 < 0 then
    (0, m)
  else
    if m s0 1 < x2 then
      (0, m)
    else
      (1, fC_keepFirst m s0 x2)
set_option maxRecDepth 100000 in
theorem tX_cut_15 (m : aM) (x2 : Int) (s0 : Int) (hs0 : ck s0) (z0 : aV) (z1 : aV) (z3 : aV) : aU PB 2 2 (fun w => (1, (0, w.1), w.2, XX)) (fX_cut_15 m x2 s0) (15, [z0, z1, (0, x2), z3], [(11, s0)], m, XX) := by
  have hD : aMd PB 2 = d_X_cut := rfl
  unfold fX_cut_15
  refine U_run hD 2 (c' := (17, [z0, z1, (0, x2), (11, s0)], [(0, x2)], m, XX)) rfl ?_
  refine U_if hD (c1 := (28, _, _, _, _)) (c2 := (20, _, _, _, _)) rfl (fun _ => ?_) (fun _ => ?_)
  · refine U_run hD 1 (c' := (29, [z0, z1, (0, x2), (11, s0)], [(0, 0)], m, XX)) rfl ?_
    exact Go.fin hD rfl
  · refine U_run hD 3 (c' := (25, [z0, z1, (0, x2), (11, s0)], [(0, m s0 1), (0, x2)], m, XX)) rfl ?_
    refine U_if hD (c1 := (28, _, _, _, _)) (c2 := (30, _, _, _, _)) rfl (fun _ => ?_) (fun _ => ?_)
    · refine U_run hD 1 (c' := (29, [z0, z1, (0, x2), (11, s0)], [(0, 0)], m, XX)) rfl ?_
      exact Go.fin hD rfl
    · refine U_run hD 2 (c' := (32, [z0, z1, (0, x2), (11, s0)], [(0, x2), (11, s0)], m, XX)) rfl ?_
      refine U_call0 hD (D2 := d_C_keepFirst) (q2 := 112) (as := [(11, s0), (0, x2)]) (c1 := (35, [z0, z1, (0, x2), (11, s0)], [], m, XX)) (r2 := (0, (0, 0), fC_keepFirst m s0 x2, XX)) (c2 := (35, [z0, z1, (0, x2), (11, s0)], [], fC_keepFirst m s0 x2, XX)) rfl rfl (Go.mono (tC_keepFirst m s0 x2 hs0) (by decide)) rfl ?_
      refine U_run hD 1 (c' := (36, [z0, z1, (0, x2), (11, s0)], [(0, 1)], fC_keepFirst m s0 x2, XX)) rfl ?_
      exact Go.fin hD rfl
def fX_cut (m : aM) (x1 : Int) (x2 : Int) : (Int × aM) :=
  if x1 = 0 then
    fX_cut_15 m x2 2
  else
    fX_cut_15 m x2 4
set_option maxRecDepth 100000 in
theorem tX_cut (m : aM) (x1 : Int) (x2 : Int) : Go PB 2 2 (aEnt d_X_cut [(17, 1), (0, x1), (0, x2)] m XX) (1, (0, (fX_cut m x1 x2).1), (fX_cut m x1 x2).2, XX) := by
  have hD : aMd PB 2 = d_X_cut := rfl
  show aU PB 2 2 (fun w => (1, (0, w.1), w.2, XX)) (fX_cut m x1 x2) (0, [(17, 1), (0, x1), (0, x2), (99, 0)], [], m, XX)
  unfold fX_cut
  refine U_run hD 1 (c' := (1, [(17, 1), (0, x1), (0, x2), (99, 0)], [(0, x1)], m, XX)) rfl ?_
  refine U_if hD (c1 := (11, _, _, _, _)) (c2 := (4, _, _, _, _)) rfl (fun _ => ?_) (fun _ => ?_)
  · refine U_run hD 2 (c' := (15, [(17, 1), (0, x1), (0, x2), (99, 0)], [(11, 2)], m, XX)) rfl ?_
    exact tX_cut_15 m x2 2 (by decide) (17, 1) (0, x1) (99, 0)
  · refine U_run hD 3 (c' := (15, [(17, 1), (0, x1), (0, x2), (99, 0)], [(11, 4)], m, XX)) rfl ?_
    exact tX_cut_15 m x2 4 (by decide) (17, 1) (0, x1) (99, 0)
def fX_load (m : aM) : Option (Nat × Int × aM) :=
  (fR_find m 2).bind fun v1 =>
  if v1.1 = 0 then
    some ((2, 0, v1.2))
  else
    if fR_areEven v1.2 = 0 then
      some ((3, 0, v1.2))
    else
      (fR_haveNames v1.2 2).bind fun v2 =>
      if v2 = 0 then
        some ((4, 0, v1.2))
      else
        if 16 < w32 ((v1.2 8 4) - 1) then
          some ((5, 0, v1.2))
        else
          (fT_take v1.2 2).bind fun v3 =>
          some ((1, v3 12 7, mup v3 123 0 0))
set_option maxRecDepth 100000 in
theorem tX_load (m : aM) : ∀ v, fX_load m = some v → Go PB 9 3 (aEnt d_X_load [(17, 1)] m XX) (mkT 0 v) := by
  intro v hv
  have hD : aMd PB 3 = d_X_load := rfl
  obtain ⟨r, hr⟩ : ∃ r : aR, r = (mkT 0 v) := ⟨_, rfl⟩
  have h9 : aT PB 9 3 r (fun w => r = (mkT 0 w)) (fX_load m) (0, [(17, 1)], [], m, XX) := by
    unfold fX_load
    refine T_run hD 4 (c' := (8, [(17, 1)], [(11, 2), (13, 8)], m, XX)) rfl ?_
    refine T_call hD (D2 := d_R_find) (q2 := 144) (as := [(13, 8), (11, 2)]) (c1 := (11, [(17, 1)], [], m, XX)) (mk := fun w => (1, (0, w.1), w.2, XX)) (cc := fun v1 => (11, [(17, 1)], [(0, v1.1)], v1.2, XX)) rfl rfl (fun y9 h9y => Go.mono (tR_find m 2 (by decide) y9 h9y) (by decide)) (fun _ => rfl) (fun v1 => ?_)
    refine T_if hD (c1 := (14, _, _, _, _)) (c2 := (24, _, _, _, _)) rfl (fun _ => ?_) (fun _ => ?_)
    · exact T_fin hD rfl (fun h => h)
    · refine T_run hD 2 (c' := (28, [(17, 1)], [(13, 8)], v1.2, XX)) rfl ?_
      refine T_call0 hD (D2 := d_R_areEven) (q2 := 145) (as := [(13, 8)]) (c1 := (31, [(17, 1)], [], v1.2, XX)) (r2 := (1, (0, fR_areEven v1.2), v1.2, XX)) (c2 := (31, [(17, 1)], [(0, fR_areEven v1.2)], v1.2, XX)) rfl rfl (Go.mono (tR_areEven v1.2) (by decide)) rfl ?_
      refine T_if hD (c1 := (34, _, _, _, _)) (c2 := (44, _, _, _, _)) rfl (fun _ => ?_) (fun _ => ?_)
      · exact T_fin hD rfl (fun h => h)
      · refine T_run hD 4 (c' := (52, [(17, 1)], [(11, 2), (13, 8)], v1.2, XX)) rfl ?_
        refine T_call hD (D2 := d_R_haveNames) (q2 := 146) (as := [(13, 8), (11, 2)]) (c1 := (55, [(17, 1)], [], v1.2, XX)) (mk := fun w => (1, (0, w), v1.2, XX)) (cc := fun v2 => (55, [(17, 1)], [(0, v2)], v1.2, XX)) rfl rfl (fun y9 h9y => Go.mono (tR_haveNames v1.2 2 (by decide) y9 h9y) (by decide)) (fun _ => rfl) (fun v2 => ?_)
        refine T_if hD (c1 := (58, _, _, _, _)) (c2 := (68, _, _, _, _)) rfl (fun _ => ?_) (fun _ => ?_)
        · exact T_fin hD rfl (fun h => h)
        · refine T_run hD 6 (c' := (79, [(17, 1)], [(0, 16), (0, w32 ((v1.2 8 4) - 1))], v1.2, XX)) rfl ?_
          refine T_if hD (c1 := (82, _, _, _, _)) (c2 := (92, _, _, _, _)) rfl (fun _ => ?_) (fun _ => ?_)
          · exact T_fin hD rfl (fun h => h)
          · refine T_run hD 6 (c' := (104, [(17, 1)], [(11, 2), (13, 8), (14, 12)], v1.2, XX)) rfl ?_
            refine T_call hD (D2 := d_T_take) (q2 := 152) (as := [(14, 12), (13, 8), (11, 2)]) (c1 := (107, [(17, 1)], [], v1.2, XX)) (mk := fun w => (0, (0, 0), w, XX)) (cc := fun v3 => (107, [(17, 1)], [], v3, XX)) rfl rfl (fun y9 h9y => Go.mono (tT_take v1.2 2 (by decide) y9 h9y) (by decide)) (fun _ => rfl) (fun v3 => ?_)
            refine T_run hD 7 (c' := (122, [(17, 1)], [(0, v3 12 7)], mup v3 123 0 0, XX)) rfl ?_
            exact T_fin hD rfl (fun h => h)
  rw [← hr]
  exact h9 v hv hr
def fX_columns (m : aM) : Int :=
  m 12 8
set_option maxRecDepth 100000 in
theorem tX_columns (m : aM) : Go PB 1 4 (aEnt d_X_columns [(17, 1)] m XX) (1, (0, (fX_columns m)), m, XX) := by
  have hD : aMd PB 4 = d_X_columns := rfl
  show aU PB 1 4 (fun w => (1, (0, w), m, XX)) (fX_columns m) (0, [(17, 1)], [], m, XX)
  unfold fX_columns
  refine U_run hD 3 (c' := (7, [(17, 1)], [(0, m 12 8)], m, XX)) rfl ?_
  exact Go.fin hD rfl
def fX_type (m : aM) (x1 : Int) : Option (Nat × Int × aM) :=
  if fT_hasColumn m x1 = 0 then
    some ((6, 0, m))
  else
    (fT_typeAt m x1).bind fun v1 =>
    some ((1, v1, m))
set_option maxRecDepth 100000 in
theorem tX_type (m : aM) (x1 : Int) : ∀ v, fX_type m x1 = some v → Go PB 3 5 (aEnt d_X_type [(17, 1), (0, x1)] m XX) (mkT 0 v) := by
  intro v hv
  have hD : aMd PB 5 = d_X_type := rfl
  obtain ⟨r, hr⟩ : ∃ r : aR, r = (mkT 0 v) := ⟨_, rfl⟩
  have h9 : aT PB 3 5 r (fun w => r = (mkT 0 w)) (fX_type m x1) (0, [(17, 1), (0, x1)], [], m, XX) := by
    unfold fX_type
    refine T_run hD 3 (c' := (5, [(17, 1), (0, x1)], [(0, x1), (14, 12)], m, XX)) rfl ?_
    refine T_call0 hD (D2 := d_T_hasColumn) (q2 := 153) (as := [(14, 12), (0, x1)]) (c1 := (8, [(17, 1), (0, x1)], [], m, XX)) (r2 := (1, (0, fT_hasColumn m x1), m, XX)) (c2 := (8, [(17, 1), (0, x1)], [(0, fT_hasColumn m x1)], m, XX)) rfl rfl (Go.mono (tT_hasColumn m x1) (by decide)) rfl ?_
    refine T_if hD (c1 := (11, _, _, _, _)) (c2 := (21, _, _, _, _)) rfl (fun _ => ?_) (fun _ => ?_)
    · exact T_fin hD rfl (fun h => h)
    · refine T_run hD 3 (c' := (26, [(17, 1), (0, x1)], [(0, x1), (14, 12)], m, XX)) rfl ?_
      refine T_call hD (D2 := d_T_typeAt) (q2 := 155) (as := [(14, 12), (0, x1)]) (c1 := (29, [(17, 1), (0, x1)], [], m, XX)) (mk := fun w => (1, (0, w), m, XX)) (cc := fun v1 => (29, [(17, 1), (0, x1)], [(0, v1)], m, XX)) rfl rfl (fun y9 h9y => Go.mono (tT_typeAt m x1 y9 h9y) (by decide)) (fun _ => rfl) (fun v1 => ?_)
      exact T_fin hD rfl (fun h => h)
  rw [← hr]
  exact h9 v hv hr
def fX_isMissing (m : aM) (x1 : Int) (x2 : Int) : Option (Nat × Int × aM) :=
  if fT_hasCell m x1 x2 = 0 then
    some ((6, 0, m))
  else
    (fT_lacks m x1 x2).bind fun v1 =>
    gd (v1 = 0 ∨ v1 = 1) (some ((1, v1, m)))
set_option maxRecDepth 100000 in
theorem tX_isMissing (m : aM) (x1 : Int) (x2 : Int) : ∀ v, fX_isMissing m x1 x2 = some v → Go PB 3 6 (aEnt d_X_isMissing [(17, 1), (0, x1), (0, x2)] m XX) (mkT 0 v) := by
  intro v hv
  have hD : aMd PB 6 = d_X_isMissing := rfl
  obtain ⟨r, hr⟩ : ∃ r : aR, r = (mkT 0 v) := ⟨_, rfl⟩
  have h9 : aT PB 3 6 r (fun w => r = (mkT 0 w)) (fX_isMissing m x1 x2) (0, [(17, 1), (0, x1), (0, x2)], [], m, XX) := by
    unfold fX_isMissing
    refine T_run hD 4 (c' := (6, [(17, 1), (0, x1), (0, x2)], [(0, x2), (0, x1), (14, 12)], m, XX)) rfl ?_
    refine T_call0 hD (D2 := d_T_hasCell) (q2 := 154) (as := [(14, 12), (0, x1), (0, x2)]) (c1 := (9, [(17, 1), (0, x1), (0, x2)], [], m, XX)) (r2 := (1, (0, fT_hasCell m x1 x2), m, XX)) (c2 := (9, [(17, 1), (0, x1), (0, x2)], [(0, fT_hasCell m x1 x2)], m, XX)) rfl rfl (Go.mono (tT_hasCell m x1 x2) (by decide)) rfl ?_
    refine T_if hD (c1 := (12, _, _, _, _)) (c2 := (22, _, _, _, _)) rfl (fun _ => ?_) (fun _ => ?_)
    · exact T_fin hD rfl (fun h => h)
    · refine T_run hD 4 (c' := (28, [(17, 1), (0, x1), (0, x2)], [(0, x2), (0, x1), (14, 12)], m, XX)) rfl ?_
      refine T_call hD (D2 := d_T_lacks) (q2 := 156) (as := [(14, 12), (0, x1), (0, x2)]) (c1 := (31, [(17, 1), (0, x1), (0, x2)], [], m, XX)) (mk := fun w => (1, (0, w), m, XX)) (cc := fun v1 => (31, [(17, 1), (0, x1), (0, x2)], [(0, v1)], m, XX)) rfl rfl (fun y9 h9y => Go.mono (tT_lacks m x1 x2 y9 h9y) (by decide)) (fun _ => rfl) (fun v1 => ?_)
      exact T_gfin hD (fun h => if_pos (decide_eq_true h)) (fun h => h)
  rw [← hr]
  exact h9 v hv hr
def fX_value (m : aM) (x1 : Int) (x2 : Int) : Option (Nat × Int × aM) :=
  if fT_hasCell m x1 x2 = 0 then
    some ((6, 0, m))
  else
    (fT_typeAt m x2).bind fun v1 =>
    if v1 = 3 then
      some ((3, 0, m))
    else
      (fT_lacks m x1 x2).bind fun v2 =>
      if v2 = 0 then
        (fT_valueAt m x1 x2).bind fun v3 =>
        some ((1, v3, m))
      else
        some ((4, 0, m))
set_option maxRecDepth 100000 in
theorem tX_value (m : aM) (x1 : Int) (x2 : Int) : ∀ v, fX_value m x1 x2 = some v → Go PB 3 7 (aEnt d_X_value [(17, 1), (0, x1), (0, x2)] m XX) (mkT 1 v) := by
  intro v hv
  have hD : aMd PB 7 = d_X_value := rfl
  obtain ⟨r, hr⟩ : ∃ r : aR, r = (mkT 1 v) := ⟨_, rfl⟩
  have h9 : aT PB 3 7 r (fun w => r = (mkT 1 w)) (fX_value m x1 x2) (0, [(17, 1), (0, x1), (0, x2)], [], m, XX) := by
    unfold fX_value
    refine T_run hD 4 (c' := (6, [(17, 1), (0, x1), (0, x2)], [(0, x2), (0, x1), (14, 12)], m, XX)) rfl ?_
    refine T_call0 hD (D2 := d_T_hasCell) (q2 := 154) (as := [(14, 12), (0, x1), (0, x2)]) (c1 := (9, [(17, 1), (0, x1), (0, x2)], [], m, XX)) (r2 := (1, (0, fT_hasCell m x1 x2), m, XX)) (c2 := (9, [(17, 1), (0, x1), (0, x2)], [(0, fT_hasCell m x1 x2)], m, XX)) rfl rfl (Go.mono (tT_hasCell m x1 x2) (by decide)) rfl ?_
    refine T_if hD (c1 := (12, _, _, _, _)) (c2 := (22, _, _, _, _)) rfl (fun _ => ?_) (fun _ => ?_)
    · exact T_fin hD rfl (fun h => h)
    · refine T_run hD 3 (c' := (27, [(17, 1), (0, x1), (0, x2)], [(0, x2), (14, 12)], m, XX)) rfl ?_
      refine T_call hD (D2 := d_T_typeAt) (q2 := 155) (as := [(14, 12), (0, x2)]) (c1 := (30, [(17, 1), (0, x1), (0, x2)], [], m, XX)) (mk := fun w => (1, (0, w), m, XX)) (cc := fun v1 => (30, [(17, 1), (0, x1), (0, x2)], [(0, v1)], m, XX)) rfl rfl (fun y9 h9y => Go.mono (tT_typeAt m x2 y9 h9y) (by decide)) (fun _ => rfl) (fun v1 => ?_)
      refine T_run hD 1 (c' := (31, [(17, 1), (0, x1), (0, x2)], [(0, 3), (0, v1)], m, XX)) rfl ?_
      refine T_if hD (c1 := (34, _, _, _, _)) (c2 := (44, _, _, _, _)) rfl (fun _ => ?_) (fun _ => ?_)
      · exact T_fin hD rfl (fun h => h)
      · refine T_run hD 4 (c' := (50, [(17, 1), (0, x1), (0, x2)], [(0, x2), (0, x1), (14, 12)], m, XX)) rfl ?_
        refine T_call hD (D2 := d_T_lacks) (q2 := 156) (as := [(14, 12), (0, x1), (0, x2)]) (c1 := (53, [(17, 1), (0, x1), (0, x2)], [], m, XX)) (mk := fun w => (1, (0, w), m, XX)) (cc := fun v2 => (53, [(17, 1), (0, x1), (0, x2)], [(0, v2)], m, XX)) rfl rfl (fun y9 h9y => Go.mono (tT_lacks m x1 x2 y9 h9y) (by decide)) (fun _ => rfl) (fun v2 => ?_)
        refine T_if hD (c1 := (66, _, _, _, _)) (c2 := (56, _, _, _, _)) rfl (fun _ => ?_) (fun _ => ?_)
        · refine T_run hD 4 (c' := (72, [(17, 1), (0, x1), (0, x2)], [(0, x2), (0, x1), (14, 12)], m, XX)) rfl ?_
          refine T_call hD (D2 := d_T_valueAt) (q2 := 157) (as := [(14, 12), (0, x1), (0, x2)]) (c1 := (75, [(17, 1), (0, x1), (0, x2)], [], m, XX)) (mk := fun w => (1, (1, w), m, XX)) (cc := fun v3 => (75, [(17, 1), (0, x1), (0, x2)], [(1, v3)], m, XX)) rfl rfl (fun y9 h9y => Go.mono (tT_valueAt m x1 x2 y9 h9y) (by decide)) (fun _ => rfl) (fun v3 => ?_)
          exact T_fin hD rfl (fun h => h)
        · exact T_fin hD rfl (fun h => h)
  rw [← hr]
  exact h9 v hv hr
def fX_ask (m : aM) : Option (Nat × Int × aM) :=
  if m 12 8 = 0 then
    some ((3, 0, m))
  else
    (fS_split (mup m 123 0 0) 4).bind fun v1 =>
    (fQ_read v1).bind fun v2 =>
    if v2.1 = (-1) then
      (fQ_choose (mup v2.2 1 7 v2.1) 4).bind fun v3 =>
      (fA_take v3.2 v3.1).bind fun v4 =>
      (fA_sortRows v4 (v4 21 9)).bind fun v5 =>
      (fA_putTogether v5).bind fun v6 =>
      if v6.1 = 0 then
        some ((5, 0, v6.2))
      else
        some ((1, v6.2 123 4, mup v6.2 123 0 1))
    else
      some ((2, 0, mup v2.2 1 7 v2.1))
set_option maxRecDepth 100000 in
theorem tX_ask (m : aM) : ∀ v, fX_ask m = some v → Go PB 41 8 (aEnt d_X_ask [(17, 1)] m XX) (mkT 0 v) := by
  intro v hv
  have hD : aMd PB 8 = d_X_ask := rfl
  obtain ⟨r, hr⟩ : ∃ r : aR, r = (mkT 0 v) := ⟨_, rfl⟩
  have h9 : aT PB 41 8 r (fun w => r = (mkT 0 w)) (fX_ask m) (0, [(17, 1)], [], m, XX) := by
    unfold fX_ask
    refine T_run hD 3 (c' := (7, [(17, 1)], [(0, m 12 8)], m, XX)) rfl ?_
    refine T_if hD (c1 := (10, _, _, _, _)) (c2 := (20, _, _, _, _)) rfl (fun _ => ?_) (fun _ => ?_)
    · exact T_fin hD rfl (fun h => h)
    · refine T_run hD 11 (c' := (43, [(17, 1)], [(14, 12), (11, 4), (16, 22)], mup m 123 0 0, XX)) rfl ?_
      refine T_call hD (D2 := d_S_split) (q2 := 180) (as := [(16, 22), (11, 4), (14, 12)]) (c1 := (46, [(17, 1)], [], mup m 123 0 0, XX)) (mk := fun w => (0, (0, 0), w, XX)) (cc := fun v1 => (46, [(17, 1)], [], v1, XX)) rfl rfl (fun y9 h9y => Go.mono (tS_split (mup m 123 0 0) 4 (by decide) y9 h9y) (by decide)) (fun _ => rfl) (fun v1 => ?_)
      refine T_run hD 3 (c' := (51, [(17, 1)], [(12, 21), (17, 1)], v1, XX)) rfl ?_
      refine T_call hD (D2 := d_Q_read) (q2 := 124) (as := [(12, 21)]) (c1 := (54, [(17, 1)], [(17, 1)], v1, XX)) (mk := fun w => (1, (0, w.1), w.2, XX)) (cc := fun v2 => (54, [(17, 1)], [(0, v2.1), (17, 1)], v2.2, XX)) rfl rfl (fun y9 h9y => Go.mono (tQ_read v1 y9 h9y) (by decide)) (fun _ => rfl) (fun v2 => ?_)
      refine T_run hD 4 (c' := (62, [(17, 1)], [(0, (-1)), (0, v2.1)], mup v2.2 1 7 v2.1, XX)) rfl ?_
      refine T_if hD (c1 := (75, _, _, _, _)) (c2 := (65, _, _, _, _)) rfl (fun _ => ?_) (fun _ => ?_)
      · refine T_run hD 10 (c' := (95, [(17, 1)], [(14, 12), (11, 4), (12, 21), (12, 21), (10, 123)], mup v2.2 1 7 v2.1, XX)) rfl ?_
        refine T_call hD (D2 := d_Q_choose) (q2 := 125) (as := [(12, 21), (11, 4), (14, 12)]) (c1 := (98, [(17, 1)], [(12, 21), (10, 123)], mup v2.2 1 7 v2.1, XX)) (mk := fun w => (1, (0, w.1), w.2, XX)) (cc := fun v3 => (98, [(17, 1)], [(0, v3.1), (12, 21), (10, 123)], v3.2, XX)) rfl rfl (fun y9 h9y => Go.mono (tQ_choose (mup v2.2 1 7 v2.1) 4 (by decide) y9 h9y) (by decide)) (fun _ => rfl) (fun v3 => ?_)
        refine T_call hD (D2 := d_A_take) (q2 := 95) (as := [(10, 123), (12, 21), (0, v3.1)]) (c1 := (101, [(17, 1)], [], v3.2, XX)) (mk := fun w => (0, (0, 0), w, XX)) (cc := fun v4 => (101, [(17, 1)], [], v4, XX)) rfl rfl (fun y9 h9y => Go.mono (tA_take v3.2 v3.1 y9 h9y) (by decide)) (fun _ => rfl) (fun v4 => ?_)
        refine T_run hD 7 (c' := (116, [(17, 1)], [(0, v4 21 9), (14, 12), (10, 123)], v4, XX)) rfl ?_
        refine T_call hD (D2 := d_A_sortRows) (q2 := 96) (as := [(10, 123), (14, 12), (0, v4 21 9)]) (c1 := (119, [(17, 1)], [], v4, XX)) (mk := fun w => (0, (0, 0), w, XX)) (cc := fun v5 => (119, [(17, 1)], [], v5, XX)) rfl rfl (fun y9 h9y => Go.mono (tA_sortRows v4 (v4 21 9) y9 h9y) (by decide)) (fun _ => rfl) (fun v5 => ?_)
        refine T_run hD 4 (c' := (127, [(17, 1)], [(14, 12), (10, 123)], v5, XX)) rfl ?_
        refine T_call hD (D2 := d_A_putTogether) (q2 := 97) (as := [(10, 123), (14, 12)]) (c1 := (130, [(17, 1)], [], v5, XX)) (mk := fun w => (1, (0, w.1), w.2, XX)) (cc := fun v6 => (130, [(17, 1)], [(0, v6.1)], v6.2, XX)) rfl rfl (fun y9 h9y => Go.mono (tA_putTogether v5 y9 h9y) (by decide)) (fun _ => rfl) (fun v6 => ?_)
        refine T_if hD (c1 := (133, _, _, _, _)) (c2 := (143, _, _, _, _)) rfl (fun _ => ?_) (fun _ => ?_)
        · exact T_fin hD rfl (fun h => h)
        · refine T_run hD 7 (c' := (158, [(17, 1)], [(0, v6.2 123 4)], mup v6.2 123 0 1, XX)) rfl ?_
          exact T_fin hD rfl (fun h => h)
      · exact T_fin hD rfl (fun h => h)
  rw [← hr]
  exact h9 v hv hr
def fX_fault (m : aM) : Int :=
  m 1 7
set_option maxRecDepth 100000 in
theorem tX_fault (m : aM) : Go PB 1 9 (aEnt d_X_fault [(17, 1)] m XX) (1, (0, (fX_fault m)), m, XX) := by
  have hD : aMd PB 9 = d_X_fault := rfl
  show aU PB 1 9 (fun w => (1, (0, w), m, XX)) (fX_fault m) (0, [(17, 1)], [], m, XX)
  unfold fX_fault
  refine U_run hD 2 (c' := (4, [(17, 1)], [(0, m 1 7)], m, XX)) rfl ?_
  exact Go.fin hD rfl
def fX_lines (m : aM) : Int :=
  if m 123 0 = 0 then
    (-1)
  else
    m 123 4
set_option maxRecDepth 100000 in
theorem tX_lines (m : aM) : Go PB 1 10 (aEnt d_X_lines [(17, 1)] m XX) (1, (0, (fX_lines m)), m, XX) := by
  have hD : aMd PB 10 = d_X_lines := rfl
  show aU PB 1 10 (fun w => (1, (0, w), m, XX)) (fX_lines m) (0, [(17, 1)], [], m, XX)
  unfold fX_lines
  refine U_run hD 3 (c' := (7, [(17, 1)], [(0, m 123 0)], m, XX)) rfl ?_
  refine U_if hD (c1 := (20, _, _, _, _)) (c2 := (10, _, _, _, _)) rfl (fun _ => ?_) (fun _ => ?_)
  · refine U_run hD 1 (c' := (21, [(17, 1)], [(0, (-1))], m, XX)) rfl ?_
    exact Go.fin hD rfl
  · refine U_run hD 4 (c' := (21, [(17, 1)], [(0, m 123 4)], m, XX)) rfl ?_
    exact Go.fin hD rfl
def fX_line (m : aM) (x1 : Int) : Option (Nat × Int × aM) :=
  if m 123 0 = 0 then
    some ((3, 0, m))
  else
    if fA_has m x1 = 0 then
      some ((6, 0, m))
    else
      if m 123 1 = 1 then
        gd (0 ≤ x1 ∧ x1 < 16) (
        some ((1, m 124 x1, m)))
      else
        gd (0 ≤ x1 ∧ x1 < 16) (
        some ((1, m 125 x1, m)))
set_option maxRecDepth 100000 in
theorem tX_line (m : aM) (x1 : Int) : ∀ v, fX_line m x1 = some v → Go PB 2 11 (aEnt d_X_line [(17, 1), (0, x1)] m XX) (mkT 0 v) := by
  intro v hv
  have hD : aMd PB 11 = d_X_line := rfl
  obtain ⟨r, hr⟩ : ∃ r : aR, r = (mkT 0 v) := ⟨_, rfl⟩
  have h9 : aT PB 2 11 r (fun w => r = (mkT 0 w)) (fX_line m x1) (0, [(17, 1), (0, x1)], [], m, XX) := by
    unfold fX_line
    refine T_run hD 3 (c' := (7, [(17, 1), (0, x1)], [(0, m 123 0)], m, XX)) rfl ?_
    refine T_if hD (c1 := (10, _, _, _, _)) (c2 := (20, _, _, _, _)) rfl (fun _ => ?_) (fun _ => ?_)
    · exact T_fin hD rfl (fun h => h)
    · refine T_run hD 3 (c' := (25, [(17, 1), (0, x1)], [(0, x1), (10, 123)], m, XX)) rfl ?_
      refine T_call0 hD (D2 := d_A_has) (q2 := 98) (as := [(10, 123), (0, x1)]) (c1 := (28, [(17, 1), (0, x1)], [], m, XX)) (r2 := (1, (0, fA_has m x1), m, XX)) (c2 := (28, [(17, 1), (0, x1)], [(0, fA_has m x1)], m, XX)) rfl rfl (Go.mono (tA_has m x1) (by decide)) rfl ?_
      refine T_if hD (c1 := (31, _, _, _, _)) (c2 := (41, _, _, _, _)) rfl (fun _ => ?_) (fun _ => ?_)
      · exact T_fin hD rfl (fun h => h)
      · refine T_run hD 4 (c' := (51, [(17, 1), (0, x1)], [(40, 1), (40, m 123 1)], m, XX)) rfl ?_
        refine T_if hD (c1 := (54, _, _, _, _)) (c2 := (66, _, _, _, _)) rfl (fun _ => ?_) (fun _ => ?_)
        · refine T_run hD 4 (c' := (62, [(17, 1), (0, x1)], [(0, x1), (31, 124)], m, XX)) rfl ?_
          refine T_gd hD (c1 := (63, [(17, 1), (0, x1)], [(0, m 124 x1)], m, XX)) rfl (fun g1 => ?_)
          refine T_run hD 1 (c' := (75, [(17, 1), (0, x1)], [(0, m 124 x1)], m, XX)) rfl ?_
          exact T_fin hD rfl (fun h => h)
        · refine T_run hD 4 (c' := (74, [(17, 1), (0, x1)], [(0, x1), (31, 125)], m, XX)) rfl ?_
          refine T_gd hD (c1 := (75, [(17, 1), (0, x1)], [(0, m 125 x1)], m, XX)) rfl (fun g2 => ?_)
          exact T_fin hD rfl (fun h => h)
  rw [← hr]
  exact h9 v hv hr
def fX_aggregate (m : aM) (x1 : Int) : Option (Nat × Int × aM) :=
  if m 123 0 = 0 then
    some ((3, 0, m))
  else
    (fA_hasValues m).bind fun v1 =>
    if v1 = 0 then
      some ((3, 0, m))
    else
      if fA_has m x1 = 0 then
        some ((6, 0, m))
      else
        gd (0 ≤ x1 ∧ x1 < 16) (
        if m 129 x1 = 0 then
          some ((1, m 128 x1, m))
        else
          some ((4, 0, m)))
set_option maxRecDepth 100000 in
theorem tX_aggregate (m : aM) (x1 : Int) : ∀ v, fX_aggregate m x1 = some v → Go PB 4 12 (aEnt d_X_aggregate [(17, 1), (0, x1)] m XX) (mkT 1 v) := by
  intro v hv
  have hD : aMd PB 12 = d_X_aggregate := rfl
  obtain ⟨r, hr⟩ : ∃ r : aR, r = (mkT 1 v) := ⟨_, rfl⟩
  have h9 : aT PB 4 12 r (fun w => r = (mkT 1 w)) (fX_aggregate m x1) (0, [(17, 1), (0, x1)], [], m, XX) := by
    unfold fX_aggregate
    refine T_run hD 3 (c' := (7, [(17, 1), (0, x1)], [(0, m 123 0)], m, XX)) rfl ?_
    refine T_if hD (c1 := (24, _, _, _, _)) (c2 := (10, _, _, _, _)) rfl (fun _ => ?_) (fun _ => ?_)
    · exact T_fin hD rfl (fun h => h)
    · refine T_run hD 4 (c' := (18, [(17, 1), (0, x1)], [(14, 12), (10, 123)], m, XX)) rfl ?_
      refine T_call hD (D2 := d_A_hasValues) (q2 := 99) (as := [(10, 123), (14, 12)]) (c1 := (21, [(17, 1), (0, x1)], [], m, XX)) (mk := fun w => (1, (0, w), m, XX)) (cc := fun v1 => (21, [(17, 1), (0, x1)], [(0, v1)], m, XX)) rfl rfl (fun y9 h9y => Go.mono (tA_hasValues m y9 h9y) (by decide)) (fun _ => rfl) (fun v1 => ?_)
      refine T_if hD (c1 := (24, _, _, _, _)) (c2 := (34, _, _, _, _)) rfl (fun _ => ?_) (fun _ => ?_)
      · exact T_fin hD rfl (fun h => h)
      · refine T_run hD 3 (c' := (39, [(17, 1), (0, x1)], [(0, x1), (10, 123)], m, XX)) rfl ?_
        refine T_call0 hD (D2 := d_A_has) (q2 := 98) (as := [(10, 123), (0, x1)]) (c1 := (42, [(17, 1), (0, x1)], [], m, XX)) (r2 := (1, (0, fA_has m x1), m, XX)) (c2 := (42, [(17, 1), (0, x1)], [(0, fA_has m x1)], m, XX)) rfl rfl (Go.mono (tA_has m x1) (by decide)) rfl ?_
        refine T_if hD (c1 := (45, _, _, _, _)) (c2 := (55, _, _, _, _)) rfl (fun _ => ?_) (fun _ => ?_)
        · exact T_fin hD rfl (fun h => h)
        · refine T_run hD 4 (c' := (63, [(17, 1), (0, x1)], [(0, x1), (33, 129)], m, XX)) rfl ?_
          refine T_gd hD (c1 := (64, [(17, 1), (0, x1)], [(0, m 129 x1)], m, XX)) rfl (fun g2 => ?_)
          refine T_if hD (c1 := (77, _, _, _, _)) (c2 := (67, _, _, _, _)) rfl (fun _ => ?_) (fun _ => ?_)
          · refine T_run hD 4 (c' := (85, [(17, 1), (0, x1)], [(0, x1), (32, 128)], m, XX)) rfl ?_
            refine T_gk hD (c1 := (86, [(17, 1), (0, x1)], [(1, m 128 x1)], m, XX)) (P := 0 ≤ x1 ∧ x1 < 16) rfl g2 ?_
            exact T_fin hD rfl (fun h => h)
          · exact T_fin hD rfl (fun h => h)
  rw [← hr]
  exact h9 v hv hr
def fX_write_37 (m : aM) (x1 : Int) : Option (Nat × Int × aM) :=
  if x1 = 0 then
    (fT_writeTo (fC_keepFirst m 6 0) 6).bind fun v1 =>
    some ((1, v1 6 1, v1))
  else
    (fA_writeTo (fC_keepFirst m 6 0) 6).bind fun v2 =>
    some ((1, v2 6 1, v2))
set_option maxRecDepth 100000 in
theorem tX_write_37 (r : aR) (m : aM) (x1 : Int) : aT PB 7 13 r (fun w => r = (mkT 0 w)) (fX_write_37 m x1) (37, [(17, 1), (0, x1)], [], m, XX) := by
  have hD : aMd PB 13 = d_X_write := rfl
  unfold fX_write_37
  refine T_run hD 3 (c' := (42, [(17, 1), (0, x1)], [(0, 0), (11, 6)], m, XX)) rfl ?_
  refine T_call0 hD (D2 := d_C_keepFirst) (q2 := 112) (as := [(11, 6), (0, 0)]) (c1 := (45, [(17, 1), (0, x1)], [], m, XX)) (r2 := (0, (0, 0), fC_keepFirst m 6 0, XX)) (c2 := (45, [(17, 1), (0, x1)], [], fC_keepFirst m 6 0, XX)) rfl rfl (Go.mono (tC_keepFirst m 6 0 (by decide)) (by decide)) rfl ?_
  refine T_run hD 1 (c' := (46, [(17, 1), (0, x1)], [(0, x1)], fC_keepFirst m 6 0, XX)) rfl ?_
  refine T_if hD (c1 := (67, _, _, _, _)) (c2 := (49, _, _, _, _)) rfl (fun _ => ?_) (fun _ => ?_)
  · refine T_run hD 4 (c' := (75, [(17, 1), (0, x1)], [(11, 6), (14, 12)], fC_keepFirst m 6 0, XX)) rfl ?_
    refine T_call hD (D2 := d_T_writeTo) (q2 := 162) (as := [(14, 12), (11, 6)]) (c1 := (78, [(17, 1), (0, x1)], [], fC_keepFirst m 6 0, XX)) (mk := fun w => (0, (0, 0), w, XX)) (cc := fun v1 => (78, [(17, 1), (0, x1)], [], v1, XX)) rfl rfl (fun y9 h9y => Go.mono (tT_writeTo (fC_keepFirst m 6 0) 6 (by decide) y9 h9y) (by decide)) (fun _ => rfl) (fun v1 => ?_)
    refine T_run hD 3 (c' := (85, [(17, 1), (0, x1)], [(0, v1 6 1)], v1, XX)) rfl ?_
    exact T_fin hD rfl (fun h => h)
  · refine T_run hD 6 (c' := (61, [(17, 1), (0, x1)], [(14, 12), (11, 6), (10, 123)], fC_keepFirst m 6 0, XX)) rfl ?_
    refine T_call hD (D2 := d_A_writeTo) (q2 := 100) (as := [(10, 123), (11, 6), (14, 12)]) (c1 := (64, [(17, 1), (0, x1)], [], fC_keepFirst m 6 0, XX)) (mk := fun w => (0, (0, 0), w, XX)) (cc := fun v2 => (64, [(17, 1), (0, x1)], [], v2, XX)) rfl rfl (fun y9 h9y => Go.mono (tA_writeTo (fC_keepFirst m 6 0) 6 (by decide) y9 h9y) (by decide)) (fun _ => rfl) (fun v2 => ?_)
    refine T_run hD 4 (c' := (85, [(17, 1), (0, x1)], [(0, v2 6 1)], v2, XX)) rfl ?_
    exact T_fin hD rfl (fun h => h)
def fX_write (m : aM) (x1 : Int) : Option (Nat × Int × aM) :=
  if x1 = 0 then
    if m 12 8 = 0 then
      some ((3, 0, m))
    else
      fX_write_37 m x1
  else
    if m 123 0 = 0 then
      some ((3, 0, m))
    else
      fX_write_37 m x1
set_option maxRecDepth 100000 in
theorem tX_write (m : aM) (x1 : Int) : ∀ v, fX_write m x1 = some v → Go PB 7 13 (aEnt d_X_write [(17, 1), (0, x1)] m XX) (mkT 0 v) := by
  intro v hv
  have hD : aMd PB 13 = d_X_write := rfl
  obtain ⟨r, hr⟩ : ∃ r : aR, r = (mkT 0 v) := ⟨_, rfl⟩
  have h9 : aT PB 7 13 r (fun w => r = (mkT 0 w)) (fX_write m x1) (0, [(17, 1), (0, x1)], [], m, XX) := by
    unfold fX_write
    refine T_run hD 1 (c' := (1, [(17, 1), (0, x1)], [(0, x1)], m, XX)) rfl ?_
    refine T_if hD (c1 := (17, _, _, _, _)) (c2 := (4, _, _, _, _)) rfl (fun _ => ?_) (fun _ => ?_)
    · refine T_run hD 3 (c' := (24, [(17, 1), (0, x1)], [(0, m 12 8)], m, XX)) rfl ?_
      refine T_if hD (c1 := (27, _, _, _, _)) (c2 := (37, _, _, _, _)) rfl (fun _ => ?_) (fun _ => ?_)
      · exact T_fin hD rfl (fun h => h)
      · exact tX_write_37 r m x1 
    · refine T_run hD 3 (c' := (11, [(17, 1), (0, x1)], [(0, m 123 0)], m, XX)) rfl ?_
      refine T_if hD (c1 := (14, _, _, _, _)) (c2 := (37, _, _, _, _)) rfl (fun _ => ?_) (fun _ => ?_)
      · refine T_run hD 1 (c' := (27, [(17, 1), (0, x1)], [], m, XX)) rfl ?_
        exact T_fin hD rfl (fun h => h)
      · exact tX_write_37 r m x1 
  rw [← hr]
  exact h9 v hv hr
def fX_out (m : aM) (x1 : Int) : Option (Nat × Int × aM) :=
  (fC_at m 6 x1).bind fun v1 =>
  if v1 = (-1) then
    some ((6, 0, m))
  else
    some ((1, v1, m))
set_option maxRecDepth 100000 in
theorem tX_out (m : aM) (x1 : Int) : ∀ v, fX_out m x1 = some v → Go PB 2 14 (aEnt d_X_out [(17, 1), (0, x1)] m XX) (mkT 0 v) := by
  intro v hv
  have hD : aMd PB 14 = d_X_out := rfl
  obtain ⟨r, hr⟩ : ∃ r : aR, r = (mkT 0 v) := ⟨_, rfl⟩
  have h9 : aT PB 2 14 r (fun w => r = (mkT 0 w)) (fX_out m x1) (0, [(17, 1), (0, x1), (99, 0)], [], m, XX) := by
    unfold fX_out
    refine T_run hD 3 (c' := (5, [(17, 1), (0, x1), (99, 0)], [(0, x1), (11, 6)], m, XX)) rfl ?_
    refine T_call hD (D2 := d_C_at) (q2 := 107) (as := [(11, 6), (0, x1)]) (c1 := (8, [(17, 1), (0, x1), (99, 0)], [], m, XX)) (mk := fun w => (1, (0, w), m, XX)) (cc := fun v1 => (8, [(17, 1), (0, x1), (99, 0)], [(0, v1)], m, XX)) rfl rfl (fun y9 h9y => Go.mono (tC_at m 6 x1 (by decide) y9 h9y) (by decide)) (fun _ => rfl) (fun v1 => ?_)
    refine T_run hD 3 (c' := (11, [(17, 1), (0, x1), (0, v1)], [(0, (-1)), (0, v1)], m, XX)) rfl ?_
    refine T_if hD (c1 := (14, _, _, _, _)) (c2 := (24, _, _, _, _)) rfl (fun _ => ?_) (fun _ => ?_)
    · exact T_fin hD rfl (fun h => h)
    · refine T_run hD 1 (c' := (25, [(17, 1), (0, x1), (0, v1)], [(0, v1)], m, XX)) rfl ?_
      exact T_fin hD rfl (fun h => h)
  rw [← hr]
  exact h9 v hv hr
