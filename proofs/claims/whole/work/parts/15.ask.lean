def fK_become (m : aM) (x0 : Int) (x1 : Int) (x2 : Int) (x3 : Int) : aM :=
  mup (mup (mup (mup (mup (mup (mup (mup m x0 0 x1) x0 1 x2) x0 2 x3) x0 3 15) x0 4 (-1)) x0 5 (-1)) x0 6 0) x0 7 0
set_option maxRecDepth 100000 in
theorem tK_become (m : aM) (x0 : Int) (x1 : Int) (x2 : Int) (x3 : Int) : Go PB 1 176 (aEnt d_K_become [(15, x0), (0, x1), (0, x2), (0, x3)] m XX) (0, (0, 0), (fK_become m x0 x1 x2 x3), XX) := by
  have hD : aMd PB 176 = d_K_become := rfl
  show aU PB 1 176 (fun w => (0, (0, 0), w, XX)) (fK_become m x0 x1 x2 x3) (0, [(15, x0), (0, x1), (0, x2), (0, x3)], [], m, XX)
  unfold fK_become
  refine U_run hD 24 (c' := (42, [(15, x0), (0, x1), (0, x2), (0, x3)], [], mup (mup (mup (mup (mup (mup (mup (mup m x0 0 x1) x0 1 x2) x0 2 x3) x0 3 15) x0 4 (-1)) x0 5 (-1)) x0 6 0) x0 7 0, XX)) rfl ?_
  exact Go.fin hD rfl
def fK_sortOf (x0 : Int) : Int :=
  if x0 = 0 then
    1
  else
    x0
set_option maxRecDepth 100000 in
theorem tK_sortOf (m : aM) (x0 : Int) : Go PB 1 177 (aEnt d_K_sortOf [(0, x0)] m XX) (1, (0, (fK_sortOf x0)), m, XX) := by
  have hD : aMd PB 177 = d_K_sortOf := rfl
  show aU PB 1 177 (fun w => (1, (0, w), m, XX)) (fK_sortOf x0) (0, [(0, x0)], [], m, XX)
  unfold fK_sortOf
  refine U_run hD 1 (c' := (1, [(0, x0)], [(0, x0)], m, XX)) rfl ?_
  refine U_if hD (c1 := (4, _, _, _, _)) (c2 := (8, _, _, _, _)) rfl (fun _ => ?_) (fun _ => ?_)
  · refine U_run hD 2 (c' := (9, [(0, x0)], [(0, 1)], m, XX)) rfl ?_
    exact Go.fin hD rfl
  · refine U_run hD 1 (c' := (9, [(0, x0)], [(0, x0)], m, XX)) rfl ?_
    exact Go.fin hD rfl
def fS_readWord (m : aM) (x0 : Int) (x1 : Int) (x2 : Int) : Option aM :=
  (fC_endOfLetters m x1 x2).bind fun v1 =>
  (fW_spelled (fK_become m x0 1 x2 v1) x1 x2 v1).bind fun v2 =>
  (fT_columnNamed (mup (fK_become m x0 1 x2 v1) x0 3 v2) x1 x2 v1).bind fun v3 =>
  if (mup (mup (fK_become m x0 1 x2 v1) x0 3 v2) x0 4 v3) x0 4 = (-1) then
    some (mup (mup (fK_become m x0 1 x2 v1) x0 3 v2) x0 4 v3)
  else
    (fT_typeAt (mup (mup (fK_become m x0 1 x2 v1) x0 3 v2) x0 4 v3) ((mup (mup (fK_become m x0 1 x2 v1) x0 3 v2) x0 4 v3) x0 4)).bind fun v4 =>
    some (mup (mup (mup (fK_become m x0 1 x2 v1) x0 3 v2) x0 4 v3) x0 5 (fK_sortOf v4))
set_option maxRecDepth 100000 in
theorem tS_readWord (m : aM) (x0 : Int) (x1 : Int) (x2 : Int) (hx1 : ck x1) : ∀ v, fS_readWord m x0 x1 x2 = some v → Go PB 7 181 (aEnt d_S_readWord [(15, x0), (11, x1), (0, x2), (14, 12)] m XX) (0, (0, 0), v, XX) := by
  intro v hv
  have hD : aMd PB 181 = d_S_readWord := rfl
  obtain ⟨r, hr⟩ : ∃ r : aR, r = (0, (0, 0), v, XX) := ⟨_, rfl⟩
  have h9 : aT PB 7 181 r (fun w => r = (0, (0, 0), w, XX)) (fS_readWord m x0 x1 x2) (0, [(15, x0), (11, x1), (0, x2), (14, 12), (99, 0)], [], m, XX) := by
    unfold fS_readWord
    refine T_run hD 2 (c' := (2, [(15, x0), (11, x1), (0, x2), (14, 12), (99, 0)], [(0, x2), (11, x1)], m, XX)) rfl ?_
    refine T_call hD (D2 := d_C_endOfLetters) (q2 := 113) (as := [(11, x1), (0, x2)]) (c1 := (5, [(15, x0), (11, x1), (0, x2), (14, 12), (99, 0)], [], m, XX)) (mk := fun w => (1, (0, w), m, XX)) (cc := fun v1 => (5, [(15, x0), (11, x1), (0, x2), (14, 12), (99, 0)], [(0, v1)], m, XX)) rfl rfl (fun y9 h9y => Go.mono (tC_endOfLetters m x1 x2 hx1 y9 h9y) (by decide)) (fun _ => rfl) (fun v1 => ?_)
    refine T_run hD 5 (c' := (12, [(15, x0), (11, x1), (0, x2), (14, 12), (0, v1)], [(0, v1), (0, x2), (0, 1), (15, x0)], m, XX)) rfl ?_
    refine T_call0 hD (D2 := d_K_become) (q2 := 176) (as := [(15, x0), (0, 1), (0, x2), (0, v1)]) (c1 := (15, [(15, x0), (11, x1), (0, x2), (14, 12), (0, v1)], [], m, XX)) (r2 := (0, (0, 0), fK_become m x0 1 x2 v1, XX)) (c2 := (15, [(15, x0), (11, x1), (0, x2), (14, 12), (0, v1)], [], fK_become m x0 1 x2 v1, XX)) rfl rfl (Go.mono (tK_become m x0 1 x2 v1) (by decide)) rfl ?_
    refine T_run hD 4 (c' := (20, [(15, x0), (11, x1), (0, x2), (14, 12), (0, v1)], [(0, v1), (0, x2), (11, x1), (15, x0)], fK_become m x0 1 x2 v1, XX)) rfl ?_
    refine T_call hD (D2 := d_W_spelled) (q2 := 187) (as := [(11, x1), (0, x2), (0, v1)]) (c1 := (23, [(15, x0), (11, x1), (0, x2), (14, 12), (0, v1)], [(15, x0)], fK_become m x0 1 x2 v1, XX)) (mk := fun w => (1, (40, w), fK_become m x0 1 x2 v1, XX)) (cc := fun v2 => (23, [(15, x0), (11, x1), (0, x2), (14, 12), (0, v1)], [(40, v2), (15, x0)], fK_become m x0 1 x2 v1, XX)) rfl rfl (fun y9 h9y => Go.mono (tW_spelled (fK_become m x0 1 x2 v1) x1 x2 v1 hx1 y9 h9y) (by decide)) (fun _ => rfl) (fun v2 => ?_)
    refine T_run hD 6 (c' := (32, [(15, x0), (11, x1), (0, x2), (14, 12), (0, v1)], [(0, v1), (0, x2), (11, x1), (14, 12), (15, x0)], mup (fK_become m x0 1 x2 v1) x0 3 v2, XX)) rfl ?_
    refine T_call hD (D2 := d_T_columnNamed) (q2 := 158) (as := [(14, 12), (11, x1), (0, x2), (0, v1)]) (c1 := (35, [(15, x0), (11, x1), (0, x2), (14, 12), (0, v1)], [(15, x0)], mup (fK_become m x0 1 x2 v1) x0 3 v2, XX)) (mk := fun w => (1, (0, w), mup (fK_become m x0 1 x2 v1) x0 3 v2, XX)) (cc := fun v3 => (35, [(15, x0), (11, x1), (0, x2), (14, 12), (0, v1)], [(0, v3), (15, x0)], mup (fK_become m x0 1 x2 v1) x0 3 v2, XX)) rfl rfl (fun y9 h9y => Go.mono (tT_columnNamed (mup (fK_become m x0 1 x2 v1) x0 3 v2) x1 x2 v1 hx1 y9 h9y) (by decide)) (fun _ => rfl) (fun v3 => ?_)
    refine T_run hD 4 (c' := (43, [(15, x0), (11, x1), (0, x2), (14, 12), (0, v1)], [(0, (-1)), (0, (mup (mup (fK_become m x0 1 x2 v1) x0 3 v2) x0 4 v3) x0 4)], mup (mup (fK_become m x0 1 x2 v1) x0 3 v2) x0 4 v3, XX)) rfl ?_
    refine T_if hD (c1 := (61, _, _, _, _)) (c2 := (46, _, _, _, _)) rfl (fun _ => ?_) (fun _ => ?_)
    · exact T_fin hD rfl (fun h => h)
    · refine T_run hD 4 (c' := (52, [(15, x0), (11, x1), (0, x2), (14, 12), (0, v1)], [(0, (mup (mup (fK_become m x0 1 x2 v1) x0 3 v2) x0 4 v3) x0 4), (14, 12), (15, x0)], mup (mup (fK_become m x0 1 x2 v1) x0 3 v2) x0 4 v3, XX)) rfl ?_
      refine T_call hD (D2 := d_T_typeAt) (q2 := 155) (as := [(14, 12), (0, (mup (mup (fK_become m x0 1 x2 v1) x0 3 v2) x0 4 v3) x0 4)]) (c1 := (55, [(15, x0), (11, x1), (0, x2), (14, 12), (0, v1)], [(15, x0)], mup (mup (fK_become m x0 1 x2 v1) x0 3 v2) x0 4 v3, XX)) (mk := fun w => (1, (0, w), mup (mup (fK_become m x0 1 x2 v1) x0 3 v2) x0 4 v3, XX)) (cc := fun v4 => (55, [(15, x0), (11, x1), (0, x2), (14, 12), (0, v1)], [(0, v4), (15, x0)], mup (mup (fK_become m x0 1 x2 v1) x0 3 v2) x0 4 v3, XX)) rfl rfl (fun y9 h9y => Go.mono (tT_typeAt (mup (mup (fK_become m x0 1 x2 v1) x0 3 v2) x0 4 v3) ((mup (mup (fK_become m x0 1 x2 v1) x0 3 v2) x0 4 v3) x0 4) y9 h9y) (by decide)) (fun _ => rfl) (fun v4 => ?_)
      refine T_call0 hD (D2 := d_K_sortOf) (q2 := 177) (as := [(0, v4)]) (c1 := (58, [(15, x0), (11, x1), (0, x2), (14, 12), (0, v1)], [(15, x0)], mup (mup (fK_become m x0 1 x2 v1) x0 3 v2) x0 4 v3, XX)) (r2 := (1, (0, fK_sortOf v4), mup (mup (fK_become m x0 1 x2 v1) x0 3 v2) x0 4 v3, XX)) (c2 := (58, [(15, x0), (11, x1), (0, x2), (14, 12), (0, v1)], [(0, fK_sortOf v4), (15, x0)], mup (mup (fK_become m x0 1 x2 v1) x0 3 v2) x0 4 v3, XX)) rfl rfl (Go.mono (tK_sortOf (mup (mup (fK_become m x0 1 x2 v1) x0 3 v2) x0 4 v3) v4) (by decide)) rfl ?_
      refine T_run hD 1 (c' := (61, [(15, x0), (11, x1), (0, x2), (14, 12), (0, v1)], [], mup (mup (mup (fK_become m x0 1 x2 v1) x0 3 v2) x0 4 v3) x0 5 (fK_sortOf v4), XX)) rfl ?_
      exact T_fin hD rfl (fun h => h)
  rw [← hr]
  exact h9 v hv hr
def fS_readDigits (m : aM) (x0 : Int) (x1 : Int) (x2 : Int) : Option aM :=
  (fC_endOfDigits m x1 x2).bind fun v1 =>
  (fC_shapeOf m x1 x2 v1).bind fun v2 =>
  if v2 = 3 then
    some (fK_become m x0 0 x2 v1)
  else
    (fC_digitsOf (mup (fK_become m x0 2 x2 v1) x0 5 (fK_sortOf v2)) x1 x2 v1).bind fun v3 =>
    some (mup (mup (fK_become m x0 2 x2 v1) x0 5 (fK_sortOf v2)) x0 6 v3)
set_option maxRecDepth 100000 in
theorem tS_readDigits (m : aM) (x0 : Int) (x1 : Int) (x2 : Int) (hx1 : ck x1) : ∀ v, fS_readDigits m x0 x1 x2 = some v → Go PB 7 182 (aEnt d_S_readDigits [(15, x0), (11, x1), (0, x2)] m XX) (0, (0, 0), v, XX) := by
  intro v hv
  have hD : aMd PB 182 = d_S_readDigits := rfl
  obtain ⟨r, hr⟩ : ∃ r : aR, r = (0, (0, 0), v, XX) := ⟨_, rfl⟩
  have h9 : aT PB 7 182 r (fun w => r = (0, (0, 0), w, XX)) (fS_readDigits m x0 x1 x2) (0, [(15, x0), (11, x1), (0, x2), (99, 0), (99, 0)], [], m, XX) := by
    unfold fS_readDigits
    refine T_run hD 2 (c' := (2, [(15, x0), (11, x1), (0, x2), (99, 0), (99, 0)], [(0, x2), (11, x1)], m, XX)) rfl ?_
    refine T_call hD (D2 := d_C_endOfDigits) (q2 := 114) (as := [(11, x1), (0, x2)]) (c1 := (5, [(15, x0), (11, x1), (0, x2), (99, 0), (99, 0)], [], m, XX)) (mk := fun w => (1, (0, w), m, XX)) (cc := fun v1 => (5, [(15, x0), (11, x1), (0, x2), (99, 0), (99, 0)], [(0, v1)], m, XX)) rfl rfl (fun y9 h9y => Go.mono (tC_endOfDigits m x1 x2 hx1 y9 h9y) (by decide)) (fun _ => rfl) (fun v1 => ?_)
    refine T_run hD 4 (c' := (9, [(15, x0), (11, x1), (0, x2), (0, v1), (99, 0)], [(0, v1), (0, x2), (11, x1)], m, XX)) rfl ?_
    refine T_call hD (D2 := d_C_shapeOf) (q2 := 118) (as := [(11, x1), (0, x2), (0, v1)]) (c1 := (12, [(15, x0), (11, x1), (0, x2), (0, v1), (99, 0)], [], m, XX)) (mk := fun w => (1, (0, w), m, XX)) (cc := fun v2 => (12, [(15, x0), (11, x1), (0, x2), (0, v1), (99, 0)], [(0, v2)], m, XX)) rfl rfl (fun y9 h9y => Go.mono (tC_shapeOf m x1 x2 v1 hx1 y9 h9y) (by decide)) (fun _ => rfl) (fun v2 => ?_)
    refine T_run hD 3 (c' := (17, [(15, x0), (11, x1), (0, x2), (0, v1), (0, v2)], [(0, 3), (0, v2)], m, XX)) rfl ?_
    refine T_if hD (c1 := (20, _, _, _, _)) (c2 := (30, _, _, _, _)) rfl (fun _ => ?_) (fun _ => ?_)
    · refine T_run hD 4 (c' := (24, [(15, x0), (11, x1), (0, x2), (0, v1), (0, v2)], [(0, v1), (0, x2), (0, 0), (15, x0)], m, XX)) rfl ?_
      refine T_call0 hD (D2 := d_K_become) (q2 := 176) (as := [(15, x0), (0, 0), (0, x2), (0, v1)]) (c1 := (27, [(15, x0), (11, x1), (0, x2), (0, v1), (0, v2)], [], m, XX)) (r2 := (0, (0, 0), fK_become m x0 0 x2 v1, XX)) (c2 := (27, [(15, x0), (11, x1), (0, x2), (0, v1), (0, v2)], [], fK_become m x0 0 x2 v1, XX)) rfl rfl (Go.mono (tK_become m x0 0 x2 v1) (by decide)) rfl ?_
      refine T_run hD 1 (c' := (56, [(15, x0), (11, x1), (0, x2), (0, v1), (0, v2)], [], fK_become m x0 0 x2 v1, XX)) rfl ?_
      exact T_fin hD rfl (fun h => h)
    · refine T_run hD 4 (c' := (34, [(15, x0), (11, x1), (0, x2), (0, v1), (0, v2)], [(0, v1), (0, x2), (0, 2), (15, x0)], m, XX)) rfl ?_
      refine T_call0 hD (D2 := d_K_become) (q2 := 176) (as := [(15, x0), (0, 2), (0, x2), (0, v1)]) (c1 := (37, [(15, x0), (11, x1), (0, x2), (0, v1), (0, v2)], [], m, XX)) (r2 := (0, (0, 0), fK_become m x0 2 x2 v1, XX)) (c2 := (37, [(15, x0), (11, x1), (0, x2), (0, v1), (0, v2)], [], fK_become m x0 2 x2 v1, XX)) rfl rfl (Go.mono (tK_become m x0 2 x2 v1) (by decide)) rfl ?_
      refine T_run hD 2 (c' := (40, [(15, x0), (11, x1), (0, x2), (0, v1), (0, v2)], [(0, v2), (15, x0)], fK_become m x0 2 x2 v1, XX)) rfl ?_
      refine T_call0 hD (D2 := d_K_sortOf) (q2 := 177) (as := [(0, v2)]) (c1 := (43, [(15, x0), (11, x1), (0, x2), (0, v1), (0, v2)], [(15, x0)], fK_become m x0 2 x2 v1, XX)) (r2 := (1, (0, fK_sortOf v2), fK_become m x0 2 x2 v1, XX)) (c2 := (43, [(15, x0), (11, x1), (0, x2), (0, v1), (0, v2)], [(0, fK_sortOf v2), (15, x0)], fK_become m x0 2 x2 v1, XX)) rfl rfl (Go.mono (tK_sortOf (fK_become m x0 2 x2 v1) v2) (by decide)) rfl ?_
      refine T_run hD 5 (c' := (50, [(15, x0), (11, x1), (0, x2), (0, v1), (0, v2)], [(0, v1), (0, x2), (11, x1), (15, x0)], mup (fK_become m x0 2 x2 v1) x0 5 (fK_sortOf v2), XX)) rfl ?_
      refine T_call hD (D2 := d_C_digitsOf) (q2 := 119) (as := [(11, x1), (0, x2), (0, v1)]) (c1 := (53, [(15, x0), (11, x1), (0, x2), (0, v1), (0, v2)], [(15, x0)], mup (fK_become m x0 2 x2 v1) x0 5 (fK_sortOf v2), XX)) (mk := fun w => (1, (1, w), mup (fK_become m x0 2 x2 v1) x0 5 (fK_sortOf v2), XX)) (cc := fun v3 => (53, [(15, x0), (11, x1), (0, x2), (0, v1), (0, v2)], [(1, v3), (15, x0)], mup (fK_become m x0 2 x2 v1) x0 5 (fK_sortOf v2), XX)) rfl rfl (fun y9 h9y => Go.mono (tC_digitsOf (mup (fK_become m x0 2 x2 v1) x0 5 (fK_sortOf v2)) x1 x2 v1 hx1 y9 h9y) (by decide)) (fun _ => rfl) (fun v3 => ?_)
      refine T_run hD 1 (c' := (56, [(15, x0), (11, x1), (0, x2), (0, v1), (0, v2)], [], mup (mup (fK_become m x0 2 x2 v1) x0 5 (fK_sortOf v2)) x0 6 v3, XX)) rfl ?_
      exact T_fin hD rfl (fun h => h)
  rw [← hr]
  exact h9 v hv hr
def fS_readText (m : aM) (x0 : Int) (x1 : Int) (x2 : Int) : Option aM :=
  (fC_placeOf m x1 39 (w32 (x2 + 1))).bind fun v1 =>
  if v1 = m x1 1 then
    some (fK_become m x0 0 x2 v1)
  else
    some (mup (fK_become m x0 2 x2 (w32 (v1 + 1))) x0 5 (fK_sortOf 3))
set_option maxRecDepth 100000 in
theorem tS_readText (m : aM) (x0 : Int) (x1 : Int) (x2 : Int) (hx1 : ck x1) : ∀ v, fS_readText m x0 x1 x2 = some v → Go PB 3 183 (aEnt d_S_readText [(15, x0), (11, x1), (0, x2)] m XX) (0, (0, 0), v, XX) := by
  intro v hv
  have hD : aMd PB 183 = d_S_readText := rfl
  obtain ⟨r, hr⟩ : ∃ r : aR, r = (0, (0, 0), v, XX) := ⟨_, rfl⟩
  have h9 : aT PB 3 183 r (fun w => r = (0, (0, 0), w, XX)) (fS_readText m x0 x1 x2) (0, [(15, x0), (11, x1), (0, x2), (99, 0)], [], m, XX) := by
    unfold fS_readText
    refine T_run hD 5 (c' := (6, [(15, x0), (11, x1), (0, x2), (99, 0)], [(0, w32 (x2 + 1)), (0, 39), (11, x1)], m, XX)) rfl ?_
    refine T_call hD (D2 := d_C_placeOf) (q2 := 115) (as := [(11, x1), (0, 39), (0, w32 (x2 + 1))]) (c1 := (9, [(15, x0), (11, x1), (0, x2), (99, 0)], [], m, XX)) (mk := fun w => (1, (0, w), m, XX)) (cc := fun v1 => (9, [(15, x0), (11, x1), (0, x2), (99, 0)], [(0, v1)], m, XX)) rfl rfl (fun y9 h9y => Go.mono (tC_placeOf m x1 39 (w32 (x2 + 1)) hx1 y9 h9y) (by decide)) (fun _ => rfl) (fun v1 => ?_)
    refine T_run hD 4 (c' := (15, [(15, x0), (11, x1), (0, x2), (0, v1)], [(0, m x1 1), (0, v1)], m, XX)) rfl ?_
    refine T_if hD (c1 := (18, _, _, _, _)) (c2 := (28, _, _, _, _)) rfl (fun _ => ?_) (fun _ => ?_)
    · refine T_run hD 4 (c' := (22, [(15, x0), (11, x1), (0, x2), (0, v1)], [(0, v1), (0, x2), (0, 0), (15, x0)], m, XX)) rfl ?_
      refine T_call0 hD (D2 := d_K_become) (q2 := 176) (as := [(15, x0), (0, 0), (0, x2), (0, v1)]) (c1 := (25, [(15, x0), (11, x1), (0, x2), (0, v1)], [], m, XX)) (r2 := (0, (0, 0), fK_become m x0 0 x2 v1, XX)) (c2 := (25, [(15, x0), (11, x1), (0, x2), (0, v1)], [], fK_become m x0 0 x2 v1, XX)) rfl rfl (Go.mono (tK_become m x0 0 x2 v1) (by decide)) rfl ?_
      refine T_run hD 1 (c' := (45, [(15, x0), (11, x1), (0, x2), (0, v1)], [], fK_become m x0 0 x2 v1, XX)) rfl ?_
      exact T_fin hD rfl (fun h => h)
    · refine T_run hD 6 (c' := (34, [(15, x0), (11, x1), (0, x2), (0, v1)], [(0, w32 (v1 + 1)), (0, x2), (0, 2), (15, x0)], m, XX)) rfl ?_
      refine T_call0 hD (D2 := d_K_become) (q2 := 176) (as := [(15, x0), (0, 2), (0, x2), (0, w32 (v1 + 1))]) (c1 := (37, [(15, x0), (11, x1), (0, x2), (0, v1)], [], m, XX)) (r2 := (0, (0, 0), fK_become m x0 2 x2 (w32 (v1 + 1)), XX)) (c2 := (37, [(15, x0), (11, x1), (0, x2), (0, v1)], [], fK_become m x0 2 x2 (w32 (v1 + 1)), XX)) rfl rfl (Go.mono (tK_become m x0 2 x2 (w32 (v1 + 1))) (by decide)) rfl ?_
      refine T_run hD 2 (c' := (39, [(15, x0), (11, x1), (0, x2), (0, v1)], [(0, 3), (15, x0)], fK_become m x0 2 x2 (w32 (v1 + 1)), XX)) rfl ?_
      refine T_call0 hD (D2 := d_K_sortOf) (q2 := 177) (as := [(0, 3)]) (c1 := (42, [(15, x0), (11, x1), (0, x2), (0, v1)], [(15, x0)], fK_become m x0 2 x2 (w32 (v1 + 1)), XX)) (r2 := (1, (0, fK_sortOf 3), fK_become m x0 2 x2 (w32 (v1 + 1)), XX)) (c2 := (42, [(15, x0), (11, x1), (0, x2), (0, v1)], [(0, fK_sortOf 3), (15, x0)], fK_become m x0 2 x2 (w32 (v1 + 1)), XX)) rfl rfl (Go.mono (tK_sortOf (fK_become m x0 2 x2 (w32 (v1 + 1))) 3) (by decide)) rfl ?_
      refine T_run hD 1 (c' := (45, [(15, x0), (11, x1), (0, x2), (0, v1)], [], mup (fK_become m x0 2 x2 (w32 (v1 + 1))) x0 5 (fK_sortOf 3), XX)) rfl ?_
      exact T_fin hD rfl (fun h => h)
  rw [← hr]
  exact h9 v hv hr
def fS_becomeComparison (m : aM) (x0 : Int) (x1 : Int) (x2 : Int) (x3 : Int) : aM :=
  mup (fK_become m x0 3 x1 (w32 (x1 + x2))) x0 7 x3
set_option maxRecDepth 100000 in
theorem tS_becomeComparison (m : aM) (x0 : Int) (x1 : Int) (x2 : Int) (x3 : Int) : Go PB 2 185 (aEnt d_S_becomeComparison [(15, x0), (0, x1), (0, x2), (0, x3)] m XX) (0, (0, 0), (fS_becomeComparison m x0 x1 x2 x3), XX) := by
  have hD : aMd PB 185 = d_S_becomeComparison := rfl
  show aU PB 2 185 (fun w => (0, (0, 0), w, XX)) (fS_becomeComparison m x0 x1 x2 x3) (0, [(15, x0), (0, x1), (0, x2), (0, x3)], [], m, XX)
  unfold fS_becomeComparison
  refine U_run hD 6 (c' := (6, [(15, x0), (0, x1), (0, x2), (0, x3)], [(0, w32 (x1 + x2)), (0, x1), (0, 3), (15, x0)], m, XX)) rfl ?_
  refine U_call0 hD (D2 := d_K_become) (q2 := 176) (as := [(15, x0), (0, 3), (0, x1), (0, w32 (x1 + x2))]) (c1 := (9, [(15, x0), (0, x1), (0, x2), (0, x3)], [], m, XX)) (r2 := (0, (0, 0), fK_become m x0 3 x1 (w32 (x1 + x2)), XX)) (c2 := (9, [(15, x0), (0, x1), (0, x2), (0, x3)], [], fK_become m x0 3 x1 (w32 (x1 + x2)), XX)) rfl rfl (Go.mono (tK_become m x0 3 x1 (w32 (x1 + x2))) (by decide)) rfl ?_
  refine U_run hD 3 (c' := (14, [(15, x0), (0, x1), (0, x2), (0, x3)], [], mup (fK_become m x0 3 x1 (w32 (x1 + x2))) x0 7 x3, XX)) rfl ?_
  exact Go.fin hD rfl
def fS_readSign_39 (m : aM) (x2 : Int) (s0 : Int) (s1 : Int) : Option aM :=
  some (fK_become m s0 s1 x2 (w32 (x2 + 1)))
set_option maxRecDepth 100000 in
theorem tS_readSign_39 (r : aR) (m : aM) (x2 : Int) (s0 : Int) (s1 : Int) (z0 : aV) (z1 : aV) (z3 : aV) (z4 : aV) (z5 : aV) : aT PB 3 184 r (fun w => r = (0, (0, 0), w, XX)) (fS_readSign_39 m x2 s0 s1) (39, [z0, z1, (0, x2), z3, z4, z5], [(0, s1), (15, s0)], m, XX) := by
  have hD : aMd PB 184 = d_S_readSign := rfl
  unfold fS_readSign_39
  refine T_run hD 4 (c' := (43, [z0, z1, (0, x2), z3, z4, z5], [(0, w32 (x2 + 1)), (0, x2), (0, s1), (15, s0)], m, XX)) rfl ?_
  refine T_call0 hD (D2 := d_K_become) (q2 := 176) (as := [(15, s0), (0, s1), (0, x2), (0, w32 (x2 + 1))]) (c1 := (46, [z0, z1, (0, x2), z3, z4, z5], [], m, XX)) (r2 := (0, (0, 0), fK_become m s0 s1 x2 (w32 (x2 + 1)), XX)) (c2 := (46, [z0, z1, (0, x2), z3, z4, z5], [], fK_become m s0 s1 x2 (w32 (x2 + 1)), XX)) rfl rfl (Go.mono (tK_become m s0 s1 x2 (w32 (x2 + 1))) (by decide)) rfl ?_
  refine T_run hD 1 (c' := (158, [z0, z1, (0, x2), z3, z4, z5], [], fK_become m s0 s1 x2 (w32 (x2 + 1)), XX)) rfl ?_
  exact T_fin hD rfl (fun h => h)
def fS_readSign_27 (m : aM) (x0 : Int) (x2 : Int) (x3 : Int) : Option aM :=
  if x3 = 40 then
    fS_readSign_39 m x2 x0 4
  else
    fS_readSign_39 m x2 x0 5
set_option maxRecDepth 100000 in
theorem tS_readSign_27 (r : aR) (m : aM) (x0 : Int) (x2 : Int) (x3 : Int) (z1 : aV) (z4 : aV) (z5 : aV) : aT PB 3 184 r (fun w => r = (0, (0, 0), w, XX)) (fS_readSign_27 m x0 x2 x3) (27, [(15, x0), z1, (0, x2), (0, x3), z4, z5], [], m, XX) := by
  have hD : aMd PB 184 = d_S_readSign := rfl
  unfold fS_readSign_27
  refine T_run hD 3 (c' := (31, [(15, x0), z1, (0, x2), (0, x3), z4, z5], [(0, 40), (0, x3), (15, x0)], m, XX)) rfl ?_
  refine T_if hD (c1 := (34, _, _, _, _)) (c2 := (38, _, _, _, _)) rfl (fun _ => ?_) (fun _ => ?_)
  · refine T_run hD 2 (c' := (39, [(15, x0), z1, (0, x2), (0, x3), z4, z5], [(0, 4), (15, x0)], m, XX)) rfl ?_
    exact tS_readSign_39 r m x2 x0 4 (15, x0) z1 (0, x3) z4 z5
  · refine T_run hD 1 (c' := (39, [(15, x0), z1, (0, x2), (0, x3), z4, z5], [(0, 5), (15, x0)], m, XX)) rfl ?_
    exact tS_readSign_39 r m x2 x0 5 (15, x0) z1 (0, x3) z4 z5
def fS_readSign_143 (m : aM) (s0 : Int) (s1 : Int) (s2 : Int) (s3 : Int) : Option aM :=
  some (fS_becomeComparison m s0 s1 s2 s3)
set_option maxRecDepth 100000 in
theorem tS_readSign_143 (r : aR) (m : aM) (s0 : Int) (s1 : Int) (s2 : Int) (s3 : Int) (z0 : aV) (z1 : aV) (z2 : aV) (z3 : aV) (z4 : aV) (z5 : aV) : aT PB 3 184 r (fun w => r = (0, (0, 0), w, XX)) (fS_readSign_143 m s0 s1 s2 s3) (143, [z0, z1, z2, z3, z4, z5], [(0, s3), (0, s2), (0, s1), (15, s0)], m, XX) := by
  have hD : aMd PB 184 = d_S_readSign := rfl
  unfold fS_readSign_143
  refine T_call0 hD (D2 := d_S_becomeComparison) (q2 := 185) (as := [(15, s0), (0, s1), (0, s2), (0, s3)]) (c1 := (146, [z0, z1, z2, z3, z4, z5], [], m, XX)) (r2 := (0, (0, 0), fS_becomeComparison m s0 s1 s2 s3, XX)) (c2 := (146, [z0, z1, z2, z3, z4, z5], [], fS_becomeComparison m s0 s1 s2 s3, XX)) rfl rfl (Go.mono (tS_becomeComparison m s0 s1 s2 s3) (by decide)) rfl ?_
  refine T_run hD 1 (c' := (158, [z0, z1, z2, z3, z4, z5], [], fS_becomeComparison m s0 s1 s2 s3, XX)) rfl ?_
  exact T_fin hD rfl (fun h => h)
def fS_readSign_127 (m : aM) (x4 : Int) (x5 : Int) (s0 : Int) (s1 : Int) (s2 : Int) : Option aM :=
  if x4 = 61 then
    fS_readSign_143 m s0 s1 s2 (bOr x5 2)
  else
    fS_readSign_143 m s0 s1 s2 x5
set_option maxRecDepth 100000 in
theorem tS_readSign_127 (r : aR) (m : aM) (x4 : Int) (x5 : Int) (s0 : Int) (s1 : Int) (s2 : Int) (z0 : aV) (z1 : aV) (z2 : aV) (z3 : aV) : aT PB 3 184 r (fun w => r = (0, (0, 0), w, XX)) (fS_readSign_127 m x4 x5 s0 s1 s2) (127, [z0, z1, z2, z3, (0, x4), (0, x5)], [(0, s2), (0, s1), (15, s0)], m, XX) := by
  have hD : aMd PB 184 = d_S_readSign := rfl
  unfold fS_readSign_127
  refine T_run hD 2 (c' := (131, [z0, z1, z2, z3, (0, x4), (0, x5)], [(0, 61), (0, x4), (0, s2), (0, s1), (15, s0)], m, XX)) rfl ?_
  refine T_if hD (c1 := (134, _, _, _, _)) (c2 := (141, _, _, _, _)) rfl (fun _ => ?_) (fun _ => ?_)
  · refine T_run hD 4 (c' := (143, [z0, z1, z2, z3, (0, x4), (0, x5)], [(0, bOr x5 2), (0, s2), (0, s1), (15, s0)], m, XX)) rfl ?_
    exact tS_readSign_143 r m s0 s1 s2 (bOr x5 2) z0 z1 z2 z3 (0, x4) (0, x5)
  · refine T_run hD 1 (c' := (143, [z0, z1, z2, z3, (0, x4), (0, x5)], [(0, x5), (0, s2), (0, s1), (15, s0)], m, XX)) rfl ?_
    exact tS_readSign_143 r m s0 s1 s2 x5 z0 z1 z2 z3 (0, x4) (0, x5)
def fS_readSign_111 (m : aM) (x0 : Int) (x2 : Int) (x4 : Int) (s0 : Int) : Option aM :=
  if x4 = 61 then
    fS_readSign_127 m x4 s0 x0 x2 2
  else
    fS_readSign_127 m x4 s0 x0 x2 1
set_option maxRecDepth 100000 in
theorem tS_readSign_111 (r : aR) (m : aM) (x0 : Int) (x2 : Int) (x4 : Int) (s0 : Int) (z1 : aV) (z3 : aV) (z5 : aV) : aT PB 3 184 r (fun w => r = (0, (0, 0), w, XX)) (fS_readSign_111 m x0 x2 x4 s0) (111, [(15, x0), z1, (0, x2), z3, (0, x4), z5], [(0, s0)], m, XX) := by
  have hD : aMd PB 184 = d_S_readSign := rfl
  unfold fS_readSign_111
  refine T_run hD 5 (c' := (119, [(15, x0), z1, (0, x2), z3, (0, x4), (0, s0)], [(0, 61), (0, x4), (0, x2), (15, x0)], m, XX)) rfl ?_
  refine T_if hD (c1 := (122, _, _, _, _)) (c2 := (126, _, _, _, _)) rfl (fun _ => ?_) (fun _ => ?_)
  · refine T_run hD 2 (c' := (127, [(15, x0), z1, (0, x2), z3, (0, x4), (0, s0)], [(0, 2), (0, x2), (15, x0)], m, XX)) rfl ?_
    exact tS_readSign_127 r m x4 s0 x0 x2 2 (15, x0) z1 (0, x2) z3
  · refine T_run hD 1 (c' := (127, [(15, x0), z1, (0, x2), z3, (0, x4), (0, s0)], [(0, 1), (0, x2), (15, x0)], m, XX)) rfl ?_
    exact tS_readSign_127 r m x4 s0 x0 x2 1 (15, x0) z1 (0, x2) z3
def fS_readSign_100 (m : aM) (x0 : Int) (x2 : Int) (x3 : Int) (x4 : Int) : Option aM :=
  if x3 = 60 then
    fS_readSign_111 m x0 x2 x4 1
  else
    fS_readSign_111 m x0 x2 x4 4
set_option maxRecDepth 100000 in
theorem tS_readSign_100 (r : aR) (m : aM) (x0 : Int) (x2 : Int) (x3 : Int) (x4 : Int) (z1 : aV) (z5 : aV) : aT PB 3 184 r (fun w => r = (0, (0, 0), w, XX)) (fS_readSign_100 m x0 x2 x3 x4) (100, [(15, x0), z1, (0, x2), (0, x3), (0, x4), z5], [], m, XX) := by
  have hD : aMd PB 184 = d_S_readSign := rfl
  unfold fS_readSign_100
  refine T_run hD 2 (c' := (103, [(15, x0), z1, (0, x2), (0, x3), (0, x4), z5], [(0, 60), (0, x3)], m, XX)) rfl ?_
  refine T_if hD (c1 := (106, _, _, _, _)) (c2 := (110, _, _, _, _)) rfl (fun _ => ?_) (fun _ => ?_)
  · refine T_run hD 2 (c' := (111, [(15, x0), z1, (0, x2), (0, x3), (0, x4), z5], [(0, 1)], m, XX)) rfl ?_
    exact tS_readSign_111 r m x0 x2 x4 1 z1 (0, x3) z5
  · refine T_run hD 1 (c' := (111, [(15, x0), z1, (0, x2), (0, x3), (0, x4), z5], [(0, 4)], m, XX)) rfl ?_
    exact tS_readSign_111 r m x0 x2 x4 4 z1 (0, x3) z5
def fS_readSign_88 (m : aM) (x0 : Int) (x2 : Int) (x3 : Int) (x4 : Int) : Option aM :=
  if x3 = 60 then
    fS_readSign_100 m x0 x2 x3 x4
  else
    if x3 = 62 then
      fS_readSign_100 m x0 x2 x3 x4
    else
      some (fK_become m x0 0 x2 (w32 (x2 + 1)))
set_option maxRecDepth 100000 in
theorem tS_readSign_88 (r : aR) (m : aM) (x0 : Int) (x2 : Int) (x3 : Int) (x4 : Int) (z1 : aV) (z5 : aV) : aT PB 3 184 r (fun w => r = (0, (0, 0), w, XX)) (fS_readSign_88 m x0 x2 x3 x4) (88, [(15, x0), z1, (0, x2), (0, x3), (0, x4), z5], [], m, XX) := by
  have hD : aMd PB 184 = d_S_readSign := rfl
  unfold fS_readSign_88
  refine T_run hD 2 (c' := (91, [(15, x0), z1, (0, x2), (0, x3), (0, x4), z5], [(0, 60), (0, x3)], m, XX)) rfl ?_
  refine T_if hD (c1 := (100, _, _, _, _)) (c2 := (94, _, _, _, _)) rfl (fun _ => ?_) (fun _ => ?_)
  · exact tS_readSign_100 r m x0 x2 x3 x4 z1 z5
  · refine T_run hD 2 (c' := (97, [(15, x0), z1, (0, x2), (0, x3), (0, x4), z5], [(0, 62), (0, x3)], m, XX)) rfl ?_
    refine T_if hD (c1 := (100, _, _, _, _)) (c2 := (149, _, _, _, _)) rfl (fun _ => ?_) (fun _ => ?_)
    · exact tS_readSign_100 r m x0 x2 x3 x4 z1 z5
    · refine T_run hD 6 (c' := (155, [(15, x0), z1, (0, x2), (0, x3), (0, x4), z5], [(0, w32 (x2 + 1)), (0, x2), (0, 0), (15, x0)], m, XX)) rfl ?_
      refine T_call0 hD (D2 := d_K_become) (q2 := 176) (as := [(15, x0), (0, 0), (0, x2), (0, w32 (x2 + 1))]) (c1 := (158, [(15, x0), z1, (0, x2), (0, x3), (0, x4), z5], [], m, XX)) (r2 := (0, (0, 0), fK_become m x0 0 x2 (w32 (x2 + 1)), XX)) (c2 := (158, [(15, x0), z1, (0, x2), (0, x3), (0, x4), z5], [], fK_become m x0 0 x2 (w32 (x2 + 1)), XX)) rfl rfl (Go.mono (tK_become m x0 0 x2 (w32 (x2 + 1))) (by decide)) rfl ?_
      exact T_fin hD rfl (fun h => h)
def fS_readSign (m : aM) (x0 : Int) (x1 : Int) (x2 : Int) : Option aM :=
  (fC_at m x1 x2).bind fun v1 =>
  (fC_at m x1 (w32 (x2 + 1))).bind fun v2 =>
  if v1 = 40 then
    fS_readSign_27 m x0 x2 v1
  else
    if v1 = 41 then
      fS_readSign_27 m x0 x2 v1
    else
      if v1 = 61 then
        some (fS_becomeComparison m x0 x2 1 2)
      else
        if v1 = 60 then
          if v2 = 62 then
            some (fS_becomeComparison m x0 x2 2 5)
          else
            fS_readSign_88 m x0 x2 v1 v2
        else
          fS_readSign_88 m x0 x2 v1 v2
set_option maxRecDepth 100000 in
theorem tS_readSign (m : aM) (x0 : Int) (x1 : Int) (x2 : Int) (hx1 : ck x1) : ∀ v, fS_readSign m x0 x1 x2 = some v → Go PB 3 184 (aEnt d_S_readSign [(15, x0), (11, x1), (0, x2)] m XX) (0, (0, 0), v, XX) := by
  intro v hv
  have hD : aMd PB 184 = d_S_readSign := rfl
  obtain ⟨r, hr⟩ : ∃ r : aR, r = (0, (0, 0), v, XX) := ⟨_, rfl⟩
  have h9 : aT PB 3 184 r (fun w => r = (0, (0, 0), w, XX)) (fS_readSign m x0 x1 x2) (0, [(15, x0), (11, x1), (0, x2), (99, 0), (99, 0), (99, 0)], [], m, XX) := by
    unfold fS_readSign
    refine T_run hD 2 (c' := (2, [(15, x0), (11, x1), (0, x2), (99, 0), (99, 0), (99, 0)], [(0, x2), (11, x1)], m, XX)) rfl ?_
    refine T_call hD (D2 := d_C_at) (q2 := 107) (as := [(11, x1), (0, x2)]) (c1 := (5, [(15, x0), (11, x1), (0, x2), (99, 0), (99, 0), (99, 0)], [], m, XX)) (mk := fun w => (1, (0, w), m, XX)) (cc := fun v1 => (5, [(15, x0), (11, x1), (0, x2), (99, 0), (99, 0), (99, 0)], [(0, v1)], m, XX)) rfl rfl (fun y9 h9y => Go.mono (tC_at m x1 x2 hx1 y9 h9y) (by decide)) (fun _ => rfl) (fun v1 => ?_)
    refine T_run hD 5 (c' := (10, [(15, x0), (11, x1), (0, x2), (0, v1), (99, 0), (99, 0)], [(0, w32 (x2 + 1)), (11, x1)], m, XX)) rfl ?_
    refine T_call hD (D2 := d_C_at) (q2 := 107) (as := [(11, x1), (0, w32 (x2 + 1))]) (c1 := (13, [(15, x0), (11, x1), (0, x2), (0, v1), (99, 0), (99, 0)], [], m, XX)) (mk := fun w => (1, (0, w), m, XX)) (cc := fun v2 => (13, [(15, x0), (11, x1), (0, x2), (0, v1), (99, 0), (99, 0)], [(0, v2)], m, XX)) rfl rfl (fun y9 h9y => Go.mono (tC_at m x1 (w32 (x2 + 1)) hx1 y9 h9y) (by decide)) (fun _ => rfl) (fun v2 => ?_)
    refine T_run hD 3 (c' := (18, [(15, x0), (11, x1), (0, x2), (0, v1), (0, v2), (99, 0)], [(0, 40), (0, v1)], m, XX)) rfl ?_
    refine T_if hD (c1 := (27, _, _, _, _)) (c2 := (21, _, _, _, _)) rfl (fun _ => ?_) (fun _ => ?_)
    · exact tS_readSign_27 r m x0 x2 v1 (11, x1) (0, v2) (99, 0)
    · refine T_run hD 2 (c' := (24, [(15, x0), (11, x1), (0, x2), (0, v1), (0, v2), (99, 0)], [(0, 41), (0, v1)], m, XX)) rfl ?_
      refine T_if hD (c1 := (27, _, _, _, _)) (c2 := (49, _, _, _, _)) rfl (fun _ => ?_) (fun _ => ?_)
      · exact tS_readSign_27 r m x0 x2 v1 (11, x1) (0, v2) (99, 0)
      · refine T_run hD 2 (c' := (52, [(15, x0), (11, x1), (0, x2), (0, v1), (0, v2), (99, 0)], [(0, 61), (0, v1)], m, XX)) rfl ?_
        refine T_if hD (c1 := (55, _, _, _, _)) (c2 := (65, _, _, _, _)) rfl (fun _ => ?_) (fun _ => ?_)
        · refine T_run hD 4 (c' := (59, [(15, x0), (11, x1), (0, x2), (0, v1), (0, v2), (99, 0)], [(0, 2), (0, 1), (0, x2), (15, x0)], m, XX)) rfl ?_
          refine T_call0 hD (D2 := d_S_becomeComparison) (q2 := 185) (as := [(15, x0), (0, x2), (0, 1), (0, 2)]) (c1 := (62, [(15, x0), (11, x1), (0, x2), (0, v1), (0, v2), (99, 0)], [], m, XX)) (r2 := (0, (0, 0), fS_becomeComparison m x0 x2 1 2, XX)) (c2 := (62, [(15, x0), (11, x1), (0, x2), (0, v1), (0, v2), (99, 0)], [], fS_becomeComparison m x0 x2 1 2, XX)) rfl rfl (Go.mono (tS_becomeComparison m x0 x2 1 2) (by decide)) rfl ?_
          refine T_run hD 1 (c' := (158, [(15, x0), (11, x1), (0, x2), (0, v1), (0, v2), (99, 0)], [], fS_becomeComparison m x0 x2 1 2, XX)) rfl ?_
          exact T_fin hD rfl (fun h => h)
        · refine T_run hD 2 (c' := (68, [(15, x0), (11, x1), (0, x2), (0, v1), (0, v2), (99, 0)], [(0, 60), (0, v1)], m, XX)) rfl ?_
          refine T_if hD (c1 := (71, _, _, _, _)) (c2 := (88, _, _, _, _)) rfl (fun _ => ?_) (fun _ => ?_)
          · refine T_run hD 2 (c' := (75, [(15, x0), (11, x1), (0, x2), (0, v1), (0, v2), (99, 0)], [(0, 62), (0, v2)], m, XX)) rfl ?_
            refine T_if hD (c1 := (78, _, _, _, _)) (c2 := (88, _, _, _, _)) rfl (fun _ => ?_) (fun _ => ?_)
            · refine T_run hD 4 (c' := (82, [(15, x0), (11, x1), (0, x2), (0, v1), (0, v2), (99, 0)], [(0, 5), (0, 2), (0, x2), (15, x0)], m, XX)) rfl ?_
              refine T_call0 hD (D2 := d_S_becomeComparison) (q2 := 185) (as := [(15, x0), (0, x2), (0, 2), (0, 5)]) (c1 := (85, [(15, x0), (11, x1), (0, x2), (0, v1), (0, v2), (99, 0)], [], m, XX)) (r2 := (0, (0, 0), fS_becomeComparison m x0 x2 2 5, XX)) (c2 := (85, [(15, x0), (11, x1), (0, x2), (0, v1), (0, v2), (99, 0)], [], fS_becomeComparison m x0 x2 2 5, XX)) rfl rfl (Go.mono (tS_becomeComparison m x0 x2 2 5) (by decide)) rfl ?_
              refine T_run hD 1 (c' := (158, [(15, x0), (11, x1), (0, x2), (0, v1), (0, v2), (99, 0)], [], fS_becomeComparison m x0 x2 2 5, XX)) rfl ?_
              exact T_fin hD rfl (fun h => h)
            · exact tS_readSign_88 r m x0 x2 v1 v2 (11, x1) (99, 0)
          · exact tS_readSign_88 r m x0 x2 v1 v2 (11, x1) (99, 0)
  rw [← hr]
  exact h9 v hv hr
abbrev hS_split_10 (x1 : Int) : (aM × Int × Int) → aC → Prop := fun y c => ∃ (z5 : aV) (z6 : aV), c = (10, [(16, 22), (11, x1), (14, 12), (0, (y.2.1)), (0, (y.2.2)), z5, z6], [], (y.1), XX)
def fS_split_90 (m : aM) (x1 : Int) (x3 : Int) (x4 : Int) (x6 : Int) : Option ((aM × Int × Int) ⊕ aM) :=
  (fS_readDigits m x6 x1 x3).bind fun v3 =>
  some (Sum.inl (mup v3 22 1 (w32 ((v3 22 1) + 1)), (mup v3 22 1 (w32 ((v3 22 1) + 1))) x6 2, w32 (x4 + 1)))
set_option maxRecDepth 100000 in
theorem tS_split_90 (r : aR) (m : aM) (x1 : Int) (x3 : Int) (x4 : Int) (x6 : Int) (hx1 : ck x1) (z5 : aV) : aT PB 8 180 r (aTurn PB 8 180 r (hS_split_10 x1) (fun w => r = (0, (0, 0), w, XX))) (fS_split_90 m x1 x3 x4 x6) (90, [(16, 22), (11, x1), (14, 12), (0, x3), (0, x4), z5, (15, x6)], [], m, XX) := by
  have hD : aMd PB 180 = d_S_split := rfl
  unfold fS_split_90
  refine T_run hD 3 (c' := (94, [(16, 22), (11, x1), (14, 12), (0, x3), (0, x4), z5, (15, x6)], [(0, x3), (11, x1), (15, x6)], m, XX)) rfl ?_
  refine T_call hD (D2 := d_S_readDigits) (q2 := 182) (as := [(15, x6), (11, x1), (0, x3)]) (c1 := (97, [(16, 22), (11, x1), (14, 12), (0, x3), (0, x4), z5, (15, x6)], [], m, XX)) (mk := fun w => (0, (0, 0), w, XX)) (cc := fun v3 => (97, [(16, 22), (11, x1), (14, 12), (0, x3), (0, x4), z5, (15, x6)], [], v3, XX)) rfl rfl (fun y9 h9y => Go.mono (tS_readDigits m x6 x1 x3 hx1 y9 h9y) (by decide)) (fun _ => rfl) (fun v3 => ?_)
  refine T_run hD 12 (c' := (10, [(16, 22), (11, x1), (14, 12), (0, (mup v3 22 1 (w32 ((v3 22 1) + 1))) x6 2), (0, w32 (x4 + 1)), z5, (15, x6)], [], mup v3 22 1 (w32 ((v3 22 1) + 1)), XX)) rfl ?_
  exact T_back0 ⟨_, _, rfl⟩
def fS_split_146 (m : aM) (x1 : Int) : Option aM :=
  gd (0 ≤ m 22 1 ∧ m 22 1 < 97) (
  some (fK_become m (24 + m 22 1) 6 (m x1 1) (m x1 1)))
set_option maxRecDepth 100000 in
theorem tS_split_146 (r : aR) (m : aM) (x1 : Int) (hx1 : ck x1) (z2 : aV) (z3 : aV) (z4 : aV) (z5 : aV) (z6 : aV) : aT PB 8 180 r (fun w => r = (0, (0, 0), w, XX)) (fS_split_146 m x1) (146, [(16, 22), (11, x1), z2, z3, z4, z5, z6], [], m, XX) := by
  have hD : aMd PB 180 = d_S_split := rfl
  unfold fS_split_146
  refine T_run hD 4 (c' := (154, [(16, 22), (11, x1), z2, z3, z4, z5, z6], [(0, m 22 1), (34, 23)], m, XX)) rfl ?_
  refine T_g34 hD (cf := fun z9 => (155, [(16, 22), (11, x1), z2, z3, z4, z5, z6], [(15, z9)], m, XX)) (rv := 24 + m 22 1) (rv0 := RF 23 (m 22 1)) rfl (fun h => RF23 h.1 h.2) (fun h => by omega) (fun g7 => ?_)
  refine T_run hD 5 (c' := (165, [(16, 22), (11, x1), z2, z3, z4, z5, z6], [(0, m x1 1), (0, m x1 1), (0, 6), (15, 24 + m 22 1)], m, XX)) rfl ?_
  refine T_call0 hD (D2 := d_K_become) (q2 := 176) (as := [(15, 24 + m 22 1), (0, 6), (0, m x1 1), (0, m x1 1)]) (c1 := (168, [(16, 22), (11, x1), z2, z3, z4, z5, z6], [], m, XX)) (r2 := (0, (0, 0), fK_become m (24 + m 22 1) 6 (m x1 1) (m x1 1), XX)) (c2 := (168, [(16, 22), (11, x1), z2, z3, z4, z5, z6], [], fK_become m (24 + m 22 1) 6 (m x1 1) (m x1 1), XX)) rfl rfl (Go.mono (tK_become m (24 + m 22 1) 6 (m x1 1) (m x1 1)) (by decide)) rfl ?_
  exact T_fin hD rfl (fun h => h)
def fS_split_10_b (x1 : Int) : (aM × Int × Int) → Option ((aM × Int × Int) ⊕ aM) := fun (m, x3, x4) =>
  if x4 < 96 then
    if x3 < m x1 1 then
      (fC_at m x1 x3).bind fun v1 =>
      gd (0 ≤ m 22 1 ∧ m 22 1 < 97) (
      if v1 = 32 then
        some (Sum.inl (m, w32 (x3 + 1), w32 (x4 + 1)))
      else
        if fX_isLetter v1 = 0 then
          if fX_isDigit v1 = 0 then
            if v1 = 45 then
              fS_split_90 m x1 x3 x4 (24 + m 22 1)
            else
              if v1 = 39 then
                (fS_readText m (24 + m 22 1) x1 x3).bind fun v4 =>
                some (Sum.inl (mup v4 22 1 (w32 ((v4 22 1) + 1)), (mup v4 22 1 (w32 ((v4 22 1) + 1))) (24 + m 22 1) 2, w32 (x4 + 1)))
              else
                (fS_readSign m (24 + m 22 1) x1 x3).bind fun v5 =>
                some (Sum.inl (mup v5 22 1 (w32 ((v5 22 1) + 1)), (mup v5 22 1 (w32 ((v5 22 1) + 1))) (24 + m 22 1) 2, w32 (x4 + 1)))
          else
            fS_split_90 m x1 x3 x4 (24 + m 22 1)
        else
          (fS_readWord m (24 + m 22 1) x1 x3).bind fun v6 =>
          some (Sum.inl (mup v6 22 1 (w32 ((v6 22 1) + 1)), (mup v6 22 1 (w32 ((v6 22 1) + 1))) (24 + m 22 1) 2, w32 (x4 + 1))))
    else
      (fS_split_146 m x1).map Sum.inr
  else
    (fS_split_146 m x1).map Sum.inr
def fS_split_10 (m : aM) (x1 : Int) (x3 : Int) (x4 : Int) : Option aM := aLoop (fS_split_10_b x1) FU (m, x3, x4)
set_option maxRecDepth 100000 in
theorem tS_split_10 (r : aR) (m : aM) (x1 : Int) (x3 : Int) (x4 : Int) (hx1 : ck x1) (z5 : aV) (z6 : aV) : aT PB 8 180 r (fun w => r = (0, (0, 0), w, XX)) (fS_split_10 m x1 x3 x4) (10, [(16, 22), (11, x1), (14, 12), (0, x3), (0, x4), z5, z6], [], m, XX) := by
  have hD : aMd PB 180 = d_S_split := rfl
  refine T_loop (Hd := (hS_split_10 x1)) ?_ FU _ _ ⟨z5, z6, rfl⟩
  clear m x3 x4 z5 z6
  intro y c hc
  obtain ⟨m, x3, x4⟩ := y
  obtain ⟨z5, z6, rfl⟩ := hc
  unfold fS_split_10_b
  try dsimp only
  refine T_run hD 2 (c' := (14, [(16, 22), (11, x1), (14, 12), (0, x3), (0, x4), z5, z6], [(0, 96), (0, x4)], m, XX)) rfl ?_
  refine T_if hD (c1 := (17, _, _, _, _)) (c2 := (146, _, _, _, _)) rfl (fun _ => ?_) (fun _ => ?_)
  · refine T_run hD 3 (c' := (22, [(16, 22), (11, x1), (14, 12), (0, x3), (0, x4), z5, z6], [(0, m x1 1), (0, x3)], m, XX)) rfl ?_
    refine T_if hD (c1 := (25, _, _, _, _)) (c2 := (146, _, _, _, _)) rfl (fun _ => ?_) (fun _ => ?_)
    · refine T_run hD 2 (c' := (27, [(16, 22), (11, x1), (14, 12), (0, x3), (0, x4), z5, z6], [(0, x3), (11, x1)], m, XX)) rfl ?_
      refine T_call hD (D2 := d_C_at) (q2 := 107) (as := [(11, x1), (0, x3)]) (c1 := (30, [(16, 22), (11, x1), (14, 12), (0, x3), (0, x4), z5, z6], [], m, XX)) (mk := fun w => (1, (0, w), m, XX)) (cc := fun v1 => (30, [(16, 22), (11, x1), (14, 12), (0, x3), (0, x4), z5, z6], [(0, v1)], m, XX)) rfl rfl (fun y9 h9y => Go.mono (tC_at m x1 x3 hx1 y9 h9y) (by decide)) (fun _ => rfl) (fun v1 => ?_)
      refine T_run hD 5 (c' := (40, [(16, 22), (11, x1), (14, 12), (0, x3), (0, x4), (0, v1), z6], [(0, m 22 1), (34, 23)], m, XX)) rfl ?_
      refine T_g34 hD (cf := fun z9 => (41, [(16, 22), (11, x1), (14, 12), (0, x3), (0, x4), (0, v1), z6], [(15, z9)], m, XX)) (rv := 24 + m 22 1) (rv0 := RF 23 (m 22 1)) rfl (fun h => RF23 h.1 h.2) (fun h => by omega) (fun g2 => ?_)
      refine T_run hD 3 (c' := (47, [(16, 22), (11, x1), (14, 12), (0, x3), (0, x4), (0, v1), (15, 24 + m 22 1)], [(0, 32), (0, v1)], m, XX)) rfl ?_
      refine T_if hD (c1 := (50, _, _, _, _)) (c2 := (56, _, _, _, _)) rfl (fun _ => ?_) (fun _ => ?_)
      · refine T_run hD 4 (c' := (10, [(16, 22), (11, x1), (14, 12), (0, w32 (x3 + 1)), (0, w32 (x4 + 1)), (0, v1), (15, 24 + m 22 1)], [], m, XX)) rfl ?_
        exact T_back0 ⟨_, _, rfl⟩
      · refine T_run hD 1 (c' := (58, [(16, 22), (11, x1), (14, 12), (0, x3), (0, x4), (0, v1), (15, 24 + m 22 1)], [(0, v1)], m, XX)) rfl ?_
        refine T_call0 hD (D2 := d_X_isLetter) (q2 := 17) (as := [(0, v1)]) (c1 := (61, [(16, 22), (11, x1), (14, 12), (0, x3), (0, x4), (0, v1), (15, 24 + m 22 1)], [], m, XX)) (r2 := (1, (0, fX_isLetter v1), m, XX)) (c2 := (61, [(16, 22), (11, x1), (14, 12), (0, x3), (0, x4), (0, v1), (15, 24 + m 22 1)], [(0, fX_isLetter v1)], m, XX)) rfl rfl (Go.mono (tX_isLetter m v1) (by decide)) rfl ?_
        refine T_if hD (c1 := (75, _, _, _, _)) (c2 := (64, _, _, _, _)) rfl (fun _ => ?_) (fun _ => ?_)
        · refine T_run hD 1 (c' := (77, [(16, 22), (11, x1), (14, 12), (0, x3), (0, x4), (0, v1), (15, 24 + m 22 1)], [(0, v1)], m, XX)) rfl ?_
          refine T_call0 hD (D2 := d_X_isDigit) (q2 := 18) (as := [(0, v1)]) (c1 := (80, [(16, 22), (11, x1), (14, 12), (0, x3), (0, x4), (0, v1), (15, 24 + m 22 1)], [], m, XX)) (r2 := (1, (0, fX_isDigit v1), m, XX)) (c2 := (80, [(16, 22), (11, x1), (14, 12), (0, x3), (0, x4), (0, v1), (15, 24 + m 22 1)], [(0, fX_isDigit v1)], m, XX)) rfl rfl (Go.mono (tX_isDigit m v1) (by decide)) rfl ?_
          refine T_if hD (c1 := (83, _, _, _, _)) (c2 := (90, _, _, _, _)) rfl (fun _ => ?_) (fun _ => ?_)
          · refine T_run hD 2 (c' := (87, [(16, 22), (11, x1), (14, 12), (0, x3), (0, x4), (0, v1), (15, 24 + m 22 1)], [(0, 45), (0, v1)], m, XX)) rfl ?_
            refine T_if hD (c1 := (90, _, _, _, _)) (c2 := (100, _, _, _, _)) rfl (fun _ => ?_) (fun _ => ?_)
            · exact tS_split_90 r m x1 x3 x4 (24 + m 22 1) hx1 (0, v1)
            · refine T_run hD 2 (c' := (104, [(16, 22), (11, x1), (14, 12), (0, x3), (0, x4), (0, v1), (15, 24 + m 22 1)], [(0, 39), (0, v1)], m, XX)) rfl ?_
              refine T_if hD (c1 := (107, _, _, _, _)) (c2 := (117, _, _, _, _)) rfl (fun _ => ?_) (fun _ => ?_)
              · refine T_run hD 3 (c' := (111, [(16, 22), (11, x1), (14, 12), (0, x3), (0, x4), (0, v1), (15, 24 + m 22 1)], [(0, x3), (11, x1), (15, 24 + m 22 1)], m, XX)) rfl ?_
                refine T_call hD (D2 := d_S_readText) (q2 := 183) (as := [(15, 24 + m 22 1), (11, x1), (0, x3)]) (c1 := (114, [(16, 22), (11, x1), (14, 12), (0, x3), (0, x4), (0, v1), (15, 24 + m 22 1)], [], m, XX)) (mk := fun w => (0, (0, 0), w, XX)) (cc := fun v4 => (114, [(16, 22), (11, x1), (14, 12), (0, x3), (0, x4), (0, v1), (15, 24 + m 22 1)], [], v4, XX)) rfl rfl (fun y9 h9y => Go.mono (tS_readText m (24 + m 22 1) x1 x3 hx1 y9 h9y) (by decide)) (fun _ => rfl) (fun v4 => ?_)
                refine T_run hD 12 (c' := (10, [(16, 22), (11, x1), (14, 12), (0, (mup v4 22 1 (w32 ((v4 22 1) + 1))) (24 + m 22 1) 2), (0, w32 (x4 + 1)), (0, v1), (15, 24 + m 22 1)], [], mup v4 22 1 (w32 ((v4 22 1) + 1)), XX)) rfl ?_
                exact T_back0 ⟨_, _, rfl⟩
              · refine T_run hD 3 (c' := (121, [(16, 22), (11, x1), (14, 12), (0, x3), (0, x4), (0, v1), (15, 24 + m 22 1)], [(0, x3), (11, x1), (15, 24 + m 22 1)], m, XX)) rfl ?_
                refine T_call hD (D2 := d_S_readSign) (q2 := 184) (as := [(15, 24 + m 22 1), (11, x1), (0, x3)]) (c1 := (124, [(16, 22), (11, x1), (14, 12), (0, x3), (0, x4), (0, v1), (15, 24 + m 22 1)], [], m, XX)) (mk := fun w => (0, (0, 0), w, XX)) (cc := fun v5 => (124, [(16, 22), (11, x1), (14, 12), (0, x3), (0, x4), (0, v1), (15, 24 + m 22 1)], [], v5, XX)) rfl rfl (fun y9 h9y => Go.mono (tS_readSign m (24 + m 22 1) x1 x3 hx1 y9 h9y) (by decide)) (fun _ => rfl) (fun v5 => ?_)
                refine T_run hD 11 (c' := (10, [(16, 22), (11, x1), (14, 12), (0, (mup v5 22 1 (w32 ((v5 22 1) + 1))) (24 + m 22 1) 2), (0, w32 (x4 + 1)), (0, v1), (15, 24 + m 22 1)], [], mup v5 22 1 (w32 ((v5 22 1) + 1)), XX)) rfl ?_
                exact T_back0 ⟨_, _, rfl⟩
          · exact tS_split_90 r m x1 x3 x4 (24 + m 22 1) hx1 (0, v1)
        · refine T_run hD 4 (c' := (69, [(16, 22), (11, x1), (14, 12), (0, x3), (0, x4), (0, v1), (15, 24 + m 22 1)], [(14, 12), (0, x3), (11, x1), (15, 24 + m 22 1)], m, XX)) rfl ?_
          refine T_call hD (D2 := d_S_readWord) (q2 := 181) (as := [(15, 24 + m 22 1), (11, x1), (0, x3), (14, 12)]) (c1 := (72, [(16, 22), (11, x1), (14, 12), (0, x3), (0, x4), (0, v1), (15, 24 + m 22 1)], [], m, XX)) (mk := fun w => (0, (0, 0), w, XX)) (cc := fun v6 => (72, [(16, 22), (11, x1), (14, 12), (0, x3), (0, x4), (0, v1), (15, 24 + m 22 1)], [], v6, XX)) rfl rfl (fun y9 h9y => Go.mono (tS_readWord m (24 + m 22 1) x1 x3 hx1 y9 h9y) (by decide)) (fun _ => rfl) (fun v6 => ?_)
          refine T_run hD 12 (c' := (10, [(16, 22), (11, x1), (14, 12), (0, (mup v6 22 1 (w32 ((v6 22 1) + 1))) (24 + m 22 1) 2), (0, w32 (x4 + 1)), (0, v1), (15, 24 + m 22 1)], [], mup v6 22 1 (w32 ((v6 22 1) + 1)), XX)) rfl ?_
          exact T_back0 ⟨_, _, rfl⟩
    · exact T_map (tS_split_146 r m x1 hx1 (14, 12) (0, x3) (0, x4) z5 z6)
  · exact T_map (tS_split_146 r m x1 hx1 (14, 12) (0, x3) (0, x4) z5 z6)
def fS_split (m : aM) (x1 : Int) : Option aM :=
  fS_split_10 (mup m 22 1 0) x1 0 0
set_option maxRecDepth 100000 in
theorem tS_split (m : aM) (x1 : Int) (hx1 : ck x1) : ∀ v, fS_split m x1 = some v → Go PB 8 180 (aEnt d_S_split [(16, 22), (11, x1), (14, 12)] m XX) (0, (0, 0), v, XX) := by
  intro v hv
  have hD : aMd PB 180 = d_S_split := rfl
  obtain ⟨r, hr⟩ : ∃ r : aR, r = (0, (0, 0), v, XX) := ⟨_, rfl⟩
  have h9 : aT PB 8 180 r (fun w => r = (0, (0, 0), w, XX)) (fS_split m x1) (0, [(16, 22), (11, x1), (14, 12), (99, 0), (99, 0), (99, 0), (99, 0)], [], m, XX) := by
    unfold fS_split
    refine T_run hD 7 (c' := (10, [(16, 22), (11, x1), (14, 12), (0, 0), (0, 0), (99, 0), (99, 0)], [], mup m 22 1 0, XX)) rfl ?_
    exact tS_split_10 r (mup m 22 1 0) x1 0 0 hx1 (99, 0) (99, 0)
  rw [← hr]
  exact h9 v hv hr
def fS_get (m : aM) (x1 : Int) : Option Int :=
  if x1 < 0 then
    gd (0 ≤ m 22 1 ∧ m 22 1 < 97) (
    some (24 + m 22 1))
  else
    if x1 < m 22 1 then
      gd (0 ≤ x1 ∧ x1 < 97) (
      some (24 + x1))
    else
      gd (0 ≤ m 22 1 ∧ m 22 1 < 97) (
      some (24 + m 22 1))
set_option maxRecDepth 100000 in
theorem tS_get (m : aM) (x1 : Int) : ∀ v, fS_get m x1 = some v → Go PB 1 179 (aEnt d_S_get [(16, 22), (0, x1)] m XX) (1, (15, v), m, XX) := by
  intro v hv
  have hD : aMd PB 179 = d_S_get := rfl
  obtain ⟨r, hr⟩ : ∃ r : aR, r = (1, (15, v), m, XX) := ⟨_, rfl⟩
  have h9 : aT PB 1 179 r (fun w => r = (1, (15, w), m, XX)) (fS_get m x1) (0, [(16, 22), (0, x1)], [], m, XX) := by
    unfold fS_get
    refine T_run hD 3 (c' := (5, [(16, 22), (0, x1)], [(0, x1), (34, 23)], m, XX)) rfl ?_
    refine T_if hD (c1 := (20, _, _, _, _)) (c2 := (8, _, _, _, _)) rfl (fun _ => ?_) (fun _ => ?_)
    · refine T_run hD 2 (c' := (24, [(16, 22), (0, x1)], [(0, m 22 1), (34, 23)], m, XX)) rfl ?_
      refine T_g34 hD (cf := fun z9 => (25, [(16, 22), (0, x1)], [(15, z9)], m, XX)) (rv := 24 + m 22 1) (rv0 := RF 23 (m 22 1)) rfl (fun h => RF23 h.1 h.2) (fun h => by omega) (fun g1 => ?_)
      exact T_fin hD rfl (fun h => h)
    · refine T_run hD 3 (c' := (13, [(16, 22), (0, x1)], [(0, m 22 1), (0, x1), (34, 23)], m, XX)) rfl ?_
      refine T_if hD (c1 := (16, _, _, _, _)) (c2 := (20, _, _, _, _)) rfl (fun _ => ?_) (fun _ => ?_)
      · refine T_run hD 2 (c' := (24, [(16, 22), (0, x1)], [(0, x1), (34, 23)], m, XX)) rfl ?_
        refine T_g34 hD (cf := fun z9 => (25, [(16, 22), (0, x1)], [(15, z9)], m, XX)) (rv := 24 + x1) (rv0 := RF 23 (x1)) rfl (fun h => RF23 h.1 h.2) (fun h => by omega) (fun g2 => ?_)
        exact T_fin hD rfl (fun h => h)
      · refine T_run hD 2 (c' := (24, [(16, 22), (0, x1)], [(0, m 22 1), (34, 23)], m, XX)) rfl ?_
        refine T_g34 hD (cf := fun z9 => (25, [(16, 22), (0, x1)], [(15, z9)], m, XX)) (rv := 24 + m 22 1) (rv0 := RF 23 (m 22 1)) rfl (fun h => RF23 h.1 h.2) (fun h => by omega) (fun g3 => ?_)
        exact T_fin hD rfl (fun h => h)
  rw [← hr]
  exact h9 v hv hr
def fQ_pass_25 (m : aM) (x1 : Int) : aM :=
  if m 21 5 = (-1) then
    mup m 21 5 (m x1 1)
  else
    m
set_option maxRecDepth 100000 in
theorem tQ_pass_25 (m : aM) (x1 : Int) (z2 : aV) : aU PB 1 141 (fun w => (0, (0, 0), w, XX)) (fQ_pass_25 m x1) (25, [(12, 21), (15, x1), z2], [], m, XX) := by
  have hD : aMd PB 141 = d_Q_pass := rfl
  unfold fQ_pass_25
  refine U_run hD 3 (c' := (30, [(12, 21), (15, x1), z2], [(0, (-1)), (0, m 21 5)], m, XX)) rfl ?_
  refine U_if hD (c1 := (33, _, _, _, _)) (c2 := (41, _, _, _, _)) rfl (fun _ => ?_) (fun _ => ?_)
  · refine U_run hD 4 (c' := (41, [(12, 21), (15, x1), z2], [], mup m 21 5 (m x1 1), XX)) rfl ?_
    exact Go.fin hD rfl
  · exact Go.fin hD rfl
def fQ_pass (m : aM) (x1 : Int) (x2 : Int) : aM :=
  if m 21 5 = (-1) then
    if x2 = 0 then
      fQ_pass_25 m x1
    else
      mup m 21 4 (w32 ((m 21 4) + 1))
  else
    fQ_pass_25 m x1
set_option maxRecDepth 100000 in
theorem tQ_pass (m : aM) (x1 : Int) (x2 : Int) : Go PB 1 141 (aEnt d_Q_pass [(12, 21), (15, x1), (0, x2)] m XX) (0, (0, 0), (fQ_pass m x1 x2), XX) := by
  have hD : aMd PB 141 = d_Q_pass := rfl
  show aU PB 1 141 (fun w => (0, (0, 0), w, XX)) (fQ_pass m x1 x2) (0, [(12, 21), (15, x1), (0, x2)], [], m, XX)
  unfold fQ_pass
  refine U_run hD 3 (c' := (5, [(12, 21), (15, x1), (0, x2)], [(0, (-1)), (0, m 21 5)], m, XX)) rfl ?_
  refine U_if hD (c1 := (8, _, _, _, _)) (c2 := (25, _, _, _, _)) rfl (fun _ => ?_) (fun _ => ?_)
  · refine U_run hD 1 (c' := (9, [(12, 21), (15, x1), (0, x2)], [(0, x2)], m, XX)) rfl ?_
    refine U_if hD (c1 := (25, _, _, _, _)) (c2 := (12, _, _, _, _)) rfl (fun _ => ?_) (fun _ => ?_)
    · exact tQ_pass_25 m x1 (0, x2)
    · refine U_run hD 7 (c' := (41, [(12, 21), (15, x1), (0, x2)], [], mup m 21 4 (w32 ((m 21 4) + 1)), XX)) rfl ?_
      exact Go.fin hD rfl
  · exact tQ_pass_25 m x1 (0, x2)
def fQ_takeWord_33 (m : aM) (x2 : Int) (s0 : Int) : Option (Int × aM) :=
  if s0 = 0 then
    gd (s0 = 0 ∨ s0 = 1) (some ((s0, m)))
  else
    gd (s0 = 0 ∨ s0 = 1) (some ((s0, fQ_pass m x2 1)))
set_option maxRecDepth 100000 in
theorem tQ_takeWord_33 (r : aR) (m : aM) (x2 : Int) (s0 : Int) (z1 : aV) (z3 : aV) : aT PB 2 140 r (fun w => r = (1, (0, w.1), w.2, XX)) (fQ_takeWord_33 m x2 s0) (33, [(12, 21), z1, (15, x2), z3], [(0, s0)], m, XX) := by
  have hD : aMd PB 140 = d_Q_takeWord := rfl
  unfold fQ_takeWord_33
  refine T_run hD 2 (c' := (35, [(12, 21), z1, (15, x2), (0, s0)], [(0, s0)], m, XX)) rfl ?_
  refine T_if hD (c1 := (44, _, _, _, _)) (c2 := (38, _, _, _, _)) rfl (fun _ => ?_) (fun _ => ?_)
  · refine T_run hD 1 (c' := (45, [(12, 21), z1, (15, x2), (0, s0)], [(0, s0)], m, XX)) rfl ?_
    exact T_gfin hD (fun h => if_pos (decide_eq_true h)) (fun h => h)
  · refine T_run hD 3 (c' := (41, [(12, 21), z1, (15, x2), (0, s0)], [(0, 1), (15, x2), (12, 21)], m, XX)) rfl ?_
    refine T_call0 hD (D2 := d_Q_pass) (q2 := 141) (as := [(12, 21), (15, x2), (0, 1)]) (c1 := (44, [(12, 21), z1, (15, x2), (0, s0)], [], m, XX)) (r2 := (0, (0, 0), fQ_pass m x2 1, XX)) (c2 := (44, [(12, 21), z1, (15, x2), (0, s0)], [], fQ_pass m x2 1, XX)) rfl rfl (Go.mono (tQ_pass m x2 1) (by decide)) rfl ?_
    refine T_run hD 1 (c' := (45, [(12, 21), z1, (15, x2), (0, s0)], [(0, s0)], fQ_pass m x2 1, XX)) rfl ?_
    exact T_gfin hD (fun h => if_pos (decide_eq_true h)) (fun h => h)
def fQ_takeWord (m : aM) (x1 : Int) : Option (Int × aM) :=
  (fS_get m (m 21 4)).bind fun v1 =>
  if m 21 5 = (-1) then
    if m v1 3 = x1 then
      fQ_takeWord_33 m v1 1
    else
      fQ_takeWord_33 m v1 0
  else
    fQ_takeWord_33 m v1 0
set_option maxRecDepth 100000 in
theorem tQ_takeWord (m : aM) (x1 : Int) : ∀ v, fQ_takeWord m x1 = some v → Go PB 2 140 (aEnt d_Q_takeWord [(12, 21), (40, x1)] m XX) (1, (0, v.1), v.2, XX) := by
  intro v hv
  have hD : aMd PB 140 = d_Q_takeWord := rfl
  obtain ⟨r, hr⟩ : ∃ r : aR, r = (1, (0, v.1), v.2, XX) := ⟨_, rfl⟩
  have h9 : aT PB 2 140 r (fun w => r = (1, (0, w.1), w.2, XX)) (fQ_takeWord m x1) (0, [(12, 21), (40, x1), (99, 0), (99, 0)], [], m, XX) := by
    unfold fQ_takeWord
    refine T_run hD 4 (c' := (8, [(12, 21), (40, x1), (99, 0), (99, 0)], [(0, m 21 4), (16, 22)], m, XX)) rfl ?_
    refine T_call hD (D2 := d_S_get) (q2 := 179) (as := [(16, 22), (0, m 21 4)]) (c1 := (11, [(12, 21), (40, x1), (99, 0), (99, 0)], [], m, XX)) (mk := fun w => (1, (15, w), m, XX)) (cc := fun v1 => (11, [(12, 21), (40, x1), (99, 0), (99, 0)], [(15, v1)], m, XX)) rfl rfl (fun y9 h9y => Go.mono (tS_get m (m 21 4) y9 h9y) (by decide)) (fun _ => rfl) (fun v1 => ?_)
    refine T_run hD 4 (c' := (17, [(12, 21), (40, x1), (15, v1), (99, 0)], [(0, (-1)), (0, m 21 5)], m, XX)) rfl ?_
    refine T_if hD (c1 := (20, _, _, _, _)) (c2 := (32, _, _, _, _)) rfl (fun _ => ?_) (fun _ => ?_)
    · refine T_run hD 3 (c' := (25, [(12, 21), (40, x1), (15, v1), (99, 0)], [(40, x1), (40, m v1 3)], m, XX)) rfl ?_
      refine T_if hD (c1 := (28, _, _, _, _)) (c2 := (32, _, _, _, _)) rfl (fun _ => ?_) (fun _ => ?_)
      · refine T_run hD 2 (c' := (33, [(12, 21), (40, x1), (15, v1), (99, 0)], [(0, 1)], m, XX)) rfl ?_
        exact tQ_takeWord_33 r m v1 1 (40, x1) (99, 0)
      · refine T_run hD 1 (c' := (33, [(12, 21), (40, x1), (15, v1), (99, 0)], [(0, 0)], m, XX)) rfl ?_
        exact tQ_takeWord_33 r m v1 0 (40, x1) (99, 0)
    · refine T_run hD 1 (c' := (33, [(12, 21), (40, x1), (15, v1), (99, 0)], [(0, 0)], m, XX)) rfl ?_
      exact tQ_takeWord_33 r m v1 0 (40, x1) (99, 0)
  rw [← hr]
  exact h9 v hv hr
def fQ_readKind_27 (m : aM) (s1 : Int) (s2 : Int) : Option aM :=
  some (fQ_pass m s1 s2)
set_option maxRecDepth 100000 in
theorem tQ_readKind_27 (r : aR) (m : aM) (s1 : Int) (s2 : Int) (z0 : aV) (z1 : aV) (z2 : aV) : aT PB 2 138 r (fun w => r = (0, (0, 0), w, XX)) (fQ_readKind_27 m s1 s2) (27, [z0, z1, z2], [(0, s2), (15, s1), (12, 21)], m, XX) := by
  have hD : aMd PB 138 = d_Q_readKind := rfl
  unfold fQ_readKind_27
  refine T_call0 hD (D2 := d_Q_pass) (q2 := 141) (as := [(12, 21), (15, s1), (0, s2)]) (c1 := (30, [z0, z1, z2], [], m, XX)) (r2 := (0, (0, 0), fQ_pass m s1 s2, XX)) (c2 := (30, [z0, z1, z2], [], fQ_pass m s1 s2, XX)) rfl rfl (Go.mono (tQ_pass m s1 s2) (by decide)) rfl ?_
  exact T_fin hD rfl (fun h => h)
def fQ_readKind (m : aM) (x1 : Int) : Option aM :=
  (fS_get m (m 21 4)).bind fun v1 =>
  if m v1 0 = x1 then
    fQ_readKind_27 m v1 1
  else
    fQ_readKind_27 m v1 0
set_option maxRecDepth 100000 in
theorem tQ_readKind (m : aM) (x1 : Int) : ∀ v, fQ_readKind m x1 = some v → Go PB 2 138 (aEnt d_Q_readKind [(12, 21), (0, x1)] m XX) (0, (0, 0), v, XX) := by
  intro v hv
  have hD : aMd PB 138 = d_Q_readKind := rfl
  obtain ⟨r, hr⟩ : ∃ r : aR, r = (0, (0, 0), v, XX) := ⟨_, rfl⟩
  have h9 : aT PB 2 138 r (fun w => r = (0, (0, 0), w, XX)) (fQ_readKind m x1) (0, [(12, 21), (0, x1), (99, 0)], [], m, XX) := by
    unfold fQ_readKind
    refine T_run hD 4 (c' := (8, [(12, 21), (0, x1), (99, 0)], [(0, m 21 4), (16, 22)], m, XX)) rfl ?_
    refine T_call hD (D2 := d_S_get) (q2 := 179) (as := [(16, 22), (0, m 21 4)]) (c1 := (11, [(12, 21), (0, x1), (99, 0)], [], m, XX)) (mk := fun w => (1, (15, w), m, XX)) (cc := fun v1 => (11, [(12, 21), (0, x1), (99, 0)], [(15, v1)], m, XX)) rfl rfl (fun y9 h9y => Go.mono (tS_get m (m 21 4) y9 h9y) (by decide)) (fun _ => rfl) (fun v1 => ?_)
    refine T_run hD 6 (c' := (19, [(12, 21), (0, x1), (15, v1)], [(0, x1), (0, m v1 0), (15, v1), (12, 21)], m, XX)) rfl ?_
    refine T_if hD (c1 := (22, _, _, _, _)) (c2 := (26, _, _, _, _)) rfl (fun _ => ?_) (fun _ => ?_)
    · refine T_run hD 2 (c' := (27, [(12, 21), (0, x1), (15, v1)], [(0, 1), (15, v1), (12, 21)], m, XX)) rfl ?_
      exact tQ_readKind_27 r m v1 1 (12, 21) (0, x1) (15, v1)
    · refine T_run hD 1 (c' := (27, [(12, 21), (0, x1), (15, v1)], [(0, 0), (15, v1), (12, 21)], m, XX)) rfl ?_
      exact tQ_readKind_27 r m v1 0 (12, 21) (0, x1) (15, v1)
  rw [← hr]
  exact h9 v hv hr
def fQ_readName_42 (m : aM) (x2 : Int) (s1 : Int) (s2 : Int) : Option (Int × aM) :=
  some (((fQ_pass m s1 s2) x2 4, fQ_pass m s1 s2))
set_option maxRecDepth 100000 in
theorem tQ_readName_42 (r : aR) (m : aM) (x2 : Int) (s1 : Int) (s2 : Int) (z0 : aV) (z1 : aV) : aT PB 2 136 r (fun w => r = (1, (0, w.1), w.2, XX)) (fQ_readName_42 m x2 s1 s2) (42, [z0, z1, (15, x2)], [(0, s2), (15, s1), (12, 21)], m, XX) := by
  have hD : aMd PB 136 = d_Q_readName := rfl
  unfold fQ_readName_42
  refine T_call0 hD (D2 := d_Q_pass) (q2 := 141) (as := [(12, 21), (15, s1), (0, s2)]) (c1 := (45, [z0, z1, (15, x2)], [], m, XX)) (r2 := (0, (0, 0), fQ_pass m s1 s2, XX)) (c2 := (45, [z0, z1, (15, x2)], [], fQ_pass m s1 s2, XX)) rfl rfl (Go.mono (tQ_pass m s1 s2) (by decide)) rfl ?_
  refine T_run hD 2 (c' := (49, [z0, z1, (15, x2)], [(0, (fQ_pass m s1 s2) x2 4)], fQ_pass m s1 s2, XX)) rfl ?_
  exact T_fin hD rfl (fun h => h)
def fQ_readName (m : aM) (x1 : Int) : Option (Int × aM) :=
  (fS_get m (m 21 4)).bind fun v1 =>
  if m v1 4 = (-1) then
    fQ_readName_42 m v1 v1 0
  else
    if x1 = 0 then
      fQ_readName_42 m v1 v1 1
    else
      if m v1 5 = fK_sortOf 1 then
        fQ_readName_42 m v1 v1 1
      else
        fQ_readName_42 m v1 v1 0
set_option maxRecDepth 100000 in
theorem tQ_readName (m : aM) (x1 : Int) : ∀ v, fQ_readName m x1 = some v → Go PB 2 136 (aEnt d_Q_readName [(12, 21), (0, x1)] m XX) (1, (0, v.1), v.2, XX) := by
  intro v hv
  have hD : aMd PB 136 = d_Q_readName := rfl
  obtain ⟨r, hr⟩ : ∃ r : aR, r = (1, (0, v.1), v.2, XX) := ⟨_, rfl⟩
  have h9 : aT PB 2 136 r (fun w => r = (1, (0, w.1), w.2, XX)) (fQ_readName m x1) (0, [(12, 21), (0, x1), (99, 0)], [], m, XX) := by
    unfold fQ_readName
    refine T_run hD 4 (c' := (8, [(12, 21), (0, x1), (99, 0)], [(0, m 21 4), (16, 22)], m, XX)) rfl ?_
    refine T_call hD (D2 := d_S_get) (q2 := 179) (as := [(16, 22), (0, m 21 4)]) (c1 := (11, [(12, 21), (0, x1), (99, 0)], [], m, XX)) (mk := fun w => (1, (15, w), m, XX)) (cc := fun v1 => (11, [(12, 21), (0, x1), (99, 0)], [(15, v1)], m, XX)) rfl rfl (fun y9 h9y => Go.mono (tS_get m (m 21 4) y9 h9y) (by decide)) (fun _ => rfl) (fun v1 => ?_)
    refine T_run hD 6 (c' := (19, [(12, 21), (0, x1), (15, v1)], [(0, (-1)), (0, m v1 4), (15, v1), (12, 21)], m, XX)) rfl ?_
    refine T_if hD (c1 := (41, _, _, _, _)) (c2 := (22, _, _, _, _)) rfl (fun _ => ?_) (fun _ => ?_)
    · refine T_run hD 1 (c' := (42, [(12, 21), (0, x1), (15, v1)], [(0, 0), (15, v1), (12, 21)], m, XX)) rfl ?_
      exact tQ_readName_42 r m v1 v1 0 (12, 21) (0, x1)
    · refine T_run hD 1 (c' := (23, [(12, 21), (0, x1), (15, v1)], [(0, x1), (15, v1), (12, 21)], m, XX)) rfl ?_
      refine T_if hD (c1 := (37, _, _, _, _)) (c2 := (26, _, _, _, _)) rfl (fun _ => ?_) (fun _ => ?_)
      · refine T_run hD 2 (c' := (42, [(12, 21), (0, x1), (15, v1)], [(0, 1), (15, v1), (12, 21)], m, XX)) rfl ?_
        exact tQ_readName_42 r m v1 v1 1 (12, 21) (0, x1)
      · refine T_run hD 3 (c' := (31, [(12, 21), (0, x1), (15, v1)], [(0, 1), (0, m v1 5), (15, v1), (12, 21)], m, XX)) rfl ?_
        refine T_call0 hD (D2 := d_K_sortOf) (q2 := 177) (as := [(0, 1)]) (c1 := (34, [(12, 21), (0, x1), (15, v1)], [(0, m v1 5), (15, v1), (12, 21)], m, XX)) (r2 := (1, (0, fK_sortOf 1), m, XX)) (c2 := (34, [(12, 21), (0, x1), (15, v1)], [(0, fK_sortOf 1), (0, m v1 5), (15, v1), (12, 21)], m, XX)) rfl rfl (Go.mono (tK_sortOf m 1) (by decide)) rfl ?_
        refine T_if hD (c1 := (37, _, _, _, _)) (c2 := (41, _, _, _, _)) rfl (fun _ => ?_) (fun _ => ?_)
        · refine T_run hD 2 (c' := (42, [(12, 21), (0, x1), (15, v1)], [(0, 1), (15, v1), (12, 21)], m, XX)) rfl ?_
          exact tQ_readName_42 r m v1 v1 1 (12, 21) (0, x1)
        · refine T_run hD 1 (c' := (42, [(12, 21), (0, x1), (15, v1)], [(0, 0), (15, v1), (12, 21)], m, XX)) rfl ?_
          exact tQ_readName_42 r m v1 v1 0 (12, 21) (0, x1)
  rw [← hr]
  exact h9 v hv hr
def fQ_readAggregate_106 (m : aM) (s2 : Int) : Option aM :=
  (fQ_readName m s2).bind fun v3 =>
  (fQ_readKind (mup v3.2 21 7 v3.1) 5).bind fun v4 =>
  some (v4)
set_option maxRecDepth 100000 in
theorem tQ_readAggregate_106 (r : aR) (m : aM) (s2 : Int) (z1 : aV) (z2 : aV) : aT PB 3 131 r (fun w => r = (0, (0, 0), w, XX)) (fQ_readAggregate_106 m s2) (106, [(12, 21), z1, z2], [(0, s2), (12, 21), (12, 21)], m, XX) := by
  have hD : aMd PB 131 = d_Q_readAggregate := rfl
  unfold fQ_readAggregate_106
  refine T_call hD (D2 := d_Q_readName) (q2 := 136) (as := [(12, 21), (0, s2)]) (c1 := (109, [(12, 21), z1, z2], [(12, 21)], m, XX)) (mk := fun w => (1, (0, w.1), w.2, XX)) (cc := fun v3 => (109, [(12, 21), z1, z2], [(0, v3.1), (12, 21)], v3.2, XX)) rfl rfl (fun y9 h9y => Go.mono (tQ_readName m s2 y9 h9y) (by decide)) (fun _ => rfl) (fun v3 => ?_)
  refine T_run hD 3 (c' := (114, [(12, 21), z1, z2], [(0, 5), (12, 21)], mup v3.2 21 7 v3.1, XX)) rfl ?_
  refine T_call hD (D2 := d_Q_readKind) (q2 := 138) (as := [(12, 21), (0, 5)]) (c1 := (117, [(12, 21), z1, z2], [], mup v3.2 21 7 v3.1, XX)) (mk := fun w => (0, (0, 0), w, XX)) (cc := fun v4 => (117, [(12, 21), z1, z2], [], v4, XX)) rfl rfl (fun y9 h9y => Go.mono (tQ_readKind (mup v3.2 21 7 v3.1) 5 y9 h9y) (by decide)) (fun _ => rfl) (fun v4 => ?_)
  exact T_fin hD rfl (fun h => h)
def fQ_readAggregate_77 (m : aM) (x2 : Int) (s1 : Int) (s2 : Int) : Option aM :=
  if x2 = 0 then
    some (fQ_pass m s1 s2)
  else
    (fQ_readKind (fQ_pass m s1 s2) 4).bind fun v2 =>
    if v2 21 6 = 3 then
      fQ_readAggregate_106 v2 1
    else
      fQ_readAggregate_106 v2 0
set_option maxRecDepth 100000 in
theorem tQ_readAggregate_77 (r : aR) (m : aM) (x2 : Int) (s1 : Int) (s2 : Int) (z1 : aV) : aT PB 3 131 r (fun w => r = (0, (0, 0), w, XX)) (fQ_readAggregate_77 m x2 s1 s2) (77, [(12, 21), z1, (0, x2)], [(0, s2), (15, s1), (12, 21)], m, XX) := by
  have hD : aMd PB 131 = d_Q_readAggregate := rfl
  unfold fQ_readAggregate_77
  refine T_call0 hD (D2 := d_Q_pass) (q2 := 141) (as := [(12, 21), (15, s1), (0, s2)]) (c1 := (80, [(12, 21), z1, (0, x2)], [], m, XX)) (r2 := (0, (0, 0), fQ_pass m s1 s2, XX)) (c2 := (80, [(12, 21), z1, (0, x2)], [], fQ_pass m s1 s2, XX)) rfl rfl (Go.mono (tQ_pass m s1 s2) (by decide)) rfl ?_
  refine T_run hD 1 (c' := (81, [(12, 21), z1, (0, x2)], [(0, x2)], fQ_pass m s1 s2, XX)) rfl ?_
  refine T_if hD (c1 := (117, _, _, _, _)) (c2 := (84, _, _, _, _)) rfl (fun _ => ?_) (fun _ => ?_)
  · exact T_fin hD rfl (fun h => h)
  · refine T_run hD 2 (c' := (86, [(12, 21), z1, (0, x2)], [(0, 4), (12, 21)], fQ_pass m s1 s2, XX)) rfl ?_
    refine T_call hD (D2 := d_Q_readKind) (q2 := 138) (as := [(12, 21), (0, 4)]) (c1 := (89, [(12, 21), z1, (0, x2)], [], fQ_pass m s1 s2, XX)) (mk := fun w => (0, (0, 0), w, XX)) (cc := fun v2 => (89, [(12, 21), z1, (0, x2)], [], v2, XX)) rfl rfl (fun y9 h9y => Go.mono (tQ_readKind (fQ_pass m s1 s2) 4 y9 h9y) (by decide)) (fun _ => rfl) (fun v2 => ?_)
    refine T_run hD 5 (c' := (98, [(12, 21), z1, (0, x2)], [(40, 3), (40, v2 21 6), (12, 21), (12, 21)], v2, XX)) rfl ?_
    refine T_if hD (c1 := (101, _, _, _, _)) (c2 := (105, _, _, _, _)) rfl (fun _ => ?_) (fun _ => ?_)
    · refine T_run hD 2 (c' := (106, [(12, 21), z1, (0, x2)], [(0, 1), (12, 21), (12, 21)], v2, XX)) rfl ?_
      exact tQ_readAggregate_106 r v2 1 z1 (0, x2)
    · refine T_run hD 1 (c' := (106, [(12, 21), z1, (0, x2)], [(0, 0), (12, 21), (12, 21)], v2, XX)) rfl ?_
      exact tQ_readAggregate_106 r v2 0 z1 (0, x2)
def fQ_readAggregate_55 (m : aM) (x1 : Int) (s0 : Int) : Option aM :=
  if s0 = 0 then
    if m 21 6 = 2 then
      fQ_readAggregate_77 m s0 x1 1
    else
      fQ_readAggregate_77 m s0 x1 0
  else
    fQ_readAggregate_77 m s0 x1 1
set_option maxRecDepth 100000 in
theorem tQ_readAggregate_55 (r : aR) (m : aM) (x1 : Int) (s0 : Int) (z2 : aV) : aT PB 3 131 r (fun w => r = (0, (0, 0), w, XX)) (fQ_readAggregate_55 m x1 s0) (55, [(12, 21), (15, x1), z2], [(0, s0)], m, XX) := by
  have hD : aMd PB 131 = d_Q_readAggregate := rfl
  unfold fQ_readAggregate_55
  refine T_run hD 4 (c' := (59, [(12, 21), (15, x1), (0, s0)], [(0, s0), (15, x1), (12, 21)], m, XX)) rfl ?_
  refine T_if hD (c1 := (62, _, _, _, _)) (c2 := (72, _, _, _, _)) rfl (fun _ => ?_) (fun _ => ?_)
  · refine T_run hD 3 (c' := (69, [(12, 21), (15, x1), (0, s0)], [(40, 2), (40, m 21 6), (15, x1), (12, 21)], m, XX)) rfl ?_
    refine T_if hD (c1 := (72, _, _, _, _)) (c2 := (76, _, _, _, _)) rfl (fun _ => ?_) (fun _ => ?_)
    · refine T_run hD 2 (c' := (77, [(12, 21), (15, x1), (0, s0)], [(0, 1), (15, x1), (12, 21)], m, XX)) rfl ?_
      exact tQ_readAggregate_77 r m s0 x1 1 (15, x1)
    · refine T_run hD 1 (c' := (77, [(12, 21), (15, x1), (0, s0)], [(0, 0), (15, x1), (12, 21)], m, XX)) rfl ?_
      exact tQ_readAggregate_77 r m s0 x1 0 (15, x1)
  · refine T_run hD 2 (c' := (77, [(12, 21), (15, x1), (0, s0)], [(0, 1), (15, x1), (12, 21)], m, XX)) rfl ?_
    exact tQ_readAggregate_77 r m s0 x1 1 (15, x1)
def fQ_readAggregate (m : aM) : Option aM :=
  (fS_get m (m 21 4)).bind fun v1 =>
  if m v1 3 = 3 then
    fQ_readAggregate_55 (mup m 21 6 (m v1 3)) v1 1
  else
    if m v1 3 = 4 then
      fQ_readAggregate_55 (mup m 21 6 (m v1 3)) v1 1
    else
      if m v1 3 = 5 then
        fQ_readAggregate_55 (mup m 21 6 (m v1 3)) v1 1
      else
        fQ_readAggregate_55 (mup m 21 6 (m v1 3)) v1 0
set_option maxRecDepth 100000 in
theorem tQ_readAggregate (m : aM) : ∀ v, fQ_readAggregate m = some v → Go PB 3 131 (aEnt d_Q_readAggregate [(12, 21)] m XX) (0, (0, 0), v, XX) := by
  intro v hv
  have hD : aMd PB 131 = d_Q_readAggregate := rfl
  obtain ⟨r, hr⟩ : ∃ r : aR, r = (0, (0, 0), v, XX) := ⟨_, rfl⟩
  have h9 : aT PB 3 131 r (fun w => r = (0, (0, 0), w, XX)) (fQ_readAggregate m) (0, [(12, 21), (99, 0), (99, 0)], [], m, XX) := by
    unfold fQ_readAggregate
    refine T_run hD 4 (c' := (8, [(12, 21), (99, 0), (99, 0)], [(0, m 21 4), (16, 22)], m, XX)) rfl ?_
    refine T_call hD (D2 := d_S_get) (q2 := 179) (as := [(16, 22), (0, m 21 4)]) (c1 := (11, [(12, 21), (99, 0), (99, 0)], [], m, XX)) (mk := fun w => (1, (15, w), m, XX)) (cc := fun v1 => (11, [(12, 21), (99, 0), (99, 0)], [(15, v1)], m, XX)) rfl rfl (fun y9 h9y => Go.mono (tS_get m (m 21 4) y9 h9y) (by decide)) (fun _ => rfl) (fun v1 => ?_)
    refine T_run hD 8 (c' := (27, [(12, 21), (15, v1), (99, 0)], [(40, 3), (40, m v1 3)], mup m 21 6 (m v1 3), XX)) rfl ?_
    refine T_if hD (c1 := (50, _, _, _, _)) (c2 := (30, _, _, _, _)) rfl (fun _ => ?_) (fun _ => ?_)
    · refine T_run hD 2 (c' := (55, [(12, 21), (15, v1), (99, 0)], [(0, 1)], mup m 21 6 (m v1 3), XX)) rfl ?_
      exact tQ_readAggregate_55 r (mup m 21 6 (m v1 3)) v1 1 (99, 0)
    · refine T_run hD 3 (c' := (37, [(12, 21), (15, v1), (99, 0)], [(40, 4), (40, m v1 3)], mup m 21 6 (m v1 3), XX)) rfl ?_
      refine T_if hD (c1 := (50, _, _, _, _)) (c2 := (40, _, _, _, _)) rfl (fun _ => ?_) (fun _ => ?_)
      · refine T_run hD 2 (c' := (55, [(12, 21), (15, v1), (99, 0)], [(0, 1)], mup m 21 6 (m v1 3), XX)) rfl ?_
        exact tQ_readAggregate_55 r (mup m 21 6 (m v1 3)) v1 1 (99, 0)
      · refine T_run hD 3 (c' := (47, [(12, 21), (15, v1), (99, 0)], [(40, 5), (40, m v1 3)], mup m 21 6 (m v1 3), XX)) rfl ?_
        refine T_if hD (c1 := (50, _, _, _, _)) (c2 := (54, _, _, _, _)) rfl (fun _ => ?_) (fun _ => ?_)
        · refine T_run hD 2 (c' := (55, [(12, 21), (15, v1), (99, 0)], [(0, 1)], mup m 21 6 (m v1 3), XX)) rfl ?_
          exact tQ_readAggregate_55 r (mup m 21 6 (m v1 3)) v1 1 (99, 0)
        · refine T_run hD 1 (c' := (55, [(12, 21), (15, v1), (99, 0)], [(0, 0)], mup m 21 6 (m v1 3), XX)) rfl ?_
          exact tQ_readAggregate_55 r (mup m 21 6 (m v1 3)) v1 0 (99, 0)
  rw [← hr]
  exact h9 v hv hr
def fQ_addStep (m : aM) (x1 : Int) : Option aM :=
  if m 21 3 < 96 then
    gd (0 ≤ m 21 3 ∧ m 21 3 < 96) (
    some (mup (mup m 121 (m 21 3) x1) 21 3 (w32 ((m 21 3) + 1))))
  else
    some (m)
set_option maxRecDepth 100000 in
theorem tQ_addStep (m : aM) (x1 : Int) : ∀ v, fQ_addStep m x1 = some v → Go PB 1 142 (aEnt d_Q_addStep [(12, 21), (0, x1)] m XX) (0, (0, 0), v, XX) := by
  intro v hv
  have hD : aMd PB 142 = d_Q_addStep := rfl
  obtain ⟨r, hr⟩ : ∃ r : aR, r = (0, (0, 0), v, XX) := ⟨_, rfl⟩
  have h9 : aT PB 1 142 r (fun w => r = (0, (0, 0), w, XX)) (fQ_addStep m x1) (0, [(12, 21), (0, x1)], [], m, XX) := by
    unfold fQ_addStep
    refine T_run hD 5 (c' := (9, [(12, 21), (0, x1)], [(0, 96), (0, m 21 3)], m, XX)) rfl ?_
    refine T_if hD (c1 := (12, _, _, _, _)) (c2 := (32, _, _, _, _)) rfl (fun _ => ?_) (fun _ => ?_)
    · refine T_run hD 5 (c' := (21, [(12, 21), (0, x1)], [(0, x1), (0, m 21 3), (31, 121)], m, XX)) rfl ?_
      refine T_gd hD (c1 := (22, [(12, 21), (0, x1)], [], mup m 121 (m 21 3) x1, XX)) rfl (fun g1 => ?_)
      refine T_run hD 6 (c' := (32, [(12, 21), (0, x1)], [], mup (mup m 121 (m 21 3) x1) 21 3 (w32 ((m 21 3) + 1)), XX)) rfl ?_
      exact T_fin hD rfl (fun h => h)
    · exact T_fin hD rfl (fun h => h)
  rw [← hr]
  exact h9 v hv hr
def fQ_readWord_27 (m : aM) (s1 : Int) (s2 : Int) : Option aM :=
  some (fQ_pass m s1 s2)
set_option maxRecDepth 100000 in
theorem tQ_readWord_27 (r : aR) (m : aM) (s1 : Int) (s2 : Int) (z0 : aV) (z1 : aV) (z2 : aV) : aT PB 2 137 r (fun w => r = (0, (0, 0), w, XX)) (fQ_readWord_27 m s1 s2) (27, [z0, z1, z2], [(0, s2), (15, s1), (12, 21)], m, XX) := by
  have hD : aMd PB 137 = d_Q_readWord := rfl
  unfold fQ_readWord_27
  refine T_call0 hD (D2 := d_Q_pass) (q2 := 141) (as := [(12, 21), (15, s1), (0, s2)]) (c1 := (30, [z0, z1, z2], [], m, XX)) (r2 := (0, (0, 0), fQ_pass m s1 s2, XX)) (c2 := (30, [z0, z1, z2], [], fQ_pass m s1 s2, XX)) rfl rfl (Go.mono (tQ_pass m s1 s2) (by decide)) rfl ?_
  exact T_fin hD rfl (fun h => h)
def fQ_readWord (m : aM) (x1 : Int) : Option aM :=
  (fS_get m (m 21 4)).bind fun v1 =>
  if m v1 3 = x1 then
    fQ_readWord_27 m v1 1
  else
    fQ_readWord_27 m v1 0
set_option maxRecDepth 100000 in
theorem tQ_readWord (m : aM) (x1 : Int) : ∀ v, fQ_readWord m x1 = some v → Go PB 2 137 (aEnt d_Q_readWord [(12, 21), (40, x1)] m XX) (0, (0, 0), v, XX) := by
  intro v hv
  have hD : aMd PB 137 = d_Q_readWord := rfl
  obtain ⟨r, hr⟩ : ∃ r : aR, r = (0, (0, 0), v, XX) := ⟨_, rfl⟩
  have h9 : aT PB 2 137 r (fun w => r = (0, (0, 0), w, XX)) (fQ_readWord m x1) (0, [(12, 21), (40, x1), (99, 0)], [], m, XX) := by
    unfold fQ_readWord
    refine T_run hD 4 (c' := (8, [(12, 21), (40, x1), (99, 0)], [(0, m 21 4), (16, 22)], m, XX)) rfl ?_
    refine T_call hD (D2 := d_S_get) (q2 := 179) (as := [(16, 22), (0, m 21 4)]) (c1 := (11, [(12, 21), (40, x1), (99, 0)], [], m, XX)) (mk := fun w => (1, (15, w), m, XX)) (cc := fun v1 => (11, [(12, 21), (40, x1), (99, 0)], [(15, v1)], m, XX)) rfl rfl (fun y9 h9y => Go.mono (tS_get m (m 21 4) y9 h9y) (by decide)) (fun _ => rfl) (fun v1 => ?_)
    refine T_run hD 6 (c' := (19, [(12, 21), (40, x1), (15, v1)], [(40, x1), (40, m v1 3), (15, v1), (12, 21)], m, XX)) rfl ?_
    refine T_if hD (c1 := (22, _, _, _, _)) (c2 := (26, _, _, _, _)) rfl (fun _ => ?_) (fun _ => ?_)
    · refine T_run hD 2 (c' := (27, [(12, 21), (40, x1), (15, v1)], [(0, 1), (15, v1), (12, 21)], m, XX)) rfl ?_
      exact tQ_readWord_27 r m v1 1 (12, 21) (40, x1) (15, v1)
    · refine T_run hD 1 (c' := (27, [(12, 21), (40, x1), (15, v1)], [(0, 0), (15, v1), (12, 21)], m, XX)) rfl ?_
      exact tQ_readWord_27 r m v1 0 (12, 21) (40, x1) (15, v1)
  rw [← hr]
  exact h9 v hv hr
def fQ_readSort_27 (m : aM) (s1 : Int) (s2 : Int) : Option aM :=
  some (fQ_pass m s1 s2)
set_option maxRecDepth 100000 in
theorem tQ_readSort_27 (r : aR) (m : aM) (s1 : Int) (s2 : Int) (z0 : aV) (z1 : aV) (z2 : aV) : aT PB 2 139 r (fun w => r = (0, (0, 0), w, XX)) (fQ_readSort_27 m s1 s2) (27, [z0, z1, z2], [(0, s2), (15, s1), (12, 21)], m, XX) := by
  have hD : aMd PB 139 = d_Q_readSort := rfl
  unfold fQ_readSort_27
  refine T_call0 hD (D2 := d_Q_pass) (q2 := 141) (as := [(12, 21), (15, s1), (0, s2)]) (c1 := (30, [z0, z1, z2], [], m, XX)) (r2 := (0, (0, 0), fQ_pass m s1 s2, XX)) (c2 := (30, [z0, z1, z2], [], fQ_pass m s1 s2, XX)) rfl rfl (Go.mono (tQ_pass m s1 s2) (by decide)) rfl ?_
  exact T_fin hD rfl (fun h => h)
def fQ_readSort (m : aM) (x1 : Int) : Option aM :=
  (fS_get m (m 21 4)).bind fun v1 =>
  if m v1 5 = x1 then
    fQ_readSort_27 m v1 1
  else
    fQ_readSort_27 m v1 0
set_option maxRecDepth 100000 in
theorem tQ_readSort (m : aM) (x1 : Int) : ∀ v, fQ_readSort m x1 = some v → Go PB 2 139 (aEnt d_Q_readSort [(12, 21), (0, x1)] m XX) (0, (0, 0), v, XX) := by
  intro v hv
  have hD : aMd PB 139 = d_Q_readSort := rfl
  obtain ⟨r, hr⟩ : ∃ r : aR, r = (0, (0, 0), v, XX) := ⟨_, rfl⟩
  have h9 : aT PB 2 139 r (fun w => r = (0, (0, 0), w, XX)) (fQ_readSort m x1) (0, [(12, 21), (0, x1), (99, 0)], [], m, XX) := by
    unfold fQ_readSort
    refine T_run hD 4 (c' := (8, [(12, 21), (0, x1), (99, 0)], [(0, m 21 4), (16, 22)], m, XX)) rfl ?_
    refine T_call hD (D2 := d_S_get) (q2 := 179) (as := [(16, 22), (0, m 21 4)]) (c1 := (11, [(12, 21), (0, x1), (99, 0)], [], m, XX)) (mk := fun w => (1, (15, w), m, XX)) (cc := fun v1 => (11, [(12, 21), (0, x1), (99, 0)], [(15, v1)], m, XX)) rfl rfl (fun y9 h9y => Go.mono (tS_get m (m 21 4) y9 h9y) (by decide)) (fun _ => rfl) (fun v1 => ?_)
    refine T_run hD 6 (c' := (19, [(12, 21), (0, x1), (15, v1)], [(0, x1), (0, m v1 5), (15, v1), (12, 21)], m, XX)) rfl ?_
    refine T_if hD (c1 := (22, _, _, _, _)) (c2 := (26, _, _, _, _)) rfl (fun _ => ?_) (fun _ => ?_)
    · refine T_run hD 2 (c' := (27, [(12, 21), (0, x1), (15, v1)], [(0, 1), (15, v1), (12, 21)], m, XX)) rfl ?_
      exact tQ_readSort_27 r m v1 1 (12, 21) (0, x1) (15, v1)
    · refine T_run hD 1 (c' := (27, [(12, 21), (0, x1), (15, v1)], [(0, 0), (15, v1), (12, 21)], m, XX)) rfl ?_
      exact tQ_readSort_27 r m v1 0 (12, 21) (0, x1) (15, v1)
  rw [← hr]
  exact h9 v hv hr
def fQ_readComparison_51 (m : aM) (x1 : Int) : Option aM :=
  (fQ_addStep m x1).bind fun v6 =>
  some (v6)
set_option maxRecDepth 100000 in
theorem tQ_readComparison_51 (r : aR) (m : aM) (x1 : Int) : aT PB 3 135 r (fun w => r = (0, (0, 0), w, XX)) (fQ_readComparison_51 m x1) (51, [(12, 21), (0, x1)], [], m, XX) := by
  have hD : aMd PB 135 = d_Q_readComparison := rfl
  unfold fQ_readComparison_51
  refine T_run hD 2 (c' := (53, [(12, 21), (0, x1)], [(0, x1), (12, 21)], m, XX)) rfl ?_
  refine T_call hD (D2 := d_Q_addStep) (q2 := 142) (as := [(12, 21), (0, x1)]) (c1 := (56, [(12, 21), (0, x1)], [], m, XX)) (mk := fun w => (0, (0, 0), w, XX)) (cc := fun v6 => (56, [(12, 21), (0, x1)], [], v6, XX)) rfl rfl (fun y9 h9y => Go.mono (tQ_addStep m x1 y9 h9y) (by decide)) (fun _ => rfl) (fun v6 => ?_)
  exact T_fin hD rfl (fun h => h)
def fQ_readComparison (m : aM) : Option aM :=
  (fQ_readName m 0).bind fun v1 =>
  (fQ_takeWord v1.2 11).bind fun v2 =>
  if v2.1 = 0 then
    (fQ_readKind v2.2 3).bind fun v3 =>
    (fS_get v3 (m 21 4)).bind fun v4 =>
    (fQ_readSort v3 (v3 v4 5)).bind fun v5 =>
    fQ_readComparison_51 v5 (m 21 4)
  else
    (fQ_readWord v2.2 12).bind fun v7 =>
    fQ_readComparison_51 v7 (m 21 4)
set_option maxRecDepth 100000 in
theorem tQ_readComparison (m : aM) : ∀ v, fQ_readComparison m = some v → Go PB 3 135 (aEnt d_Q_readComparison [(12, 21)] m XX) (0, (0, 0), v, XX) := by
  intro v hv
  have hD : aMd PB 135 = d_Q_readComparison := rfl
  obtain ⟨r, hr⟩ : ∃ r : aR, r = (0, (0, 0), v, XX) := ⟨_, rfl⟩
  have h9 : aT PB 3 135 r (fun w => r = (0, (0, 0), w, XX)) (fQ_readComparison m) (0, [(12, 21), (99, 0)], [], m, XX) := by
    unfold fQ_readComparison
    refine T_run hD 5 (c' := (7, [(12, 21), (0, m 21 4)], [(0, 0), (12, 21)], m, XX)) rfl ?_
    refine T_call hD (D2 := d_Q_readName) (q2 := 136) (as := [(12, 21), (0, 0)]) (c1 := (10, [(12, 21), (0, m 21 4)], [], m, XX)) (mk := fun w => (1, (0, w.1), w.2, XX)) (cc := fun v1 => (10, [(12, 21), (0, m 21 4)], [(0, v1.1)], v1.2, XX)) rfl rfl (fun y9 h9y => Go.mono (tQ_readName m 0 y9 h9y) (by decide)) (fun _ => rfl) (fun v1 => ?_)
    refine T_run hD 3 (c' := (15, [(12, 21), (0, m 21 4)], [(40, 11), (12, 21)], v1.2, XX)) rfl ?_
    refine T_call hD (D2 := d_Q_takeWord) (q2 := 140) (as := [(12, 21), (40, 11)]) (c1 := (18, [(12, 21), (0, m 21 4)], [], v1.2, XX)) (mk := fun w => (1, (0, w.1), w.2, XX)) (cc := fun v2 => (18, [(12, 21), (0, m 21 4)], [(0, v2.1)], v2.2, XX)) rfl rfl (fun y9 h9y => Go.mono (tQ_takeWord v1.2 11 y9 h9y) (by decide)) (fun _ => rfl) (fun v2 => ?_)
    refine T_if hD (c1 := (31, _, _, _, _)) (c2 := (21, _, _, _, _)) rfl (fun _ => ?_) (fun _ => ?_)
    · refine T_run hD 2 (c' := (33, [(12, 21), (0, m 21 4)], [(0, 3), (12, 21)], v2.2, XX)) rfl ?_
      refine T_call hD (D2 := d_Q_readKind) (q2 := 138) (as := [(12, 21), (0, 3)]) (c1 := (36, [(12, 21), (0, m 21 4)], [], v2.2, XX)) (mk := fun w => (0, (0, 0), w, XX)) (cc := fun v3 => (36, [(12, 21), (0, m 21 4)], [], v3, XX)) rfl rfl (fun y9 h9y => Go.mono (tQ_readKind v2.2 3 y9 h9y) (by decide)) (fun _ => rfl) (fun v3 => ?_)
      refine T_run hD 4 (c' := (42, [(12, 21), (0, m 21 4)], [(0, m 21 4), (16, 22), (12, 21)], v3, XX)) rfl ?_
      refine T_call hD (D2 := d_S_get) (q2 := 179) (as := [(16, 22), (0, m 21 4)]) (c1 := (45, [(12, 21), (0, m 21 4)], [(12, 21)], v3, XX)) (mk := fun w => (1, (15, w), v3, XX)) (cc := fun v4 => (45, [(12, 21), (0, m 21 4)], [(15, v4), (12, 21)], v3, XX)) rfl rfl (fun y9 h9y => Go.mono (tS_get v3 (m 21 4) y9 h9y) (by decide)) (fun _ => rfl) (fun v4 => ?_)
      refine T_run hD 1 (c' := (48, [(12, 21), (0, m 21 4)], [(0, v3 v4 5), (12, 21)], v3, XX)) rfl ?_
      refine T_call hD (D2 := d_Q_readSort) (q2 := 139) (as := [(12, 21), (0, v3 v4 5)]) (c1 := (51, [(12, 21), (0, m 21 4)], [], v3, XX)) (mk := fun w => (0, (0, 0), w, XX)) (cc := fun v5 => (51, [(12, 21), (0, m 21 4)], [], v5, XX)) rfl rfl (fun y9 h9y => Go.mono (tQ_readSort v3 (v3 v4 5) y9 h9y) (by decide)) (fun _ => rfl) (fun v5 => ?_)
      exact tQ_readComparison_51 r v5 (m 21 4) 
    · refine T_run hD 2 (c' := (25, [(12, 21), (0, m 21 4)], [(40, 12), (12, 21)], v2.2, XX)) rfl ?_
      refine T_call hD (D2 := d_Q_readWord) (q2 := 137) (as := [(12, 21), (40, 12)]) (c1 := (28, [(12, 21), (0, m 21 4)], [], v2.2, XX)) (mk := fun w => (0, (0, 0), w, XX)) (cc := fun v7 => (28, [(12, 21), (0, m 21 4)], [], v7, XX)) rfl rfl (fun y9 h9y => Go.mono (tQ_readWord v2.2 12 y9 h9y) (by decide)) (fun _ => rfl) (fun v7 => ?_)
      refine T_run hD 1 (c' := (51, [(12, 21), (0, m 21 4)], [], v7, XX)) rfl ?_
      exact tQ_readComparison_51 r v7 (m 21 4) 
  rw [← hr]
  exact h9 v hv hr
def fQ_readPart_76 (gP gC : aM → Int → Option aM) (m : aM) : Option aM :=
  (fQ_readComparison m).bind fun v6 =>
  some (v6)
set_option maxRecDepth 100000 in
theorem tQ_readPart_76 (gP gC : aM → Int → Option aM) (e : Nat) (he : 7 ≤ e) (hgP : ∀ m x v, gP m x = some v → Go PB e 134 (aEnt d_Q_readPart [(12, 21), (0, x)] m XX) (0, (0, 0), v, XX)) (hgC : ∀ m x v, gC m x = some v → Go PB e 132 (aEnt d_Q_readCondition [(12, 21), (0, x)] m XX) (0, (0, 0), v, XX)) (r : aR) (m : aM) (z1 : aV) : aT PB (e + 1) 134 r (fun w => r = (0, (0, 0), w, XX)) (fQ_readPart_76 gP gC m) (76, [(12, 21), z1], [], m, XX) := by
  have hD : aMd PB 134 = d_Q_readPart := rfl
  unfold fQ_readPart_76
  refine T_run hD 1 (c' := (77, [(12, 21), z1], [(12, 21)], m, XX)) rfl ?_
  refine T_call hD (D2 := d_Q_readComparison) (q2 := 135) (as := [(12, 21)]) (c1 := (80, [(12, 21), z1], [], m, XX)) (mk := fun w => (0, (0, 0), w, XX)) (cc := fun v6 => (80, [(12, 21), z1], [], v6, XX)) rfl rfl (fun y9 h9y => Go.mono (tQ_readComparison m y9 h9y) (Nat.le_trans (by decide) he)) (fun _ => rfl) (fun v6 => ?_)
  exact T_fin hD rfl (fun h => h)
def fQ_readPart_32 (gP gC : aM → Int → Option aM) (m : aM) (x1 : Int) : Option aM :=
  if x1 < 8 then
    (fS_get m (m 21 4)).bind fun v2 =>
    if m v2 0 = 4 then
      (fQ_readKind m 4).bind fun v3 =>
      (gC v3 (w32 (x1 + 1))).bind fun v4 =>
      (fQ_readKind v4 5).bind fun v5 =>
      some (v5)
    else
      fQ_readPart_76 gP gC m
  else
    fQ_readPart_76 gP gC m
set_option maxRecDepth 100000 in
theorem tQ_readPart_32 (gP gC : aM → Int → Option aM) (e : Nat) (he : 7 ≤ e) (hgP : ∀ m x v, gP m x = some v → Go PB e 134 (aEnt d_Q_readPart [(12, 21), (0, x)] m XX) (0, (0, 0), v, XX)) (hgC : ∀ m x v, gC m x = some v → Go PB e 132 (aEnt d_Q_readCondition [(12, 21), (0, x)] m XX) (0, (0, 0), v, XX)) (r : aR) (m : aM) (x1 : Int) : aT PB (e + 1) 134 r (fun w => r = (0, (0, 0), w, XX)) (fQ_readPart_32 gP gC m x1) (32, [(12, 21), (0, x1)], [], m, XX) := by
  have hD : aMd PB 134 = d_Q_readPart := rfl
  unfold fQ_readPart_32
  refine T_run hD 2 (c' := (35, [(12, 21), (0, x1)], [(0, 8), (0, x1)], m, XX)) rfl ?_
  refine T_if hD (c1 := (38, _, _, _, _)) (c2 := (76, _, _, _, _)) rfl (fun _ => ?_) (fun _ => ?_)
  · refine T_run hD 4 (c' := (46, [(12, 21), (0, x1)], [(0, m 21 4), (16, 22)], m, XX)) rfl ?_
    refine T_call hD (D2 := d_S_get) (q2 := 179) (as := [(16, 22), (0, m 21 4)]) (c1 := (49, [(12, 21), (0, x1)], [], m, XX)) (mk := fun w => (1, (15, w), m, XX)) (cc := fun v2 => (49, [(12, 21), (0, x1)], [(15, v2)], m, XX)) rfl rfl (fun y9 h9y => Go.mono (tS_get m (m 21 4) y9 h9y) (Nat.le_trans (by decide) he)) (fun _ => rfl) (fun v2 => ?_)
    refine T_run hD 2 (c' := (53, [(12, 21), (0, x1)], [(0, 4), (0, m v2 0)], m, XX)) rfl ?_
    refine T_if hD (c1 := (56, _, _, _, _)) (c2 := (76, _, _, _, _)) rfl (fun _ => ?_) (fun _ => ?_)
    · refine T_run hD 2 (c' := (58, [(12, 21), (0, x1)], [(0, 4), (12, 21)], m, XX)) rfl ?_
      refine T_call hD (D2 := d_Q_readKind) (q2 := 138) (as := [(12, 21), (0, 4)]) (c1 := (61, [(12, 21), (0, x1)], [], m, XX)) (mk := fun w => (0, (0, 0), w, XX)) (cc := fun v3 => (61, [(12, 21), (0, x1)], [], v3, XX)) rfl rfl (fun y9 h9y => Go.mono (tQ_readKind m 4 y9 h9y) (Nat.le_trans (by decide) he)) (fun _ => rfl) (fun v3 => ?_)
      refine T_run hD 4 (c' := (65, [(12, 21), (0, x1)], [(0, w32 (x1 + 1)), (12, 21)], v3, XX)) rfl ?_
      refine T_call hD (D2 := d_Q_readCondition) (q2 := 132) (as := [(12, 21), (0, w32 (x1 + 1))]) (c1 := (68, [(12, 21), (0, x1)], [], v3, XX)) (mk := fun w => (0, (0, 0), w, XX)) (cc := fun v4 => (68, [(12, 21), (0, x1)], [], v4, XX)) rfl rfl (fun y9 h9y => hgC v3 (w32 (x1 + 1)) y9 h9y) (fun _ => rfl) (fun v4 => ?_)
      refine T_run hD 2 (c' := (70, [(12, 21), (0, x1)], [(0, 5), (12, 21)], v4, XX)) rfl ?_
      refine T_call hD (D2 := d_Q_readKind) (q2 := 138) (as := [(12, 21), (0, 5)]) (c1 := (73, [(12, 21), (0, x1)], [], v4, XX)) (mk := fun w => (0, (0, 0), w, XX)) (cc := fun v5 => (73, [(12, 21), (0, x1)], [], v5, XX)) rfl rfl (fun y9 h9y => Go.mono (tQ_readKind v4 5 y9 h9y) (Nat.le_trans (by decide) he)) (fun _ => rfl) (fun v5 => ?_)
      refine T_run hD 1 (c' := (80, [(12, 21), (0, x1)], [], v5, XX)) rfl ?_
      exact T_fin hD rfl (fun h => h)
    · exact tQ_readPart_76 gP gC e he hgP hgC r m  (0, x1)
  · exact tQ_readPart_76 gP gC e he hgP hgC r m  (0, x1)
def fQ_readPart (gP gC : aM → Int → Option aM) (m : aM) (x1 : Int) : Option aM :=
  if x1 < 8 then
    (fQ_takeWord m 10).bind fun v1 =>
    if v1.1 = 0 then
      fQ_readPart_32 gP gC v1.2 x1
    else
      (gP v1.2 (w32 (x1 + 1))).bind fun v7 =>
      (fQ_addStep v7 (-3)).bind fun v8 =>
      some (v8)
  else
    fQ_readPart_32 gP gC m x1
set_option maxRecDepth 100000 in
theorem tQ_readPart (gP gC : aM → Int → Option aM) (e : Nat) (he : 7 ≤ e) (hgP : ∀ m x v, gP m x = some v → Go PB e 134 (aEnt d_Q_readPart [(12, 21), (0, x)] m XX) (0, (0, 0), v, XX)) (hgC : ∀ m x v, gC m x = some v → Go PB e 132 (aEnt d_Q_readCondition [(12, 21), (0, x)] m XX) (0, (0, 0), v, XX)) (m : aM) (x1 : Int) : ∀ v, fQ_readPart gP gC m x1 = some v → Go PB (e + 1) 134 (aEnt d_Q_readPart [(12, 21), (0, x1)] m XX) (0, (0, 0), v, XX) := by
  intro v hv
  have hD : aMd PB 134 = d_Q_readPart := rfl
  obtain ⟨r, hr⟩ : ∃ r : aR, r = (0, (0, 0), v, XX) := ⟨_, rfl⟩
  have h9 : aT PB (e + 1) 134 r (fun w => r = (0, (0, 0), w, XX)) (fQ_readPart gP gC m x1) (0, [(12, 21), (0, x1)], [], m, XX) := by
    unfold fQ_readPart
    refine T_run hD 2 (c' := (3, [(12, 21), (0, x1)], [(0, 8), (0, x1)], m, XX)) rfl ?_
    refine T_if hD (c1 := (6, _, _, _, _)) (c2 := (32, _, _, _, _)) rfl (fun _ => ?_) (fun _ => ?_)
    · refine T_run hD 2 (c' := (10, [(12, 21), (0, x1)], [(40, 10), (12, 21)], m, XX)) rfl ?_
      refine T_call hD (D2 := d_Q_takeWord) (q2 := 140) (as := [(12, 21), (40, 10)]) (c1 := (13, [(12, 21), (0, x1)], [], m, XX)) (mk := fun w => (1, (0, w.1), w.2, XX)) (cc := fun v1 => (13, [(12, 21), (0, x1)], [(0, v1.1)], v1.2, XX)) rfl rfl (fun y9 h9y => Go.mono (tQ_takeWord m 10 y9 h9y) (Nat.le_trans (by decide) he)) (fun _ => rfl) (fun v1 => ?_)
      refine T_if hD (c1 := (32, _, _, _, _)) (c2 := (16, _, _, _, _)) rfl (fun _ => ?_) (fun _ => ?_)
      · exact tQ_readPart_32 gP gC e he hgP hgC r v1.2 x1 
      · refine T_run hD 4 (c' := (20, [(12, 21), (0, x1)], [(0, w32 (x1 + 1)), (12, 21)], v1.2, XX)) rfl ?_
        refine T_call hD (D2 := d_Q_readPart) (q2 := 134) (as := [(12, 21), (0, w32 (x1 + 1))]) (c1 := (23, [(12, 21), (0, x1)], [], v1.2, XX)) (mk := fun w => (0, (0, 0), w, XX)) (cc := fun v7 => (23, [(12, 21), (0, x1)], [], v7, XX)) rfl rfl (fun y9 h9y => hgP v1.2 (w32 (x1 + 1)) y9 h9y) (fun _ => rfl) (fun v7 => ?_)
        refine T_run hD 2 (c' := (26, [(12, 21), (0, x1)], [(0, (-3)), (12, 21)], v7, XX)) rfl ?_
        refine T_call hD (D2 := d_Q_addStep) (q2 := 142) (as := [(12, 21), (0, (-3))]) (c1 := (29, [(12, 21), (0, x1)], [], v7, XX)) (mk := fun w => (0, (0, 0), w, XX)) (cc := fun v8 => (29, [(12, 21), (0, x1)], [], v8, XX)) rfl rfl (fun y9 h9y => Go.mono (tQ_addStep v7 (-3) y9 h9y) (Nat.le_trans (by decide) he)) (fun _ => rfl) (fun v8 => ?_)
        refine T_run hD 1 (c' := (80, [(12, 21), (0, x1)], [], v8, XX)) rfl ?_
        exact T_fin hD rfl (fun h => h)
    · exact tQ_readPart_32 gP gC e he hgP hgC r m x1 
  rw [← hr]
  exact h9 v hv hr
abbrev hQ_readAll_7 (x1 : Int) : (aM × Int) → aC → Prop := fun y c => c = (7, [(12, 21), (0, x1), (0, (y.2))], [], (y.1), XX)
def fQ_readAll_7_b (gP : aM → Int → Option aM) (x1 : Int) : (aM × Int) → Option ((aM × Int) ⊕ aM) := fun (m, x2) =>
  if x2 < 96 then
    (fQ_takeWord m 8).bind fun v2 =>
    if v2.1 = 0 then
      some (Sum.inr (v2.2))
    else
      (gP v2.2 x1).bind fun v3 =>
      (fQ_addStep v3 (-1)).bind fun v4 =>
      some (Sum.inl (v4, w32 (x2 + 1)))
  else
    some (Sum.inr (m))
def fQ_readAll_7 (gP : aM → Int → Option aM) (m : aM) (x1 : Int) (x2 : Int) : Option aM := aLoop (fQ_readAll_7_b gP x1) FU (m, x2)
set_option maxRecDepth 100000 in
theorem tQ_readAll_7 (gP : aM → Int → Option aM) (e : Nat) (he : 7 ≤ e) (hgP : ∀ m x v, gP m x = some v → Go PB e 134 (aEnt d_Q_readPart [(12, 21), (0, x)] m XX) (0, (0, 0), v, XX)) (r : aR) (m : aM) (x1 : Int) (x2 : Int) : aT PB (e + 1) 133 r (fun w => r = (0, (0, 0), w, XX)) (fQ_readAll_7 gP m x1 x2) (7, [(12, 21), (0, x1), (0, x2)], [], m, XX) := by
  have hD : aMd PB 133 = d_Q_readAll := rfl
  refine T_loop (Hd := (hQ_readAll_7 x1)) ?_ FU _ _ rfl
  clear m x2
  intro y c hc
  obtain ⟨m, x2⟩ := y
  obtain rfl := hc
  unfold fQ_readAll_7_b
  try dsimp only
  refine T_run hD 2 (c' := (10, [(12, 21), (0, x1), (0, x2)], [(0, 96), (0, x2)], m, XX)) rfl ?_
  refine T_if hD (c1 := (13, _, _, _, _)) (c2 := (39, _, _, _, _)) rfl (fun _ => ?_) (fun _ => ?_)
  · refine T_run hD 2 (c' := (17, [(12, 21), (0, x1), (0, x2)], [(40, 8), (12, 21)], m, XX)) rfl ?_
    refine T_call hD (D2 := d_Q_takeWord) (q2 := 140) (as := [(12, 21), (40, 8)]) (c1 := (20, [(12, 21), (0, x1), (0, x2)], [], m, XX)) (mk := fun w => (1, (0, w.1), w.2, XX)) (cc := fun v2 => (20, [(12, 21), (0, x1), (0, x2)], [(0, v2.1)], v2.2, XX)) rfl rfl (fun y9 h9y => Go.mono (tQ_takeWord m 8 y9 h9y) (Nat.le_trans (by decide) he)) (fun _ => rfl) (fun v2 => ?_)
    refine T_if hD (c1 := (39, _, _, _, _)) (c2 := (23, _, _, _, _)) rfl (fun _ => ?_) (fun _ => ?_)
    · exact T_fin hD rfl (fun h => h)
    · refine T_run hD 2 (c' := (25, [(12, 21), (0, x1), (0, x2)], [(0, x1), (12, 21)], v2.2, XX)) rfl ?_
      refine T_call hD (D2 := d_Q_readPart) (q2 := 134) (as := [(12, 21), (0, x1)]) (c1 := (28, [(12, 21), (0, x1), (0, x2)], [], v2.2, XX)) (mk := fun w => (0, (0, 0), w, XX)) (cc := fun v3 => (28, [(12, 21), (0, x1), (0, x2)], [], v3, XX)) rfl rfl (fun y9 h9y => hgP v2.2 x1 y9 h9y) (fun _ => rfl) (fun v3 => ?_)
      refine T_run hD 2 (c' := (30, [(12, 21), (0, x1), (0, x2)], [(0, (-1)), (12, 21)], v3, XX)) rfl ?_
      refine T_call hD (D2 := d_Q_addStep) (q2 := 142) (as := [(12, 21), (0, (-1))]) (c1 := (33, [(12, 21), (0, x1), (0, x2)], [], v3, XX)) (mk := fun w => (0, (0, 0), w, XX)) (cc := fun v4 => (33, [(12, 21), (0, x1), (0, x2)], [], v4, XX)) rfl rfl (fun y9 h9y => Go.mono (tQ_addStep v3 (-1) y9 h9y) (Nat.le_trans (by decide) he)) (fun _ => rfl) (fun v4 => ?_)
      refine T_run hD 2 (c' := (7, [(12, 21), (0, x1), (0, w32 (x2 + 1))], [], v4, XX)) rfl ?_
      exact T_back0 rfl
  · exact T_fin hD rfl (fun h => h)
def fQ_readAll (gP : aM → Int → Option aM) (m : aM) (x1 : Int) : Option aM :=
  (gP m x1).bind fun v1 =>
  fQ_readAll_7 gP v1 x1 0
set_option maxRecDepth 100000 in
theorem tQ_readAll (gP : aM → Int → Option aM) (e : Nat) (he : 7 ≤ e) (hgP : ∀ m x v, gP m x = some v → Go PB e 134 (aEnt d_Q_readPart [(12, 21), (0, x)] m XX) (0, (0, 0), v, XX)) (m : aM) (x1 : Int) : ∀ v, fQ_readAll gP m x1 = some v → Go PB (e + 1) 133 (aEnt d_Q_readAll [(12, 21), (0, x1)] m XX) (0, (0, 0), v, XX) := by
  intro v hv
  have hD : aMd PB 133 = d_Q_readAll := rfl
  obtain ⟨r, hr⟩ : ∃ r : aR, r = (0, (0, 0), v, XX) := ⟨_, rfl⟩
  have h9 : aT PB (e + 1) 133 r (fun w => r = (0, (0, 0), w, XX)) (fQ_readAll gP m x1) (0, [(12, 21), (0, x1), (99, 0)], [], m, XX) := by
    unfold fQ_readAll
    refine T_run hD 2 (c' := (2, [(12, 21), (0, x1), (99, 0)], [(0, x1), (12, 21)], m, XX)) rfl ?_
    refine T_call hD (D2 := d_Q_readPart) (q2 := 134) (as := [(12, 21), (0, x1)]) (c1 := (5, [(12, 21), (0, x1), (99, 0)], [], m, XX)) (mk := fun w => (0, (0, 0), w, XX)) (cc := fun v1 => (5, [(12, 21), (0, x1), (99, 0)], [], v1, XX)) rfl rfl (fun y9 h9y => hgP m x1 y9 h9y) (fun _ => rfl) (fun v1 => ?_)
    refine T_run hD 2 (c' := (7, [(12, 21), (0, x1), (0, 0)], [], v1, XX)) rfl ?_
    exact tQ_readAll_7 gP e he hgP r v1 x1 0 
  rw [← hr]
  exact h9 v hv hr
abbrev hQ_readCondition_7 (x1 : Int) : (aM × Int) → aC → Prop := fun y c => c = (7, [(12, 21), (0, x1), (0, (y.2))], [], (y.1), XX)
def fQ_readCondition_7_b (gA : aM → Int → Option aM) (x1 : Int) : (aM × Int) → Option ((aM × Int) ⊕ aM) := fun (m, x2) =>
  if x2 < 96 then
    (fQ_takeWord m 9).bind fun v2 =>
    if v2.1 = 0 then
      some (Sum.inr (v2.2))
    else
      (gA v2.2 x1).bind fun v3 =>
      (fQ_addStep v3 (-2)).bind fun v4 =>
      some (Sum.inl (v4, w32 (x2 + 1)))
  else
    some (Sum.inr (m))
def fQ_readCondition_7 (gA : aM → Int → Option aM) (m : aM) (x1 : Int) (x2 : Int) : Option aM := aLoop (fQ_readCondition_7_b gA x1) FU (m, x2)
set_option maxRecDepth 100000 in
theorem tQ_readCondition_7 (gA : aM → Int → Option aM) (e : Nat) (he : 7 ≤ e) (hgA : ∀ m x v, gA m x = some v → Go PB e 133 (aEnt d_Q_readAll [(12, 21), (0, x)] m XX) (0, (0, 0), v, XX)) (r : aR) (m : aM) (x1 : Int) (x2 : Int) : aT PB (e + 1) 132 r (fun w => r = (0, (0, 0), w, XX)) (fQ_readCondition_7 gA m x1 x2) (7, [(12, 21), (0, x1), (0, x2)], [], m, XX) := by
  have hD : aMd PB 132 = d_Q_readCondition := rfl
  refine T_loop (Hd := (hQ_readCondition_7 x1)) ?_ FU _ _ rfl
  clear m x2
  intro y c hc
  obtain ⟨m, x2⟩ := y
  obtain rfl := hc
  unfold fQ_readCondition_7_b
  try dsimp only
  refine T_run hD 2 (c' := (10, [(12, 21), (0, x1), (0, x2)], [(0, 96), (0, x2)], m, XX)) rfl ?_
  refine T_if hD (c1 := (13, _, _, _, _)) (c2 := (40, _, _, _, _)) rfl (fun _ => ?_) (fun _ => ?_)
  · refine T_run hD 2 (c' := (17, [(12, 21), (0, x1), (0, x2)], [(40, 9), (12, 21)], m, XX)) rfl ?_
    refine T_call hD (D2 := d_Q_takeWord) (q2 := 140) (as := [(12, 21), (40, 9)]) (c1 := (20, [(12, 21), (0, x1), (0, x2)], [], m, XX)) (mk := fun w => (1, (0, w.1), w.2, XX)) (cc := fun v2 => (20, [(12, 21), (0, x1), (0, x2)], [(0, v2.1)], v2.2, XX)) rfl rfl (fun y9 h9y => Go.mono (tQ_takeWord m 9 y9 h9y) (Nat.le_trans (by decide) he)) (fun _ => rfl) (fun v2 => ?_)
    refine T_if hD (c1 := (40, _, _, _, _)) (c2 := (23, _, _, _, _)) rfl (fun _ => ?_) (fun _ => ?_)
    · exact T_fin hD rfl (fun h => h)
    · refine T_run hD 2 (c' := (25, [(12, 21), (0, x1), (0, x2)], [(0, x1), (12, 21)], v2.2, XX)) rfl ?_
      refine T_call hD (D2 := d_Q_readAll) (q2 := 133) (as := [(12, 21), (0, x1)]) (c1 := (28, [(12, 21), (0, x1), (0, x2)], [], v2.2, XX)) (mk := fun w => (0, (0, 0), w, XX)) (cc := fun v3 => (28, [(12, 21), (0, x1), (0, x2)], [], v3, XX)) rfl rfl (fun y9 h9y => hgA v2.2 x1 y9 h9y) (fun _ => rfl) (fun v3 => ?_)
      refine T_run hD 2 (c' := (31, [(12, 21), (0, x1), (0, x2)], [(0, (-2)), (12, 21)], v3, XX)) rfl ?_
      refine T_call hD (D2 := d_Q_addStep) (q2 := 142) (as := [(12, 21), (0, (-2))]) (c1 := (34, [(12, 21), (0, x1), (0, x2)], [], v3, XX)) (mk := fun w => (0, (0, 0), w, XX)) (cc := fun v4 => (34, [(12, 21), (0, x1), (0, x2)], [], v4, XX)) rfl rfl (fun y9 h9y => Go.mono (tQ_addStep v3 (-2) y9 h9y) (Nat.le_trans (by decide) he)) (fun _ => rfl) (fun v4 => ?_)
      refine T_run hD 2 (c' := (7, [(12, 21), (0, x1), (0, w32 (x2 + 1))], [], v4, XX)) rfl ?_
      exact T_back0 rfl
  · exact T_fin hD rfl (fun h => h)
def fQ_readCondition (gA : aM → Int → Option aM) (m : aM) (x1 : Int) : Option aM :=
  (gA m x1).bind fun v1 =>
  fQ_readCondition_7 gA v1 x1 0
set_option maxRecDepth 100000 in
theorem tQ_readCondition (gA : aM → Int → Option aM) (e : Nat) (he : 7 ≤ e) (hgA : ∀ m x v, gA m x = some v → Go PB e 133 (aEnt d_Q_readAll [(12, 21), (0, x)] m XX) (0, (0, 0), v, XX)) (m : aM) (x1 : Int) : ∀ v, fQ_readCondition gA m x1 = some v → Go PB (e + 1) 132 (aEnt d_Q_readCondition [(12, 21), (0, x1)] m XX) (0, (0, 0), v, XX) := by
  intro v hv
  have hD : aMd PB 132 = d_Q_readCondition := rfl
  obtain ⟨r, hr⟩ : ∃ r : aR, r = (0, (0, 0), v, XX) := ⟨_, rfl⟩
  have h9 : aT PB (e + 1) 132 r (fun w => r = (0, (0, 0), w, XX)) (fQ_readCondition gA m x1) (0, [(12, 21), (0, x1), (99, 0)], [], m, XX) := by
    unfold fQ_readCondition
    refine T_run hD 2 (c' := (2, [(12, 21), (0, x1), (99, 0)], [(0, x1), (12, 21)], m, XX)) rfl ?_
    refine T_call hD (D2 := d_Q_readAll) (q2 := 133) (as := [(12, 21), (0, x1)]) (c1 := (5, [(12, 21), (0, x1), (99, 0)], [], m, XX)) (mk := fun w => (0, (0, 0), w, XX)) (cc := fun v1 => (5, [(12, 21), (0, x1), (99, 0)], [], v1, XX)) rfl rfl (fun y9 h9y => hgA m x1 y9 h9y) (fun _ => rfl) (fun v1 => ?_)
    refine T_run hD 2 (c' := (7, [(12, 21), (0, x1), (0, 0)], [], v1, XX)) rfl ?_
    exact tQ_readCondition_7 gA e he hgA r v1 x1 0 
  rw [← hr]
  exact h9 v hv hr
def fRP : Nat → aM → Int → Option aM
  | 0 => fun _ _ => none
  | n + 1 => fQ_readPart (fRP n) (fQ_readCondition (fQ_readAll (fRP n)))
theorem tRP : ∀ (n : Nat) (m : aM) (x v), fRP n m x = some v → Go PB (7 + 3 * n) 134 (aEnt d_Q_readPart [(12, 21), (0, x)] m XX) (0, (0, 0), v, XX)
  | 0, _, _, _, h => nomatch h
  | n + 1, m, x, v, h => tQ_readPart (fRP n) (fQ_readCondition (fQ_readAll (fRP n))) (7 + 3 * n + 2) (by omega) (fun m x v h => (tRP n m x v h).mono (by omega))
      (fun m x v h => tQ_readCondition (fQ_readAll (fRP n)) (7 + 3 * n + 1) (by omega) (fun m x v h => tQ_readAll (fRP n) (7 + 3 * n) (by omega) (tRP n) m x v h) m x v h) m x v h
def fQ_cond (m : aM) (x : Int) : Option aM := fQ_readCondition (fQ_readAll (fRP 10)) m x
theorem tQ_cond (m : aM) (x : Int) : ∀ v, fQ_cond m x = some v → Go PB 39 132 (aEnt d_Q_readCondition [(12, 21), (0, x)] m XX) (0, (0, 0), v, XX) := fun v h => tQ_readCondition (fQ_readAll (fRP 10)) 38 (by decide) (fun m x v h => tQ_readAll (fRP 10) 37 (by decide) (tRP 10) m x v h) m x v h
def fQ_read_125 (m : aM) : Option (Int × aM) :=
  (fQ_readKind m 6).bind fun v5 =>
  some ((v5 21 5, v5))
set_option maxRecDepth 100000 in
theorem tQ_read_125 (r : aR) (m : aM) (z1 : aV) : aT PB 40 124 r (fun w => r = (1, (0, w.1), w.2, XX)) (fQ_read_125 m) (125, [(12, 21), z1], [], m, XX) := by
  have hD : aMd PB 124 = d_Q_read := rfl
  unfold fQ_read_125
  refine T_run hD 2 (c' := (128, [(12, 21), z1], [(0, 6), (12, 21)], m, XX)) rfl ?_
  refine T_call hD (D2 := d_Q_readKind) (q2 := 138) (as := [(12, 21), (0, 6)]) (c1 := (131, [(12, 21), z1], [], m, XX)) (mk := fun w => (0, (0, 0), w, XX)) (cc := fun v5 => (131, [(12, 21), z1], [], v5, XX)) rfl rfl (fun y9 h9y => Go.mono (tQ_readKind m 6 y9 h9y) (by decide)) (fun _ => rfl) (fun v5 => ?_)
  refine T_run hD 2 (c' := (135, [(12, 21), z1], [(0, v5 21 5)], v5, XX)) rfl ?_
  exact T_fin hD rfl (fun h => h)
def fQ_read_91 (m : aM) (x1 : Int) : Option (Int × aM) :=
  if x1 = 0 then
    fQ_read_125 m
  else
    (fQ_takeWord m 13).bind fun v6 =>
    if v6.1 = 0 then
      fQ_read_125 v6.2
    else
      (fQ_readName v6.2 0).bind fun v7 =>
      (fQ_takeWord (mup v7.2 21 8 v7.1) 14).bind fun v8 =>
      gd (v8.1 = 0 ∨ v8.1 = 1) (
      fQ_read_125 (mup v8.2 21 9 v8.1))
set_option maxRecDepth 100000 in
theorem tQ_read_91 (r : aR) (m : aM) (x1 : Int) : aT PB 40 124 r (fun w => r = (1, (0, w.1), w.2, XX)) (fQ_read_91 m x1) (91, [(12, 21), (0, x1)], [], m, XX) := by
  have hD : aMd PB 124 = d_Q_read := rfl
  unfold fQ_read_91
  refine T_run hD 1 (c' := (92, [(12, 21), (0, x1)], [(0, x1)], m, XX)) rfl ?_
  refine T_if hD (c1 := (125, _, _, _, _)) (c2 := (95, _, _, _, _)) rfl (fun _ => ?_) (fun _ => ?_)
  · exact tQ_read_125 r m  (0, x1)
  · refine T_run hD 2 (c' := (99, [(12, 21), (0, x1)], [(40, 13), (12, 21)], m, XX)) rfl ?_
    refine T_call hD (D2 := d_Q_takeWord) (q2 := 140) (as := [(12, 21), (40, 13)]) (c1 := (102, [(12, 21), (0, x1)], [], m, XX)) (mk := fun w => (1, (0, w.1), w.2, XX)) (cc := fun v6 => (102, [(12, 21), (0, x1)], [(0, v6.1)], v6.2, XX)) rfl rfl (fun y9 h9y => Go.mono (tQ_takeWord m 13 y9 h9y) (by decide)) (fun _ => rfl) (fun v6 => ?_)
    refine T_if hD (c1 := (125, _, _, _, _)) (c2 := (105, _, _, _, _)) rfl (fun _ => ?_) (fun _ => ?_)
    · exact tQ_read_125 r v6.2  (0, x1)
    · refine T_run hD 3 (c' := (108, [(12, 21), (0, x1)], [(0, 0), (12, 21), (12, 21)], v6.2, XX)) rfl ?_
      refine T_call hD (D2 := d_Q_readName) (q2 := 136) (as := [(12, 21), (0, 0)]) (c1 := (111, [(12, 21), (0, x1)], [(12, 21)], v6.2, XX)) (mk := fun w => (1, (0, w.1), w.2, XX)) (cc := fun v7 => (111, [(12, 21), (0, x1)], [(0, v7.1), (12, 21)], v7.2, XX)) rfl rfl (fun y9 h9y => Go.mono (tQ_readName v6.2 0 y9 h9y) (by decide)) (fun _ => rfl) (fun v7 => ?_)
      refine T_run hD 4 (c' := (119, [(12, 21), (0, x1)], [(40, 14), (12, 21), (12, 21)], mup v7.2 21 8 v7.1, XX)) rfl ?_
      refine T_call hD (D2 := d_Q_takeWord) (q2 := 140) (as := [(12, 21), (40, 14)]) (c1 := (122, [(12, 21), (0, x1)], [(12, 21)], mup v7.2 21 8 v7.1, XX)) (mk := fun w => (1, (0, w.1), w.2, XX)) (cc := fun v8 => (122, [(12, 21), (0, x1)], [(0, v8.1), (12, 21)], v8.2, XX)) rfl rfl (fun y9 h9y => Go.mono (tQ_takeWord (mup v7.2 21 8 v7.1) 14 y9 h9y) (by decide)) (fun _ => rfl) (fun v8 => ?_)
      refine T_gd hD (c1 := (125, [(12, 21), (0, x1)], [], mup v8.2 21 9 v8.1, XX)) rfl (fun g9 => ?_)
      exact tQ_read_125 r (mup v8.2 21 9 v8.1)  (0, x1)
def fQ_read_76 (m : aM) (x1 : Int) : Option (Int × aM) :=
  (fQ_takeWord m 7).bind fun v4 =>
  if v4.1 = 0 then
    fQ_read_91 v4.2 x1
  else
    (fQ_cond v4.2 0).bind fun v10 =>
    fQ_read_91 v10 x1
set_option maxRecDepth 100000 in
theorem tQ_read_76 (r : aR) (m : aM) (x1 : Int) : aT PB 40 124 r (fun w => r = (1, (0, w.1), w.2, XX)) (fQ_read_76 m x1) (76, [(12, 21), (0, x1)], [], m, XX) := by
  have hD : aMd PB 124 = d_Q_read := rfl
  unfold fQ_read_76
  refine T_run hD 2 (c' := (80, [(12, 21), (0, x1)], [(40, 7), (12, 21)], m, XX)) rfl ?_
  refine T_call hD (D2 := d_Q_takeWord) (q2 := 140) (as := [(12, 21), (40, 7)]) (c1 := (83, [(12, 21), (0, x1)], [], m, XX)) (mk := fun w => (1, (0, w.1), w.2, XX)) (cc := fun v4 => (83, [(12, 21), (0, x1)], [(0, v4.1)], v4.2, XX)) rfl rfl (fun y9 h9y => Go.mono (tQ_takeWord m 7 y9 h9y) (by decide)) (fun _ => rfl) (fun v4 => ?_)
  refine T_if hD (c1 := (91, _, _, _, _)) (c2 := (86, _, _, _, _)) rfl (fun _ => ?_) (fun _ => ?_)
  · exact tQ_read_91 r v4.2 x1 
  · refine T_run hD 2 (c' := (88, [(12, 21), (0, x1)], [(0, 0), (12, 21)], v4.2, XX)) rfl ?_
    refine T_call hD (D2 := d_Q_readCondition) (q2 := 132) (as := [(12, 21), (0, 0)]) (c1 := (91, [(12, 21), (0, x1)], [], v4.2, XX)) (mk := fun w => (0, (0, 0), w, XX)) (cc := fun v10 => (91, [(12, 21), (0, x1)], [], v10, XX)) rfl rfl (fun y9 h9y => Go.mono (tQ_cond v4.2 0 y9 h9y) (by decide)) (fun _ => rfl) (fun v10 => ?_)
    exact tQ_read_91 r v10 x1 
def fQ_read_53 (m : aM) (x1 : Int) : Option (Int × aM) :=
  if x1 = 0 then
    (fQ_takeWord m 6).bind fun v3 =>
    if v3.1 = 0 then
      fQ_read_76 v3.2 x1
    else
      (fQ_readName v3.2 0).bind fun v11 =>
      fQ_read_76 (mup v11.2 21 8 v11.1) x1
  else
    fQ_read_76 m x1
set_option maxRecDepth 100000 in
theorem tQ_read_53 (r : aR) (m : aM) (x1 : Int) : aT PB 40 124 r (fun w => r = (1, (0, w.1), w.2, XX)) (fQ_read_53 m x1) (53, [(12, 21), (0, x1)], [], m, XX) := by
  have hD : aMd PB 124 = d_Q_read := rfl
  unfold fQ_read_53
  refine T_run hD 1 (c' := (54, [(12, 21), (0, x1)], [(0, x1)], m, XX)) rfl ?_
  refine T_if hD (c1 := (57, _, _, _, _)) (c2 := (76, _, _, _, _)) rfl (fun _ => ?_) (fun _ => ?_)
  · refine T_run hD 2 (c' := (61, [(12, 21), (0, x1)], [(40, 6), (12, 21)], m, XX)) rfl ?_
    refine T_call hD (D2 := d_Q_takeWord) (q2 := 140) (as := [(12, 21), (40, 6)]) (c1 := (64, [(12, 21), (0, x1)], [], m, XX)) (mk := fun w => (1, (0, w.1), w.2, XX)) (cc := fun v3 => (64, [(12, 21), (0, x1)], [(0, v3.1)], v3.2, XX)) rfl rfl (fun y9 h9y => Go.mono (tQ_takeWord m 6 y9 h9y) (by decide)) (fun _ => rfl) (fun v3 => ?_)
    refine T_if hD (c1 := (76, _, _, _, _)) (c2 := (67, _, _, _, _)) rfl (fun _ => ?_) (fun _ => ?_)
    · exact tQ_read_76 r v3.2 x1 
    · refine T_run hD 3 (c' := (70, [(12, 21), (0, x1)], [(0, 0), (12, 21), (12, 21)], v3.2, XX)) rfl ?_
      refine T_call hD (D2 := d_Q_readName) (q2 := 136) (as := [(12, 21), (0, 0)]) (c1 := (73, [(12, 21), (0, x1)], [(12, 21)], v3.2, XX)) (mk := fun w => (1, (0, w.1), w.2, XX)) (cc := fun v11 => (73, [(12, 21), (0, x1)], [(0, v11.1), (12, 21)], v11.2, XX)) rfl rfl (fun y9 h9y => Go.mono (tQ_readName v3.2 0 y9 h9y) (by decide)) (fun _ => rfl) (fun v11 => ?_)
      refine T_run hD 1 (c' := (76, [(12, 21), (0, x1)], [], mup v11.2 21 8 v11.1, XX)) rfl ?_
      exact tQ_read_76 r (mup v11.2 21 8 v11.1) x1 
  · exact tQ_read_76 r m x1 
def fQ_read (m : aM) : Option (Int × aM) :=
  (fQ_takeWord (mup (mup (mup (mup (mup (mup (mup m 21 3 0) 21 4 0) 21 5 (-1)) 21 6 1) 21 7 (-1)) 21 8 (-1)) 21 9 0) 1).bind fun v1 =>
  if v1.1 = 0 then
    (fQ_readAggregate v1.2).bind fun v2 =>
    fQ_read_53 v2 v1.1
  else
    fQ_read_53 v1.2 v1.1
set_option maxRecDepth 100000 in
theorem tQ_read (m : aM) : ∀ v, fQ_read m = some v → Go PB 40 124 (aEnt d_Q_read [(12, 21)] m XX) (1, (0, v.1), v.2, XX) := by
  intro v hv
  have hD : aMd PB 124 = d_Q_read := rfl
  obtain ⟨r, hr⟩ : ∃ r : aR, r = (1, (0, v.1), v.2, XX) := ⟨_, rfl⟩
  have h9 : aT PB 40 124 r (fun w => r = (1, (0, w.1), w.2, XX)) (fQ_read m) (0, [(12, 21), (99, 0)], [], m, XX) := by
    unfold fQ_read
    refine T_run hD 23 (c' := (41, [(12, 21), (99, 0)], [(40, 1), (12, 21)], mup (mup (mup (mup (mup (mup (mup m 21 3 0) 21 4 0) 21 5 (-1)) 21 6 1) 21 7 (-1)) 21 8 (-1)) 21 9 0, XX)) rfl ?_
    refine T_call hD (D2 := d_Q_takeWord) (q2 := 140) (as := [(12, 21), (40, 1)]) (c1 := (44, [(12, 21), (99, 0)], [], mup (mup (mup (mup (mup (mup (mup m 21 3 0) 21 4 0) 21 5 (-1)) 21 6 1) 21 7 (-1)) 21 8 (-1)) 21 9 0, XX)) (mk := fun w => (1, (0, w.1), w.2, XX)) (cc := fun v1 => (44, [(12, 21), (99, 0)], [(0, v1.1)], v1.2, XX)) rfl rfl (fun y9 h9y => Go.mono (tQ_takeWord (mup (mup (mup (mup (mup (mup (mup m 21 3 0) 21 4 0) 21 5 (-1)) 21 6 1) 21 7 (-1)) 21 8 (-1)) 21 9 0) 1 y9 h9y) (by decide)) (fun _ => rfl) (fun v1 => ?_)
    refine T_run hD 2 (c' := (46, [(12, 21), (0, v1.1)], [(0, v1.1)], v1.2, XX)) rfl ?_
    refine T_if hD (c1 := (49, _, _, _, _)) (c2 := (53, _, _, _, _)) rfl (fun _ => ?_) (fun _ => ?_)
    · refine T_run hD 1 (c' := (50, [(12, 21), (0, v1.1)], [(12, 21)], v1.2, XX)) rfl ?_
      refine T_call hD (D2 := d_Q_readAggregate) (q2 := 131) (as := [(12, 21)]) (c1 := (53, [(12, 21), (0, v1.1)], [], v1.2, XX)) (mk := fun w => (0, (0, 0), w, XX)) (cc := fun v2 => (53, [(12, 21), (0, v1.1)], [], v2, XX)) rfl rfl (fun y9 h9y => Go.mono (tQ_readAggregate v1.2 y9 h9y) (by decide)) (fun _ => rfl) (fun v2 => ?_)
      exact tQ_read_53 r v2 v1.1 
    · exact tQ_read_53 r v1.2 v1.1 
  rw [← hr]
  exact h9 v hv hr
def fQ_bitOf (x0 : Int) (x1 : Int) : Int :=
  if x1 = 0 then
    bShl 1 (w32 (16 + x0))
  else
    bShl 1 x0
set_option maxRecDepth 100000 in
theorem tQ_bitOf (m : aM) (x0 : Int) (x1 : Int) : Go PB 1 130 (aEnt d_Q_bitOf [(0, x0), (0, x1)] m XX) (1, (0, (fQ_bitOf x0 x1)), m, XX) := by
  have hD : aMd PB 130 = d_Q_bitOf := rfl
  show aU PB 1 130 (fun w => (1, (0, w), m, XX)) (fQ_bitOf x0 x1) (0, [(0, x0), (0, x1)], [], m, XX)
  unfold fQ_bitOf
  refine U_run hD 2 (c' := (2, [(0, x0), (0, x1)], [(0, x1), (0, 1)], m, XX)) rfl ?_
  refine U_if hD (c1 := (9, _, _, _, _)) (c2 := (5, _, _, _, _)) rfl (fun _ => ?_) (fun _ => ?_)
  · refine U_run hD 4 (c' := (14, [(0, x0), (0, x1)], [(0, bShl 1 (w32 (16 + x0)))], m, XX)) rfl ?_
    exact Go.fin hD rfl
  · refine U_run hD 3 (c' := (14, [(0, x0), (0, x1)], [(0, bShl 1 x0)], m, XX)) rfl ?_
    exact Go.fin hD rfl
def fS_holds_17 (m : aM) (x0 : Int) (s0 : Int) : Int :=
  if bAnd (m x0 7) s0 = 0 then
    0
  else
    1
set_option maxRecDepth 100000 in
theorem tS_holds_17 (m : aM) (x0 : Int) (s0 : Int) (z1 : aV) (z2 : aV) : aU PB 1 186 (fun w => (1, (0, w), m, XX)) (fS_holds_17 m x0 s0) (17, [(15, x0), z1, z2], [(0, s0)], m, XX) := by
  have hD : aMd PB 186 = d_S_holds := rfl
  unfold fS_holds_17
  refine U_run hD 5 (c' := (24, [(15, x0), aJ z1, (0, s0)], [(0, bAnd (m x0 7) s0)], m, XX)) rfl ?_
  refine U_if hD (c1 := (31, _, _, _, _)) (c2 := (27, _, _, _, _)) rfl (fun _ => ?_) (fun _ => ?_)
  · refine U_run hD 1 (c' := (32, [(15, x0), aJ z1, (0, s0)], [(0, 0)], m, XX)) rfl ?_
    exact Go.fin hD rfl
  · refine U_run hD 2 (c' := (32, [(15, x0), aJ z1, (0, s0)], [(0, 1)], m, XX)) rfl ?_
    exact Go.fin hD rfl
def fS_holds (m : aM) (x0 : Int) (x1 : Int) : Int :=
  if x1 < 0 then
    fS_holds_17 m x0 1
  else
    if 0 < x1 then
      fS_holds_17 m x0 4
    else
      fS_holds_17 m x0 2
set_option maxRecDepth 100000 in
theorem tS_holds (m : aM) (x0 : Int) (x1 : Int) : Go PB 1 186 (aEnt d_S_holds [(15, x0), (0, x1)] m XX) (1, (0, (fS_holds m x0 x1)), m, XX) := by
  have hD : aMd PB 186 = d_S_holds := rfl
  show aU PB 1 186 (fun w => (1, (0, w), m, XX)) (fS_holds m x0 x1) (0, [(15, x0), (0, x1), (99, 0)], [], m, XX)
  unfold fS_holds
  refine U_run hD 1 (c' := (1, [(15, x0), (0, x1), (99, 0)], [(0, x1)], m, XX)) rfl ?_
  refine U_if hD (c1 := (4, _, _, _, _)) (c2 := (8, _, _, _, _)) rfl (fun _ => ?_) (fun _ => ?_)
  · refine U_run hD 2 (c' := (17, [(15, x0), (0, x1), (99, 0)], [(0, 1)], m, XX)) rfl ?_
    exact tS_holds_17 m x0 1 (0, x1) (99, 0)
  · refine U_run hD 1 (c' := (9, [(15, x0), (0, x1), (99, 0)], [(0, x1)], m, XX)) rfl ?_
    refine U_if hD (c1 := (12, _, _, _, _)) (c2 := (16, _, _, _, _)) rfl (fun _ => ?_) (fun _ => ?_)
    · refine U_run hD 2 (c' := (17, [(15, x0), (0, x1), (99, 0)], [(0, 4)], m, XX)) rfl ?_
      exact tS_holds_17 m x0 4 (0, x1) (99, 0)
    · refine U_run hD 1 (c' := (17, [(15, x0), (0, x1), (99, 0)], [(0, 2)], m, XX)) rfl ?_
      exact tS_holds_17 m x0 2 (0, x1) (99, 0)
def fQ_truthIn_132 (m : aM) (x1 : Int) (x6 : Int) (s0 : Int) : Option Int :=
  some (fQ_bitOf x1 (fS_holds m x6 s0))
set_option maxRecDepth 100000 in
theorem tQ_truthIn_132 (r : aR) (m : aM) (x1 : Int) (x6 : Int) (s0 : Int) (z0 : aV) (z2 : aV) (z3 : aV) (z4 : aV) (z5 : aV) (z7 : aV) (z8 : aV) (z9 : aV) : aT PB 4 129 r (fun w => r = (1, (0, w), m, XX)) (fQ_truthIn_132 m x1 x6 s0) (132, [z0, (0, x1), z2, z3, z4, z5, (15, x6), z7, z8, z9], [(0, s0)], m, XX) := by
  have hD : aMd PB 129 = d_Q_truthIn := rfl
  unfold fQ_truthIn_132
  refine T_run hD 4 (c' := (139, [z0, (0, x1), z2, z3, z4, z5, (15, x6), z7, aJ z8, (0, s0)], [(0, s0), (15, x6), (0, x1)], m, XX)) rfl ?_
  refine T_call0 hD (D2 := d_S_holds) (q2 := 186) (as := [(15, x6), (0, s0)]) (c1 := (142, [z0, (0, x1), z2, z3, z4, z5, (15, x6), z7, aJ z8, (0, s0)], [(0, x1)], m, XX)) (r2 := (1, (0, fS_holds m x6 s0), m, XX)) (c2 := (142, [z0, (0, x1), z2, z3, z4, z5, (15, x6), z7, aJ z8, (0, s0)], [(0, fS_holds m x6 s0), (0, x1)], m, XX)) rfl rfl (Go.mono (tS_holds m x6 s0) (by decide)) rfl ?_
  refine T_call0 hD (D2 := d_Q_bitOf) (q2 := 130) (as := [(0, x1), (0, fS_holds m x6 s0)]) (c1 := (145, [z0, (0, x1), z2, z3, z4, z5, (15, x6), z7, aJ z8, (0, s0)], [], m, XX)) (r2 := (1, (0, fQ_bitOf x1 (fS_holds m x6 s0)), m, XX)) (c2 := (145, [z0, (0, x1), z2, z3, z4, z5, (15, x6), z7, aJ z8, (0, s0)], [(0, fQ_bitOf x1 (fS_holds m x6 s0))], m, XX)) rfl rfl (Go.mono (tQ_bitOf m x1 (fS_holds m x6 s0)) (by decide)) rfl ?_
  exact T_fin hD rfl (fun h => h)
def fQ_truthIn_95 (m : aM) (x1 : Int) (x3 : Int) (x5 : Int) (x6 : Int) (x7 : Int) : Option Int :=
  if m x7 4 = (-1) then
    (fT_compareWithToken m x1 x5 x7 x3).bind fun v5 =>
    fQ_truthIn_132 m x1 x6 v5
  else
    (fT_compareCells m x1 x5 x1 (m x7 4)).bind fun v6 =>
    fQ_truthIn_132 m x1 x6 v6
set_option maxRecDepth 100000 in
theorem tQ_truthIn_95 (r : aR) (m : aM) (x1 : Int) (x3 : Int) (x5 : Int) (x6 : Int) (x7 : Int) (hx3 : ck x3) (z0 : aV) (z2 : aV) (z8 : aV) (z9 : aV) : aT PB 4 129 r (fun w => r = (1, (0, w), m, XX)) (fQ_truthIn_95 m x1 x3 x5 x6 x7) (95, [z0, (0, x1), z2, (11, x3), (14, 12), (0, x5), (15, x6), (15, x7), z8, z9], [], m, XX) := by
  have hD : aMd PB 129 = d_Q_truthIn := rfl
  unfold fQ_truthIn_95
  refine T_run hD 3 (c' := (101, [z0, (0, x1), z2, (11, x3), (14, 12), (0, x5), (15, x6), (15, x7), z8, z9], [(0, (-1)), (0, m x7 4)], m, XX)) rfl ?_
  refine T_if hD (c1 := (121, _, _, _, _)) (c2 := (104, _, _, _, _)) rfl (fun _ => ?_) (fun _ => ?_)
  · refine T_run hD 5 (c' := (129, [z0, (0, x1), z2, (11, x3), (14, 12), (0, x5), (15, x6), (15, x7), z8, z9], [(11, x3), (15, x7), (0, x5), (0, x1), (14, 12)], m, XX)) rfl ?_
    refine T_call hD (D2 := d_T_compareWithToken) (q2 := 160) (as := [(14, 12), (0, x1), (0, x5), (15, x7), (11, x3)]) (c1 := (132, [z0, (0, x1), z2, (11, x3), (14, 12), (0, x5), (15, x6), (15, x7), z8, z9], [], m, XX)) (mk := fun w => (1, (0, w), m, XX)) (cc := fun v5 => (132, [z0, (0, x1), z2, (11, x3), (14, 12), (0, x5), (15, x6), (15, x7), z8, z9], [(0, v5)], m, XX)) rfl rfl (fun y9 h9y => Go.mono (tT_compareWithToken m x1 x5 x7 x3 hx3 y9 h9y) (by decide)) (fun _ => rfl) (fun v5 => ?_)
    exact tQ_truthIn_132 r m x1 x6 v5 z0 z2 (11, x3) (14, 12) (0, x5) (15, x7) z8 z9
  · refine T_run hD 6 (c' := (115, [z0, (0, x1), z2, (11, x3), (14, 12), (0, x5), (15, x6), (15, x7), z8, z9], [(0, m x7 4), (0, x1), (0, x5), (0, x1), (14, 12)], m, XX)) rfl ?_
    refine T_call hD (D2 := d_T_compareCells) (q2 := 159) (as := [(14, 12), (0, x1), (0, x5), (0, x1), (0, m x7 4)]) (c1 := (118, [z0, (0, x1), z2, (11, x3), (14, 12), (0, x5), (15, x6), (15, x7), z8, z9], [], m, XX)) (mk := fun w => (1, (0, w), m, XX)) (cc := fun v6 => (118, [z0, (0, x1), z2, (11, x3), (14, 12), (0, x5), (15, x6), (15, x7), z8, z9], [(0, v6)], m, XX)) rfl rfl (fun y9 h9y => Go.mono (tT_compareCells m x1 x5 x1 (m x7 4) y9 h9y) (by decide)) (fun _ => rfl) (fun v6 => ?_)
    refine T_run hD 1 (c' := (132, [z0, (0, x1), z2, (11, x3), (14, 12), (0, x5), (15, x6), (15, x7), z8, z9], [(0, v6)], m, XX)) rfl ?_
    exact tQ_truthIn_132 r m x1 x6 v6 z0 z2 (11, x3) (14, 12) (0, x5) (15, x7) z8 z9
def fQ_truthIn (m : aM) (x1 : Int) (x2 : Int) (x3 : Int) : Option Int :=
  (fS_get m x2).bind fun v1 =>
  (fS_get m (w32 (x2 + 1))).bind fun v2 =>
  (fS_get m (w32 (x2 + 2))).bind fun v3 =>
  (fT_lacks m x1 (m v1 4)).bind fun v4 =>
  if m v2 3 = 11 then
    some (fQ_bitOf x1 v4)
  else
    if v4 = 0 then
      if m v3 4 = (-1) then
        fQ_truthIn_95 m x1 x3 (m v1 4) v2 v3
      else
        (fT_lacks m x1 (m v3 4)).bind fun v7 =>
        if v7 = 0 then
          fQ_truthIn_95 m x1 x3 (m v1 4) v2 v3
        else
          some (0)
    else
      some (0)
set_option maxRecDepth 100000 in
theorem tQ_truthIn (m : aM) (x1 : Int) (x2 : Int) (x3 : Int) (hx3 : ck x3) : ∀ v, fQ_truthIn m x1 x2 x3 = some v → Go PB 4 129 (aEnt d_Q_truthIn [(12, 21), (0, x1), (0, x2), (11, x3), (14, 12)] m XX) (1, (0, v), m, XX) := by
  intro v hv
  have hD : aMd PB 129 = d_Q_truthIn := rfl
  obtain ⟨r, hr⟩ : ∃ r : aR, r = (1, (0, v), m, XX) := ⟨_, rfl⟩
  have h9 : aT PB 4 129 r (fun w => r = (1, (0, w), m, XX)) (fQ_truthIn m x1 x2 x3) (0, [(12, 21), (0, x1), (0, x2), (11, x3), (14, 12), (99, 0), (99, 0), (99, 0), (99, 0), (99, 0)], [], m, XX) := by
    unfold fQ_truthIn
    refine T_run hD 3 (c' := (5, [(12, 21), (0, x1), (0, x2), (11, x3), (14, 12), (99, 0), (99, 0), (99, 0), (99, 0), (99, 0)], [(0, x2), (16, 22)], m, XX)) rfl ?_
    refine T_call hD (D2 := d_S_get) (q2 := 179) (as := [(16, 22), (0, x2)]) (c1 := (8, [(12, 21), (0, x1), (0, x2), (11, x3), (14, 12), (99, 0), (99, 0), (99, 0), (99, 0), (99, 0)], [], m, XX)) (mk := fun w => (1, (15, w), m, XX)) (cc := fun v1 => (8, [(12, 21), (0, x1), (0, x2), (11, x3), (14, 12), (99, 0), (99, 0), (99, 0), (99, 0), (99, 0)], [(15, v1)], m, XX)) rfl rfl (fun y9 h9y => Go.mono (tS_get m x2 y9 h9y) (by decide)) (fun _ => rfl) (fun v1 => ?_)
    refine T_run hD 7 (c' := (20, [(12, 21), (0, x1), (0, x2), (11, x3), (14, 12), (0, m v1 4), (99, 0), (99, 0), (99, 0), (99, 0)], [(0, w32 (x2 + 1)), (16, 22)], m, XX)) rfl ?_
    refine T_call hD (D2 := d_S_get) (q2 := 179) (as := [(16, 22), (0, w32 (x2 + 1))]) (c1 := (23, [(12, 21), (0, x1), (0, x2), (11, x3), (14, 12), (0, m v1 4), (99, 0), (99, 0), (99, 0), (99, 0)], [], m, XX)) (mk := fun w => (1, (15, w), m, XX)) (cc := fun v2 => (23, [(12, 21), (0, x1), (0, x2), (11, x3), (14, 12), (0, m v1 4), (99, 0), (99, 0), (99, 0), (99, 0)], [(15, v2)], m, XX)) rfl rfl (fun y9 h9y => Go.mono (tS_get m (w32 (x2 + 1)) y9 h9y) (by decide)) (fun _ => rfl) (fun v2 => ?_)
    refine T_run hD 6 (c' := (32, [(12, 21), (0, x1), (0, x2), (11, x3), (14, 12), (0, m v1 4), (15, v2), (99, 0), (99, 0), (99, 0)], [(0, w32 (x2 + 2)), (16, 22)], m, XX)) rfl ?_
    refine T_call hD (D2 := d_S_get) (q2 := 179) (as := [(16, 22), (0, w32 (x2 + 2))]) (c1 := (35, [(12, 21), (0, x1), (0, x2), (11, x3), (14, 12), (0, m v1 4), (15, v2), (99, 0), (99, 0), (99, 0)], [], m, XX)) (mk := fun w => (1, (15, w), m, XX)) (cc := fun v3 => (35, [(12, 21), (0, x1), (0, x2), (11, x3), (14, 12), (0, m v1 4), (15, v2), (99, 0), (99, 0), (99, 0)], [(15, v3)], m, XX)) rfl rfl (fun y9 h9y => Go.mono (tS_get m (w32 (x2 + 2)) y9 h9y) (by decide)) (fun _ => rfl) (fun v3 => ?_)
    refine T_run hD 4 (c' := (42, [(12, 21), (0, x1), (0, x2), (11, x3), (14, 12), (0, m v1 4), (15, v2), (15, v3), (99, 0), (99, 0)], [(0, m v1 4), (0, x1), (14, 12)], m, XX)) rfl ?_
    refine T_call hD (D2 := d_T_lacks) (q2 := 156) (as := [(14, 12), (0, x1), (0, m v1 4)]) (c1 := (45, [(12, 21), (0, x1), (0, x2), (11, x3), (14, 12), (0, m v1 4), (15, v2), (15, v3), (99, 0), (99, 0)], [], m, XX)) (mk := fun w => (1, (0, w), m, XX)) (cc := fun v4 => (45, [(12, 21), (0, x1), (0, x2), (11, x3), (14, 12), (0, m v1 4), (15, v2), (15, v3), (99, 0), (99, 0)], [(0, v4)], m, XX)) rfl rfl (fun y9 h9y => Go.mono (tT_lacks m x1 (m v1 4) y9 h9y) (by decide)) (fun _ => rfl) (fun v4 => ?_)
    refine T_run hD 4 (c' := (55, [(12, 21), (0, x1), (0, x2), (11, x3), (14, 12), (0, m v1 4), (15, v2), (15, v3), (0, v4), (99, 0)], [(40, 11), (40, m v2 3)], m, XX)) rfl ?_
    refine T_if hD (c1 := (58, _, _, _, _)) (c2 := (65, _, _, _, _)) rfl (fun _ => ?_) (fun _ => ?_)
    · refine T_run hD 2 (c' := (61, [(12, 21), (0, x1), (0, x2), (11, x3), (14, 12), (0, m v1 4), (15, v2), (15, v3), (0, v4), (99, 0)], [(0, v4), (0, x1)], m, XX)) rfl ?_
      refine T_call0 hD (D2 := d_Q_bitOf) (q2 := 130) (as := [(0, x1), (0, v4)]) (c1 := (64, [(12, 21), (0, x1), (0, x2), (11, x3), (14, 12), (0, m v1 4), (15, v2), (15, v3), (0, v4), (99, 0)], [], m, XX)) (r2 := (1, (0, fQ_bitOf x1 v4), m, XX)) (c2 := (64, [(12, 21), (0, x1), (0, x2), (11, x3), (14, 12), (0, m v1 4), (15, v2), (15, v3), (0, v4), (99, 0)], [(0, fQ_bitOf x1 v4)], m, XX)) rfl rfl (Go.mono (tQ_bitOf m x1 v4) (by decide)) rfl ?_
      exact T_fin hD rfl (fun h => h)
    · refine T_run hD 1 (c' := (67, [(12, 21), (0, x1), (0, x2), (11, x3), (14, 12), (0, m v1 4), (15, v2), (15, v3), (0, v4), (99, 0)], [(0, v4)], m, XX)) rfl ?_
      refine T_if hD (c1 := (70, _, _, _, _)) (c2 := (93, _, _, _, _)) rfl (fun _ => ?_) (fun _ => ?_)
      · refine T_run hD 3 (c' := (76, [(12, 21), (0, x1), (0, x2), (11, x3), (14, 12), (0, m v1 4), (15, v2), (15, v3), (0, v4), (99, 0)], [(0, (-1)), (0, m v3 4)], m, XX)) rfl ?_
        refine T_if hD (c1 := (95, _, _, _, _)) (c2 := (79, _, _, _, _)) rfl (fun _ => ?_) (fun _ => ?_)
        · exact tQ_truthIn_95 r m x1 x3 (m v1 4) v2 v3 hx3 (12, 21) (0, x2) (0, v4) (99, 0)
        · refine T_run hD 4 (c' := (87, [(12, 21), (0, x1), (0, x2), (11, x3), (14, 12), (0, m v1 4), (15, v2), (15, v3), (0, v4), (99, 0)], [(0, m v3 4), (0, x1), (14, 12)], m, XX)) rfl ?_
          refine T_call hD (D2 := d_T_lacks) (q2 := 156) (as := [(14, 12), (0, x1), (0, m v3 4)]) (c1 := (90, [(12, 21), (0, x1), (0, x2), (11, x3), (14, 12), (0, m v1 4), (15, v2), (15, v3), (0, v4), (99, 0)], [], m, XX)) (mk := fun w => (1, (0, w), m, XX)) (cc := fun v7 => (90, [(12, 21), (0, x1), (0, x2), (11, x3), (14, 12), (0, m v1 4), (15, v2), (15, v3), (0, v4), (99, 0)], [(0, v7)], m, XX)) rfl rfl (fun y9 h9y => Go.mono (tT_lacks m x1 (m v3 4) y9 h9y) (by decide)) (fun _ => rfl) (fun v7 => ?_)
          refine T_if hD (c1 := (95, _, _, _, _)) (c2 := (93, _, _, _, _)) rfl (fun _ => ?_) (fun _ => ?_)
          · exact tQ_truthIn_95 r m x1 x3 (m v1 4) v2 v3 hx3 (12, 21) (0, x2) (0, v4) (99, 0)
          · refine T_run hD 1 (c' := (94, [(12, 21), (0, x1), (0, x2), (11, x3), (14, 12), (0, m v1 4), (15, v2), (15, v3), (0, v4), (99, 0)], [(0, 0)], m, XX)) rfl ?_
            exact T_fin hD rfl (fun h => h)
      · refine T_run hD 1 (c' := (94, [(12, 21), (0, x1), (0, x2), (11, x3), (14, 12), (0, m v1 4), (15, v2), (15, v3), (0, v4), (99, 0)], [(0, 0)], m, XX)) rfl ?_
        exact T_fin hD rfl (fun h => h)
  rw [← hr]
  exact h9 v hv hr
abbrev hQ_truthOf_6 (m : aM) (x1 : Int) (x2 : Int) : (Int × Int) → aC → Prop := fun y c => c = (6, [(12, 21), (0, x1), (11, x2), (14, 12), (0, (y.1)), (0, (y.2))], [], m, XX)
def fQ_truthOf_6_b (m : aM) (x1 : Int) (x2 : Int) : (Int × Int) → Option ((Int × Int) ⊕ Int) := fun (x4, x5) =>
  if x5 < m 12 7 then
    (fQ_truthIn m x5 x1 x2).bind fun v1 =>
    some (Sum.inl (bOr x4 v1, w32 (x5 + 1)))
  else
    some (Sum.inr (x4))
def fQ_truthOf_6 (m : aM) (x1 : Int) (x2 : Int) (x4 : Int) (x5 : Int) : Option Int := aLoop (fQ_truthOf_6_b m x1 x2) FU (x4, x5)
set_option maxRecDepth 100000 in
theorem tQ_truthOf_6 (r : aR) (m : aM) (x1 : Int) (x2 : Int) (x4 : Int) (x5 : Int) (hx2 : ck x2) : aT PB 5 128 r (fun w => r = (1, (0, w), m, XX)) (fQ_truthOf_6 m x1 x2 x4 x5) (6, [(12, 21), (0, x1), (11, x2), (14, 12), (0, x4), (0, x5)], [], m, XX) := by
  have hD : aMd PB 128 = d_Q_truthOf := rfl
  refine T_loop (Hd := (hQ_truthOf_6 m x1 x2)) ?_ FU _ _ rfl
  clear x4 x5
  intro y c hc
  obtain ⟨x4, x5⟩ := y
  obtain rfl := hc
  unfold fQ_truthOf_6_b
  try dsimp only
  refine T_run hD 3 (c' := (12, [(12, 21), (0, x1), (11, x2), (14, 12), (0, x4), (0, x5)], [(0, m 12 7), (0, x5)], m, XX)) rfl ?_
  refine T_if hD (c1 := (15, _, _, _, _)) (c2 := (35, _, _, _, _)) rfl (fun _ => ?_) (fun _ => ?_)
  · refine T_run hD 6 (c' := (23, [(12, 21), (0, x1), (11, x2), (14, 12), (0, x4), (0, x5)], [(14, 12), (11, x2), (0, x1), (0, x5), (12, 21), (0, x4)], m, XX)) rfl ?_
    refine T_call hD (D2 := d_Q_truthIn) (q2 := 129) (as := [(12, 21), (0, x5), (0, x1), (11, x2), (14, 12)]) (c1 := (26, [(12, 21), (0, x1), (11, x2), (14, 12), (0, x4), (0, x5)], [(0, x4)], m, XX)) (mk := fun w => (1, (0, w), m, XX)) (cc := fun v1 => (26, [(12, 21), (0, x1), (11, x2), (14, 12), (0, x4), (0, x5)], [(0, v1), (0, x4)], m, XX)) rfl rfl (fun y9 h9y => Go.mono (tQ_truthIn m x5 x1 x2 hx2 y9 h9y) (by decide)) (fun _ => rfl) (fun v1 => ?_)
    refine T_run hD 4 (c' := (6, [(12, 21), (0, x1), (11, x2), (14, 12), (0, bOr x4 v1), (0, w32 (x5 + 1))], [], m, XX)) rfl ?_
    exact T_back0 rfl
  · refine T_run hD 1 (c' := (37, [(12, 21), (0, x1), (11, x2), (14, 12), (0, x4), (0, x5)], [(0, x4)], m, XX)) rfl ?_
    exact T_fin hD rfl (fun h => h)
def fQ_truthOf (m : aM) (x1 : Int) (x2 : Int) : Option Int :=
  fQ_truthOf_6 m x1 x2 0 0
set_option maxRecDepth 100000 in
theorem tQ_truthOf (m : aM) (x1 : Int) (x2 : Int) (hx2 : ck x2) : ∀ v, fQ_truthOf m x1 x2 = some v → Go PB 5 128 (aEnt d_Q_truthOf [(12, 21), (0, x1), (11, x2), (14, 12)] m XX) (1, (0, v), m, XX) := by
  intro v hv
  have hD : aMd PB 128 = d_Q_truthOf := rfl
  obtain ⟨r, hr⟩ : ∃ r : aR, r = (1, (0, v), m, XX) := ⟨_, rfl⟩
  have h9 : aT PB 5 128 r (fun w => r = (1, (0, w), m, XX)) (fQ_truthOf m x1 x2) (0, [(12, 21), (0, x1), (11, x2), (14, 12), (99, 0), (99, 0)], [], m, XX) := by
    unfold fQ_truthOf
    refine T_run hD 4 (c' := (6, [(12, 21), (0, x1), (11, x2), (14, 12), (0, 0), (0, 0)], [], m, XX)) rfl ?_
    exact tQ_truthOf_6 r m x1 x2 0 0 hx2 
  rw [← hr]
  exact h9 v hv hr
def fQ_turned (x0 : Int) : Int :=
  bOr (bShl x0 16) (bUshr x0 16)
set_option maxRecDepth 100000 in
theorem tQ_turned (m : aM) (x0 : Int) : Go PB 1 126 (aEnt d_Q_turned [(0, x0)] m XX) (1, (0, (fQ_turned x0)), m, XX) := by
  have hD : aMd PB 126 = d_Q_turned := rfl
  show aU PB 1 126 (fun w => (1, (0, w), m, XX)) (fQ_turned x0) (0, [(0, x0)], [], m, XX)
  unfold fQ_turned
  refine U_run hD 7 (c' := (9, [(0, x0)], [(0, bOr (bShl x0 16) (bUshr x0 16))], m, XX)) rfl ?_
  exact Go.fin hD rfl
def fQ_join (x0 : Int) (x1 : Int) (x2 : Int) : Int :=
  if x0 = (-1) then
    bOr (bAnd (bAnd x1 x2) 65535) (bAnd (bOr x1 x2) (-65536))
  else
    bOr (bAnd (bOr x1 x2) 65535) (bAnd (bAnd x1 x2) (-65536))
set_option maxRecDepth 100000 in
theorem tQ_join (m : aM) (x0 : Int) (x1 : Int) (x2 : Int) : Go PB 1 127 (aEnt d_Q_join [(0, x0), (0, x1), (0, x2)] m XX) (1, (0, (fQ_join x0 x1 x2)), m, XX) := by
  have hD : aMd PB 127 = d_Q_join := rfl
  show aU PB 1 127 (fun w => (1, (0, w), m, XX)) (fQ_join x0 x1 x2) (0, [(0, x0), (0, x1), (0, x2), (99, 0), (99, 0)], [], m, XX)
  unfold fQ_join
  refine U_run hD 10 (c' := (11, [(0, x0), (0, x1), (0, x2), (0, bAnd x1 x2), (0, bOr x1 x2)], [(0, (-1)), (0, x0)], m, XX)) rfl ?_
  refine U_if hD (c1 := (14, _, _, _, _)) (c2 := (27, _, _, _, _)) rfl (fun _ => ?_) (fun _ => ?_)
  · refine U_run hD 8 (c' := (37, [(0, x0), (0, x1), (0, x2), (0, bAnd x1 x2), (0, bOr x1 x2)], [(0, bOr (bAnd (bAnd x1 x2) 65535) (bAnd (bOr x1 x2) (-65536)))], m, XX)) rfl ?_
    exact Go.fin hD rfl
  · refine U_run hD 7 (c' := (37, [(0, x0), (0, x1), (0, x2), (0, bAnd x1 x2), (0, bOr x1 x2)], [(0, bOr (bAnd (bOr x1 x2) 65535) (bAnd (bAnd x1 x2) (-65536)))], m, XX)) rfl ?_
    exact Go.fin hD rfl
abbrev hQ_choose_21 (x1 : Int) : (aM × Int × Int) → aC → Prop := fun y c => ∃ (z5 : aV), c = (21, [(12, 21), (11, x1), (14, 12), (0, (y.2.1)), (0, (y.2.2)), z5], [], (y.1), XX)
def fQ_choose_116 (m : aM) (x1 : Int) (x3 : Int) (x4 : Int) (x5 : Int) : Option ((aM × Int × Int) ⊕ (Int × aM)) :=
  if 1 < x3 then
    gd (0 ≤ w32 ((w32 (x3 + (-1))) - 1) ∧ w32 ((w32 (x3 + (-1))) - 1) < 96) (
    gd (0 ≤ w32 (x3 + (-1)) ∧ w32 (x3 + (-1)) < 96) (
    some (Sum.inl (mup m 122 (w32 ((w32 (x3 + (-1))) - 1)) (fQ_join x5 (m 122 (w32 ((w32 (x3 + (-1))) - 1))) (m 122 (w32 (x3 + (-1))))), w32 (x3 + (-1)), w32 (x4 + 1)))))
  else
    some (Sum.inl (m, x3, w32 (x4 + 1)))
set_option maxRecDepth 100000 in
theorem tQ_choose_116 (r : aR) (m : aM) (x1 : Int) (x3 : Int) (x4 : Int) (x5 : Int) (hx1 : ck x1) : aT PB 6 125 r (aTurn PB 6 125 r (hQ_choose_21 x1) (fun w => r = (1, (0, w.1), w.2, XX))) (fQ_choose_116 m x1 x3 x4 x5) (116, [(12, 21), (11, x1), (14, 12), (0, x3), (0, x4), (0, x5)], [], m, XX) := by
  have hD : aMd PB 125 = d_Q_choose := rfl
  unfold fQ_choose_116
  refine T_run hD 2 (c' := (118, [(12, 21), (11, x1), (14, 12), (0, x3), (0, x4), (0, x5)], [(0, 1), (0, x3)], m, XX)) rfl ?_
  refine T_if hD (c1 := (121, _, _, _, _)) (c2 := (151, _, _, _, _)) rfl (fun _ => ?_) (fun _ => ?_)
  · refine T_run hD 12 (c' := (140, [(12, 21), (11, x1), (14, 12), (0, w32 (x3 + (-1))), (0, x4), (0, x5)], [(0, w32 ((w32 (x3 + (-1))) - 1)), (31, 122), (0, x5), (0, w32 ((w32 (x3 + (-1))) - 1)), (31, 122)], m, XX)) rfl ?_
    refine T_gd hD (c1 := (141, [(12, 21), (11, x1), (14, 12), (0, w32 (x3 + (-1))), (0, x4), (0, x5)], [(0, m 122 (w32 ((w32 (x3 + (-1))) - 1))), (0, x5), (0, w32 ((w32 (x3 + (-1))) - 1)), (31, 122)], m, XX)) rfl (fun g3 => ?_)
    refine T_run hD 3 (c' := (146, [(12, 21), (11, x1), (14, 12), (0, w32 (x3 + (-1))), (0, x4), (0, x5)], [(0, w32 (x3 + (-1))), (31, 122), (0, m 122 (w32 ((w32 (x3 + (-1))) - 1))), (0, x5), (0, w32 ((w32 (x3 + (-1))) - 1)), (31, 122)], m, XX)) rfl ?_
    refine T_gd hD (c1 := (147, [(12, 21), (11, x1), (14, 12), (0, w32 (x3 + (-1))), (0, x4), (0, x5)], [(0, m 122 (w32 (x3 + (-1)))), (0, m 122 (w32 ((w32 (x3 + (-1))) - 1))), (0, x5), (0, w32 ((w32 (x3 + (-1))) - 1)), (31, 122)], m, XX)) rfl (fun g4 => ?_)
    refine T_call0 hD (D2 := d_Q_join) (q2 := 127) (as := [(0, x5), (0, m 122 (w32 ((w32 (x3 + (-1))) - 1))), (0, m 122 (w32 (x3 + (-1))))]) (c1 := (150, [(12, 21), (11, x1), (14, 12), (0, w32 (x3 + (-1))), (0, x4), (0, x5)], [(0, w32 ((w32 (x3 + (-1))) - 1)), (31, 122)], m, XX)) (r2 := (1, (0, fQ_join x5 (m 122 (w32 ((w32 (x3 + (-1))) - 1))) (m 122 (w32 (x3 + (-1))))), m, XX)) (c2 := (150, [(12, 21), (11, x1), (14, 12), (0, w32 (x3 + (-1))), (0, x4), (0, x5)], [(0, fQ_join x5 (m 122 (w32 ((w32 (x3 + (-1))) - 1))) (m 122 (w32 (x3 + (-1))))), (0, w32 ((w32 (x3 + (-1))) - 1)), (31, 122)], m, XX)) rfl rfl (Go.mono (tQ_join m x5 (m 122 (w32 ((w32 (x3 + (-1))) - 1))) (m 122 (w32 (x3 + (-1))))) (by decide)) rfl ?_
    refine T_gk hD (c1 := (151, [(12, 21), (11, x1), (14, 12), (0, w32 (x3 + (-1))), (0, x4), (0, x5)], [], mup m 122 (w32 ((w32 (x3 + (-1))) - 1)) (fQ_join x5 (m 122 (w32 ((w32 (x3 + (-1))) - 1))) (m 122 (w32 (x3 + (-1))))), XX)) (P := 0 ≤ w32 ((w32 (x3 + (-1))) - 1) ∧ w32 ((w32 (x3 + (-1))) - 1) < 96) rfl g3 ?_
    refine T_run hD 2 (c' := (21, [(12, 21), (11, x1), (14, 12), (0, w32 (x3 + (-1))), (0, w32 (x4 + 1)), (0, x5)], [], mup m 122 (w32 ((w32 (x3 + (-1))) - 1)) (fQ_join x5 (m 122 (w32 ((w32 (x3 + (-1))) - 1))) (m 122 (w32 (x3 + (-1))))), XX)) rfl ?_
    exact T_back0 ⟨_, rfl⟩
  · refine T_run hD 2 (c' := (21, [(12, 21), (11, x1), (14, 12), (0, x3), (0, w32 (x4 + 1)), (0, x5)], [], m, XX)) rfl ?_
    exact T_back0 ⟨_, rfl⟩
def fQ_choose_83 (m : aM) (x1 : Int) (x3 : Int) (x4 : Int) (x5 : Int) : Option ((aM × Int × Int) ⊕ (Int × aM)) :=
  if x5 = (-3) then
    if 0 < x3 then
      gd (0 ≤ w32 (x3 - 1) ∧ w32 (x3 - 1) < 96) (
      some (Sum.inl (mup m 122 (w32 (x3 - 1)) (fQ_turned (m 122 (w32 (x3 - 1)))), x3, w32 (x4 + 1))))
    else
      fQ_choose_116 m x1 x3 x4 x5
  else
    fQ_choose_116 m x1 x3 x4 x5
set_option maxRecDepth 100000 in
theorem tQ_choose_83 (r : aR) (m : aM) (x1 : Int) (x3 : Int) (x4 : Int) (x5 : Int) (hx1 : ck x1) : aT PB 6 125 r (aTurn PB 6 125 r (hQ_choose_21 x1) (fun w => r = (1, (0, w.1), w.2, XX))) (fQ_choose_83 m x1 x3 x4 x5) (83, [(12, 21), (11, x1), (14, 12), (0, x3), (0, x4), (0, x5)], [], m, XX) := by
  have hD : aMd PB 125 = d_Q_choose := rfl
  unfold fQ_choose_83
  refine T_run hD 2 (c' := (87, [(12, 21), (11, x1), (14, 12), (0, x3), (0, x4), (0, x5)], [(0, (-3)), (0, x5)], m, XX)) rfl ?_
  refine T_if hD (c1 := (90, _, _, _, _)) (c2 := (116, _, _, _, _)) rfl (fun _ => ?_) (fun _ => ?_)
  · refine T_run hD 1 (c' := (91, [(12, 21), (11, x1), (14, 12), (0, x3), (0, x4), (0, x5)], [(0, x3)], m, XX)) rfl ?_
    refine T_if hD (c1 := (94, _, _, _, _)) (c2 := (116, _, _, _, _)) rfl (fun _ => ?_) (fun _ => ?_)
    · refine T_run hD 10 (c' := (108, [(12, 21), (11, x1), (14, 12), (0, x3), (0, x4), (0, x5)], [(0, w32 (x3 - 1)), (31, 122), (0, w32 (x3 - 1)), (31, 122)], m, XX)) rfl ?_
      refine T_gd hD (c1 := (109, [(12, 21), (11, x1), (14, 12), (0, x3), (0, x4), (0, x5)], [(0, m 122 (w32 (x3 - 1))), (0, w32 (x3 - 1)), (31, 122)], m, XX)) rfl (fun g2 => ?_)
      refine T_call0 hD (D2 := d_Q_turned) (q2 := 126) (as := [(0, m 122 (w32 (x3 - 1)))]) (c1 := (112, [(12, 21), (11, x1), (14, 12), (0, x3), (0, x4), (0, x5)], [(0, w32 (x3 - 1)), (31, 122)], m, XX)) (r2 := (1, (0, fQ_turned (m 122 (w32 (x3 - 1)))), m, XX)) (c2 := (112, [(12, 21), (11, x1), (14, 12), (0, x3), (0, x4), (0, x5)], [(0, fQ_turned (m 122 (w32 (x3 - 1)))), (0, w32 (x3 - 1)), (31, 122)], m, XX)) rfl rfl (Go.mono (tQ_turned m (m 122 (w32 (x3 - 1)))) (by decide)) rfl ?_
      refine T_gk hD (c1 := (113, [(12, 21), (11, x1), (14, 12), (0, x3), (0, x4), (0, x5)], [], mup m 122 (w32 (x3 - 1)) (fQ_turned (m 122 (w32 (x3 - 1)))), XX)) (P := 0 ≤ w32 (x3 - 1) ∧ w32 (x3 - 1) < 96) rfl g2 ?_
      refine T_run hD 3 (c' := (21, [(12, 21), (11, x1), (14, 12), (0, x3), (0, w32 (x4 + 1)), (0, x5)], [], mup m 122 (w32 (x3 - 1)) (fQ_turned (m 122 (w32 (x3 - 1)))), XX)) rfl ?_
      exact T_back0 ⟨_, rfl⟩
    · exact tQ_choose_116 r m x1 x3 x4 x5 hx1 
  · exact tQ_choose_116 r m x1 x3 x4 x5 hx1 
def fQ_choose_21_b (x1 : Int) : (aM × Int × Int) → Option ((aM × Int × Int) ⊕ (Int × aM)) := fun (m, x3, x4) =>
  if x4 < m 21 3 then
    if x4 < 96 then
      gd (0 ≤ x4 ∧ x4 < 96) (
      if m 121 x4 < 0 then
        fQ_choose_83 m x1 x3 x4 (m 121 x4)
      else
        if x3 < 96 then
          (fQ_truthOf m (m 121 x4) x1).bind fun v5 =>
          gd (0 ≤ x3 ∧ x3 < 96) (
          some (Sum.inl (mup m 122 x3 v5, w32 (x3 + 1), w32 (x4 + 1))))
        else
          fQ_choose_83 m x1 x3 x4 (m 121 x4))
    else
      some (Sum.inr ((bAnd (m 122 0) 65535, m)))
  else
    some (Sum.inr ((bAnd (m 122 0) 65535, m)))
def fQ_choose_21 (m : aM) (x1 : Int) (x3 : Int) (x4 : Int) : Option (Int × aM) := aLoop (fQ_choose_21_b x1) FU (m, x3, x4)
set_option maxRecDepth 100000 in
theorem tQ_choose_21 (r : aR) (m : aM) (x1 : Int) (x3 : Int) (x4 : Int) (hx1 : ck x1) (z5 : aV) : aT PB 6 125 r (fun w => r = (1, (0, w.1), w.2, XX)) (fQ_choose_21 m x1 x3 x4) (21, [(12, 21), (11, x1), (14, 12), (0, x3), (0, x4), z5], [], m, XX) := by
  have hD : aMd PB 125 = d_Q_choose := rfl
  refine T_loop (Hd := (hQ_choose_21 x1)) ?_ FU _ _ ⟨z5, rfl⟩
  clear m x3 x4 z5
  intro y c hc
  obtain ⟨m, x3, x4⟩ := y
  obtain ⟨z5, rfl⟩ := hc
  unfold fQ_choose_21_b
  try dsimp only
  refine T_run hD 3 (c' := (27, [(12, 21), (11, x1), (14, 12), (0, x3), (0, x4), z5], [(0, m 21 3), (0, x4)], m, XX)) rfl ?_
  refine T_if hD (c1 := (30, _, _, _, _)) (c2 := (157, _, _, _, _)) rfl (fun _ => ?_) (fun _ => ?_)
  · refine T_run hD 4 (c' := (37, [(12, 21), (11, x1), (14, 12), (0, x3), (0, x4), z5], [(0, 96), (0, x4)], m, XX)) rfl ?_
    refine T_if hD (c1 := (40, _, _, _, _)) (c2 := (157, _, _, _, _)) rfl (fun _ => ?_) (fun _ => ?_)
    · refine T_run hD 3 (c' := (46, [(12, 21), (11, x1), (14, 12), (0, x3), (0, x4), z5], [(0, x4), (31, 121)], m, XX)) rfl ?_
      refine T_gd hD (c1 := (47, [(12, 21), (11, x1), (14, 12), (0, x3), (0, x4), z5], [(0, m 121 x4)], m, XX)) rfl (fun g1 => ?_)
      refine T_run hD 2 (c' := (51, [(12, 21), (11, x1), (14, 12), (0, x3), (0, x4), (0, m 121 x4)], [(0, m 121 x4)], m, XX)) rfl ?_
      refine T_if hD (c1 := (83, _, _, _, _)) (c2 := (54, _, _, _, _)) rfl (fun _ => ?_) (fun _ => ?_)
      · exact tQ_choose_83 r m x1 x3 x4 (m 121 x4) hx1 
      · refine T_run hD 4 (c' := (60, [(12, 21), (11, x1), (14, 12), (0, x3), (0, x4), (0, m 121 x4)], [(0, 96), (0, x3)], m, XX)) rfl ?_
        refine T_if hD (c1 := (63, _, _, _, _)) (c2 := (83, _, _, _, _)) rfl (fun _ => ?_) (fun _ => ?_)
        · refine T_run hD 7 (c' := (73, [(12, 21), (11, x1), (14, 12), (0, x3), (0, x4), (0, m 121 x4)], [(14, 12), (11, x1), (0, m 121 x4), (12, 21), (0, x3), (31, 122)], m, XX)) rfl ?_
          refine T_call hD (D2 := d_Q_truthOf) (q2 := 128) (as := [(12, 21), (0, m 121 x4), (11, x1), (14, 12)]) (c1 := (76, [(12, 21), (11, x1), (14, 12), (0, x3), (0, x4), (0, m 121 x4)], [(0, x3), (31, 122)], m, XX)) (mk := fun w => (1, (0, w), m, XX)) (cc := fun v5 => (76, [(12, 21), (11, x1), (14, 12), (0, x3), (0, x4), (0, m 121 x4)], [(0, v5), (0, x3), (31, 122)], m, XX)) rfl rfl (fun y9 h9y => Go.mono (tQ_truthOf m (m 121 x4) x1 hx1 y9 h9y) (by decide)) (fun _ => rfl) (fun v5 => ?_)
          refine T_gd hD (c1 := (77, [(12, 21), (11, x1), (14, 12), (0, x3), (0, x4), (0, m 121 x4)], [], mup m 122 x3 v5, XX)) rfl (fun g6 => ?_)
          refine T_run hD 4 (c' := (21, [(12, 21), (11, x1), (14, 12), (0, w32 (x3 + 1)), (0, w32 (x4 + 1)), (0, m 121 x4)], [], mup m 122 x3 v5, XX)) rfl ?_
          exact T_back0 ⟨_, rfl⟩
        · exact tQ_choose_83 r m x1 x3 x4 (m 121 x4) hx1 
    · refine T_run hD 6 (c' := (166, [(12, 21), (11, x1), (14, 12), (0, x3), (0, x4), z5], [(0, bAnd (m 122 0) 65535)], m, XX)) rfl ?_
      exact T_fin hD rfl (fun h => h)
  · refine T_run hD 6 (c' := (166, [(12, 21), (11, x1), (14, 12), (0, x3), (0, x4), z5], [(0, bAnd (m 122 0) 65535)], m, XX)) rfl ?_
    exact T_fin hD rfl (fun h => h)
def fQ_choose (m : aM) (x1 : Int) : Option (Int × aM) :=
  if m 21 3 = 0 then
    some ((w32 ((bShl 1 (m 12 7)) - 1), m))
  else
    fQ_choose_21 m x1 0 0
set_option maxRecDepth 100000 in
theorem tQ_choose (m : aM) (x1 : Int) (hx1 : ck x1) : ∀ v, fQ_choose m x1 = some v → Go PB 6 125 (aEnt d_Q_choose [(12, 21), (11, x1), (14, 12)] m XX) (1, (0, v.1), v.2, XX) := by
  intro v hv
  have hD : aMd PB 125 = d_Q_choose := rfl
  obtain ⟨r, hr⟩ : ∃ r : aR, r = (1, (0, v.1), v.2, XX) := ⟨_, rfl⟩
  have h9 : aT PB 6 125 r (fun w => r = (1, (0, w.1), w.2, XX)) (fQ_choose m x1) (0, [(12, 21), (11, x1), (14, 12), (99, 0), (99, 0), (99, 0)], [], m, XX) := by
    unfold fQ_choose
    refine T_run hD 2 (c' := (4, [(12, 21), (11, x1), (14, 12), (99, 0), (99, 0), (99, 0)], [(0, m 21 3)], m, XX)) rfl ?_
    refine T_if hD (c1 := (7, _, _, _, _)) (c2 := (16, _, _, _, _)) rfl (fun _ => ?_) (fun _ => ?_)
    · refine T_run hD 6 (c' := (15, [(12, 21), (11, x1), (14, 12), (99, 0), (99, 0), (99, 0)], [(0, w32 ((bShl 1 (m 12 7)) - 1))], m, XX)) rfl ?_
      exact T_fin hD rfl (fun h => h)
    · refine T_run hD 4 (c' := (21, [(12, 21), (11, x1), (14, 12), (0, 0), (0, 0), (99, 0)], [], m, XX)) rfl ?_
      exact tQ_choose_21 r m x1 0 0 hx1 (99, 0)
  rw [← hr]
  exact h9 v hv hr
abbrev hA_take_31 (x2 : Int) : (aM × Int) → aC → Prop := fun y c => ∃ (z1 : aV), c = (31, [(10, 123), z1, (0, x2), (0, (y.2))], [], (y.1), XX)
def fA_take_31_b (x2 : Int) : (aM × Int) → Option ((aM × Int) ⊕ aM) := fun (m, x3) =>
  if x3 < 16 then
    if bAnd x2 (bShl 1 x3) = 0 then
      some (Sum.inl (m, w32 (x3 + 1)))
    else
      gd (0 ≤ m 123 5 ∧ m 123 5 < 16) (
      some (Sum.inl (mup (mup m 124 (m 123 5) x3) 123 5 (w32 ((m 123 5) + 1)), w32 (x3 + 1))))
  else
    some (Sum.inr (m))
def fA_take_31 (m : aM) (x2 : Int) (x3 : Int) : Option aM := aLoop (fA_take_31_b x2) FU (m, x3)
set_option maxRecDepth 100000 in
theorem tA_take_31 (r : aR) (m : aM) (x2 : Int) (x3 : Int) (z1 : aV) : aT PB 1 95 r (fun w => r = (0, (0, 0), w, XX)) (fA_take_31 m x2 x3) (31, [(10, 123), z1, (0, x2), (0, x3)], [], m, XX) := by
  have hD : aMd PB 95 = d_A_take := rfl
  refine T_loop (Hd := (hA_take_31 x2)) ?_ FU _ _ ⟨z1, rfl⟩
  clear m x3 z1
  intro y c hc
  obtain ⟨m, x3⟩ := y
  obtain ⟨z1, rfl⟩ := hc
  unfold fA_take_31_b
  try dsimp only
  refine T_run hD 2 (c' := (34, [(10, 123), z1, (0, x2), (0, x3)], [(0, 16), (0, x3)], m, XX)) rfl ?_
  refine T_if hD (c1 := (37, _, _, _, _)) (c2 := (71, _, _, _, _)) rfl (fun _ => ?_) (fun _ => ?_)
  · refine T_run hD 5 (c' := (42, [(10, 123), z1, (0, x2), (0, x3)], [(0, bAnd x2 (bShl 1 x3))], m, XX)) rfl ?_
    refine T_if hD (c1 := (65, _, _, _, _)) (c2 := (45, _, _, _, _)) rfl (fun _ => ?_) (fun _ => ?_)
    · refine T_run hD 2 (c' := (31, [(10, 123), z1, (0, x2), (0, w32 (x3 + 1))], [], m, XX)) rfl ?_
      exact T_back0 ⟨_, rfl⟩
    · refine T_run hD 5 (c' := (54, [(10, 123), z1, (0, x2), (0, x3)], [(0, x3), (0, m 123 5), (31, 124)], m, XX)) rfl ?_
      refine T_gd hD (c1 := (55, [(10, 123), z1, (0, x2), (0, x3)], [], mup m 124 (m 123 5) x3, XX)) rfl (fun g1 => ?_)
      refine T_run hD 8 (c' := (31, [(10, 123), z1, (0, x2), (0, w32 (x3 + 1))], [], mup (mup m 124 (m 123 5) x3) 123 5 (w32 ((m 123 5) + 1)), XX)) rfl ?_
      exact T_back0 ⟨_, rfl⟩
  · exact T_fin hD rfl (fun h => h)
def fA_take (m : aM) (x2 : Int) : Option aM :=
  fA_take_31 (mup (mup (mup (mup m 123 1 (m 21 6)) 123 2 (m 21 7)) 123 3 (m 21 8)) 123 5 0) x2 0
set_option maxRecDepth 100000 in
theorem tA_take (m : aM) (x2 : Int) : ∀ v, fA_take m x2 = some v → Go PB 1 95 (aEnt d_A_take [(10, 123), (12, 21), (0, x2)] m XX) (0, (0, 0), v, XX) := by
  intro v hv
  have hD : aMd PB 95 = d_A_take := rfl
  obtain ⟨r, hr⟩ : ∃ r : aR, r = (0, (0, 0), v, XX) := ⟨_, rfl⟩
  have h9 : aT PB 1 95 r (fun w => r = (0, (0, 0), w, XX)) (fA_take m x2) (0, [(10, 123), (12, 21), (0, x2), (99, 0)], [], m, XX) := by
    unfold fA_take
    refine T_run hD 17 (c' := (31, [(10, 123), (12, 21), (0, x2), (0, 0)], [], mup (mup (mup (mup m 123 1 (m 21 6)) 123 2 (m 21 7)) 123 3 (m 21 8)) 123 5 0, XX)) rfl ?_
    exact tA_take_31 r (mup (mup (mup (mup m 123 1 (m 21 6)) 123 2 (m 21 7)) 123 3 (m 21 8)) 123 5 0) x2 0 (12, 21)
  rw [← hr]
  exact h9 v hv hr
abbrev hA_sortRows_13 (x3 : Int) : (aM × Int) → aC → Prop := fun y c => ∃ (z2 : aV) (z5 : aV) (z6 : aV), c = (13, [(10, 123), (14, 12), z2, (0, x3), (0, (y.2)), z5, z6], [], (y.1), XX)
abbrev hA_sortRows_43 (x3 : Int) (x4 : Int) (x5 : Int) : (aM × Int) → aC → Prop := fun y c => ∃ (z2 : aV), c = (43, [(10, 123), (14, 12), z2, (0, x3), (0, x4), (0, x5), (0, (y.2))], [], (y.1), XX)
def fA_sortRows_43_b (x3 : Int) (x4 : Int) (x5 : Int) : (aM × Int) → Option ((aM × Int) ⊕ ((aM × Int) ⊕ aM)) := fun (m, x6) =>
  if 0 < x6 then
    gd (0 ≤ w32 (x6 - 1) ∧ w32 (x6 - 1) < 16) (
    (fT_compareRows m x5 (m 124 (w32 (x6 - 1))) (m 123 3)).bind fun v3 =>
    if w32 (x3 * v3) < 0 then
      gd (0 ≤ x6 ∧ x6 < 16) (
      some (Sum.inl (mup m 124 x6 (m 124 (w32 (x6 - 1))), w32 (x6 + (-1)))))
    else
      gd (0 ≤ x6 ∧ x6 < 16) (
      some (Sum.inr (Sum.inl (mup m 124 x6 x5, w32 (x4 + 1))))))
  else
    gd (0 ≤ x6 ∧ x6 < 16) (
    some (Sum.inr (Sum.inl (mup m 124 x6 x5, w32 (x4 + 1)))))
def fA_sortRows_43 (m : aM) (x3 : Int) (x4 : Int) (x5 : Int) (x6 : Int) : Option ((aM × Int) ⊕ aM) := aLoop (fA_sortRows_43_b x3 x4 x5) FU (m, x6)
set_option maxRecDepth 100000 in
theorem tA_sortRows_43 (r : aR) (m : aM) (x3 : Int) (x4 : Int) (x5 : Int) (x6 : Int) (z2 : aV) : aT PB 5 96 r (aTurn PB 5 96 r (hA_sortRows_13 x3) (fun w => r = (0, (0, 0), w, XX))) (fA_sortRows_43 m x3 x4 x5 x6) (43, [(10, 123), (14, 12), z2, (0, x3), (0, x4), (0, x5), (0, x6)], [], m, XX) := by
  have hD : aMd PB 96 = d_A_sortRows := rfl
  refine T_loop (Hd := (hA_sortRows_43 x3 x4 x5)) ?_ FU _ _ ⟨z2, rfl⟩
  clear m x6 z2
  intro y c hc
  obtain ⟨m, x6⟩ := y
  obtain ⟨z2, rfl⟩ := hc
  unfold fA_sortRows_43_b
  try dsimp only
  refine T_run hD 1 (c' := (45, [(10, 123), (14, 12), z2, (0, x3), (0, x4), (0, x5), (0, x6)], [(0, x6)], m, XX)) rfl ?_
  refine T_if hD (c1 := (48, _, _, _, _)) (c2 := (94, _, _, _, _)) rfl (fun _ => ?_) (fun _ => ?_)
  · refine T_run hD 8 (c' := (60, [(10, 123), (14, 12), z2, (0, x3), (0, x4), (0, x5), (0, x6)], [(0, w32 (x6 - 1)), (31, 124), (0, x5), (14, 12), (0, x3)], m, XX)) rfl ?_
    refine T_gd hD (c1 := (61, [(10, 123), (14, 12), z2, (0, x3), (0, x4), (0, x5), (0, x6)], [(0, m 124 (w32 (x6 - 1))), (0, x5), (14, 12), (0, x3)], m, XX)) rfl (fun g2 => ?_)
    refine T_run hD 2 (c' := (65, [(10, 123), (14, 12), z2, (0, x3), (0, x4), (0, x5), (0, x6)], [(0, m 123 3), (0, m 124 (w32 (x6 - 1))), (0, x5), (14, 12), (0, x3)], m, XX)) rfl ?_
    refine T_call hD (D2 := d_T_compareRows) (q2 := 161) (as := [(14, 12), (0, x5), (0, m 124 (w32 (x6 - 1))), (0, m 123 3)]) (c1 := (68, [(10, 123), (14, 12), z2, (0, x3), (0, x4), (0, x5), (0, x6)], [(0, x3)], m, XX)) (mk := fun w => (1, (0, w), m, XX)) (cc := fun v3 => (68, [(10, 123), (14, 12), z2, (0, x3), (0, x4), (0, x5), (0, x6)], [(0, v3), (0, x3)], m, XX)) rfl rfl (fun y9 h9y => Go.mono (tT_compareRows m x5 (m 124 (w32 (x6 - 1))) (m 123 3) y9 h9y) (by decide)) (fun _ => rfl) (fun v3 => ?_)
    refine T_run hD 1 (c' := (69, [(10, 123), (14, 12), z2, (0, x3), (0, x4), (0, x5), (0, x6)], [(0, w32 (x3 * v3))], m, XX)) rfl ?_
    refine T_if hD (c1 := (72, _, _, _, _)) (c2 := (94, _, _, _, _)) rfl (fun _ => ?_) (fun _ => ?_)
    · refine T_run hD 8 (c' := (86, [(10, 123), (14, 12), z2, (0, x3), (0, x4), (0, x5), (0, x6)], [(0, w32 (x6 - 1)), (31, 124), (0, x6), (31, 124)], m, XX)) rfl ?_
      refine T_gk hD (c1 := (87, [(10, 123), (14, 12), z2, (0, x3), (0, x4), (0, x5), (0, x6)], [(0, m 124 (w32 (x6 - 1))), (0, x6), (31, 124)], m, XX)) (P := 0 ≤ w32 (x6 - 1) ∧ w32 (x6 - 1) < 16) rfl g2 ?_
      refine T_gd hD (c1 := (88, [(10, 123), (14, 12), z2, (0, x3), (0, x4), (0, x5), (0, x6)], [], mup m 124 x6 (m 124 (w32 (x6 - 1))), XX)) rfl (fun g4 => ?_)
      refine T_run hD 2 (c' := (43, [(10, 123), (14, 12), z2, (0, x3), (0, x4), (0, x5), (0, w32 (x6 + (-1)))], [], mup m 124 x6 (m 124 (w32 (x6 - 1))), XX)) rfl ?_
      exact T_back0 ⟨_, rfl⟩
    · refine T_run hD 4 (c' := (102, [(10, 123), (14, 12), z2, (0, x3), (0, x4), (0, x5), (0, x6)], [(0, x5), (0, x6), (31, 124)], m, XX)) rfl ?_
      refine T_gd hD (c1 := (103, [(10, 123), (14, 12), z2, (0, x3), (0, x4), (0, x5), (0, x6)], [], mup m 124 x6 x5, XX)) rfl (fun g5 => ?_)
      refine T_run hD 2 (c' := (13, [(10, 123), (14, 12), z2, (0, x3), (0, w32 (x4 + 1)), (0, x5), (0, x6)], [], mup m 124 x6 x5, XX)) rfl ?_
      exact T_back1 ⟨_, _, _, rfl⟩
  · refine T_run hD 4 (c' := (102, [(10, 123), (14, 12), z2, (0, x3), (0, x4), (0, x5), (0, x6)], [(0, x5), (0, x6), (31, 124)], m, XX)) rfl ?_
    refine T_gd hD (c1 := (103, [(10, 123), (14, 12), z2, (0, x3), (0, x4), (0, x5), (0, x6)], [], mup m 124 x6 x5, XX)) rfl (fun g6 => ?_)
    refine T_run hD 2 (c' := (13, [(10, 123), (14, 12), z2, (0, x3), (0, w32 (x4 + 1)), (0, x5), (0, x6)], [], mup m 124 x6 x5, XX)) rfl ?_
    exact T_back1 ⟨_, _, _, rfl⟩
def fA_sortRows_13_b (x3 : Int) : (aM × Int) → Option ((aM × Int) ⊕ aM) := fun (m, x4) =>
  if m 123 3 = (-1) then
    some (Sum.inr (m))
  else
    if x4 < m 123 5 then
      gd (0 ≤ x4 ∧ x4 < 16) (
      fA_sortRows_43 m x3 x4 (m 124 x4) x4)
    else
      some (Sum.inr (m))
def fA_sortRows_13 (m : aM) (x3 : Int) (x4 : Int) : Option aM := aLoop (fA_sortRows_13_b x3) FU (m, x4)
set_option maxRecDepth 100000 in
theorem tA_sortRows_13 (r : aR) (m : aM) (x3 : Int) (x4 : Int) (z2 : aV) (z5 : aV) (z6 : aV) : aT PB 5 96 r (fun w => r = (0, (0, 0), w, XX)) (fA_sortRows_13 m x3 x4) (13, [(10, 123), (14, 12), z2, (0, x3), (0, x4), z5, z6], [], m, XX) := by
  have hD : aMd PB 96 = d_A_sortRows := rfl
  refine T_loop (Hd := (hA_sortRows_13 x3)) ?_ FU _ _ ⟨z2, z5, z6, rfl⟩
  clear m x4 z2 z5 z6
  intro y c hc
  obtain ⟨m, x4⟩ := y
  obtain ⟨z2, z5, z6, rfl⟩ := hc
  unfold fA_sortRows_13_b
  try dsimp only
  refine T_run hD 3 (c' := (18, [(10, 123), (14, 12), z2, (0, x3), (0, x4), z5, z6], [(0, (-1)), (0, m 123 3)], m, XX)) rfl ?_
  refine T_if hD (c1 := (109, _, _, _, _)) (c2 := (21, _, _, _, _)) rfl (fun _ => ?_) (fun _ => ?_)
  · exact T_fin hD rfl (fun h => h)
  · refine T_run hD 3 (c' := (27, [(10, 123), (14, 12), z2, (0, x3), (0, x4), z5, z6], [(0, m 123 5), (0, x4)], m, XX)) rfl ?_
    refine T_if hD (c1 := (30, _, _, _, _)) (c2 := (109, _, _, _, _)) rfl (fun _ => ?_) (fun _ => ?_)
    · refine T_run hD 3 (c' := (36, [(10, 123), (14, 12), z2, (0, x3), (0, x4), z5, z6], [(0, x4), (31, 124)], m, XX)) rfl ?_
      refine T_gd hD (c1 := (37, [(10, 123), (14, 12), z2, (0, x3), (0, x4), z5, z6], [(0, m 124 x4)], m, XX)) rfl (fun g1 => ?_)
      refine T_run hD 3 (c' := (43, [(10, 123), (14, 12), z2, (0, x3), (0, x4), (0, m 124 x4), (0, x4)], [], m, XX)) rfl ?_
      exact tA_sortRows_43 r m x3 x4 (m 124 x4) x4 z2
    · exact T_fin hD rfl (fun h => h)
def fA_sortRows (m : aM) (x2 : Int) : Option aM :=
  if x2 = 0 then
    fA_sortRows_13 m 1 1
  else
    fA_sortRows_13 m (-1) 1
set_option maxRecDepth 100000 in
theorem tA_sortRows (m : aM) (x2 : Int) : ∀ v, fA_sortRows m x2 = some v → Go PB 5 96 (aEnt d_A_sortRows [(10, 123), (14, 12), (0, x2)] m XX) (0, (0, 0), v, XX) := by
  intro v hv
  have hD : aMd PB 96 = d_A_sortRows := rfl
  obtain ⟨r, hr⟩ : ∃ r : aR, r = (0, (0, 0), v, XX) := ⟨_, rfl⟩
  have h9 : aT PB 5 96 r (fun w => r = (0, (0, 0), w, XX)) (fA_sortRows m x2) (0, [(10, 123), (14, 12), (0, x2), (99, 0), (99, 0), (99, 0), (99, 0)], [], m, XX) := by
    unfold fA_sortRows
    refine T_run hD 1 (c' := (1, [(10, 123), (14, 12), (0, x2), (99, 0), (99, 0), (99, 0), (99, 0)], [(0, x2)], m, XX)) rfl ?_
    refine T_if hD (c1 := (8, _, _, _, _)) (c2 := (4, _, _, _, _)) rfl (fun _ => ?_) (fun _ => ?_)
    · refine T_run hD 4 (c' := (13, [(10, 123), (14, 12), (0, x2), (0, 1), (0, 1), (99, 0), (99, 0)], [], m, XX)) rfl ?_
      exact tA_sortRows_13 r m 1 1 (0, x2) (99, 0) (99, 0)
    · refine T_run hD 5 (c' := (13, [(10, 123), (14, 12), (0, x2), (0, (-1)), (0, 1), (99, 0), (99, 0)], [], m, XX)) rfl ?_
      exact tA_sortRows_13 r m (-1) 1 (0, x2) (99, 0) (99, 0)
  rw [← hr]
  exact h9 v hv hr
abbrev hA_sumUp_17 (x1 : Int) (x3 : Int) : (aM × Int) → aC → Prop := fun y c => ∃ (z2 : aV) (z6 : aV) (z7 : aV) (z8 : aV) (z9 : aV), c = (17, [(10, 123), (0, x1), z2, (0, x3), (14, 12), (0, (y.2)), z6, z7, z8, z9], [], (y.1), XX)
def fA_sumUp_107 (m : aM) (x1 : Int) (x3 : Int) (x5 : Int) (x8 : Int) : Option ((aM × Int) ⊕ (Int × aM)) :=
  gd (0 ≤ x1 ∧ x1 < 16) (
  some (Sum.inl (mup (mup m 128 x1 x8) 129 x1 0, w32 (x5 + 1))))
set_option maxRecDepth 100000 in
theorem tA_sumUp_107 (r : aR) (m : aM) (x1 : Int) (x3 : Int) (x5 : Int) (x8 : Int) (z2 : aV) (z6 : aV) (z7 : aV) (z9 : aV) : aT PB 3 104 r (aTurn PB 3 104 r (hA_sumUp_17 x1 x3) (fun w => r = (1, (0, w.1), w.2, XX))) (fA_sumUp_107 m x1 x3 x5 x8) (107, [(10, 123), (0, x1), z2, (0, x3), (14, 12), (0, x5), z6, z7, (1, x8), z9], [], m, XX) := by
  have hD : aMd PB 104 = d_A_sumUp := rfl
  unfold fA_sumUp_107
  refine T_run hD 4 (c' := (114, [(10, 123), (0, x1), z2, (0, x3), (14, 12), (0, x5), z6, z7, (1, x8), z9], [(1, x8), (0, x1), (32, 128)], m, XX)) rfl ?_
  refine T_gd hD (c1 := (115, [(10, 123), (0, x1), z2, (0, x3), (14, 12), (0, x5), z6, z7, (1, x8), z9], [], mup m 128 x1 x8, XX)) rfl (fun g6 => ?_)
  refine T_run hD 4 (c' := (121, [(10, 123), (0, x1), z2, (0, x3), (14, 12), (0, x5), z6, z7, (1, x8), z9], [(0, 0), (0, x1), (33, 129)], mup m 128 x1 x8, XX)) rfl ?_
  refine T_gk hD (c1 := (122, [(10, 123), (0, x1), z2, (0, x3), (14, 12), (0, x5), z6, z7, (1, x8), z9], [], mup (mup m 128 x1 x8) 129 x1 0, XX)) (P := 0 ≤ x1 ∧ x1 < 16) rfl g6 ?_
  refine T_run hD 2 (c' := (17, [(10, 123), (0, x1), z2, (0, x3), (14, 12), (0, w32 (x5 + 1)), z6, z7, (1, x8), z9], [], mup (mup m 128 x1 x8) 129 x1 0, XX)) rfl ?_
  exact T_back0 ⟨_, _, _, _, _, rfl⟩
def fA_sumUp_17_b (x1 : Int) (x3 : Int) : (aM × Int) → Option ((aM × Int) ⊕ (Int × aM)) := fun (m, x5) =>
  if x5 < x3 then
    gd (0 ≤ x5 ∧ x5 < 16) (
    (fT_lacks m (m 124 x5) (m 123 2)).bind fun v3 =>
    if v3 = 0 then
      (fT_valueAt m (m 124 x5) (m 123 2)).bind fun v4 =>
      gd (0 ≤ x1 ∧ x1 < 16) (
      if cmp3 v4 0 < 0 then
        if 0 < cmp3 (w64 ((m 128 x1) + v4)) (m 128 x1) then
          some (Sum.inr ((0, m)))
        else
          fA_sumUp_107 m x1 x3 x5 (w64 ((m 128 x1) + v4))
      else
        if cmp3 (w64 ((m 128 x1) + v4)) (m 128 x1) < 0 then
          some (Sum.inr ((0, m)))
        else
          fA_sumUp_107 m x1 x3 x5 (w64 ((m 128 x1) + v4)))
    else
      some (Sum.inl (m, w32 (x5 + 1))))
  else
    some (Sum.inr ((1, m)))
def fA_sumUp_17 (m : aM) (x1 : Int) (x3 : Int) (x5 : Int) : Option (Int × aM) := aLoop (fA_sumUp_17_b x1 x3) FU (m, x5)
set_option maxRecDepth 100000 in
theorem tA_sumUp_17 (r : aR) (m : aM) (x1 : Int) (x3 : Int) (x5 : Int) (z2 : aV) (z6 : aV) (z7 : aV) (z8 : aV) (z9 : aV) : aT PB 3 104 r (fun w => r = (1, (0, w.1), w.2, XX)) (fA_sumUp_17 m x1 x3 x5) (17, [(10, 123), (0, x1), z2, (0, x3), (14, 12), (0, x5), z6, z7, z8, z9], [], m, XX) := by
  have hD : aMd PB 104 = d_A_sumUp := rfl
  refine T_loop (Hd := (hA_sumUp_17 x1 x3)) ?_ FU _ _ ⟨z2, z6, z7, z8, z9, rfl⟩
  clear m x5 z2 z6 z7 z8 z9
  intro y c hc
  obtain ⟨m, x5⟩ := y
  obtain ⟨z2, z6, z7, z8, z9, rfl⟩ := hc
  unfold fA_sumUp_17_b
  try dsimp only
  refine T_run hD 2 (c' := (20, [(10, 123), (0, x1), z2, (0, x3), (14, 12), (0, x5), z6, z7, z8, z9], [(0, x3), (0, x5)], m, XX)) rfl ?_
  refine T_if hD (c1 := (23, _, _, _, _)) (c2 := (128, _, _, _, _)) rfl (fun _ => ?_) (fun _ => ?_)
  · refine T_run hD 4 (c' := (31, [(10, 123), (0, x1), z2, (0, x3), (14, 12), (0, x5), z6, z7, z8, z9], [(0, x5), (31, 124), (14, 12)], m, XX)) rfl ?_
    refine T_gd hD (c1 := (32, [(10, 123), (0, x1), z2, (0, x3), (14, 12), (0, x5), z6, z7, z8, z9], [(0, m 124 x5), (14, 12)], m, XX)) rfl (fun g2 => ?_)
    refine T_run hD 2 (c' := (36, [(10, 123), (0, x1), z2, (0, x3), (14, 12), (0, x5), z6, z7, z8, z9], [(0, m 123 2), (0, m 124 x5), (14, 12)], m, XX)) rfl ?_
    refine T_call hD (D2 := d_T_lacks) (q2 := 156) (as := [(14, 12), (0, m 124 x5), (0, m 123 2)]) (c1 := (39, [(10, 123), (0, x1), z2, (0, x3), (14, 12), (0, x5), z6, z7, z8, z9], [], m, XX)) (mk := fun w => (1, (0, w), m, XX)) (cc := fun v3 => (39, [(10, 123), (0, x1), z2, (0, x3), (14, 12), (0, x5), z6, z7, z8, z9], [(0, v3)], m, XX)) rfl rfl (fun y9 h9y => Go.mono (tT_lacks m (m 124 x5) (m 123 2) y9 h9y) (by decide)) (fun _ => rfl) (fun v3 => ?_)
    refine T_if hD (c1 := (42, _, _, _, _)) (c2 := (122, _, _, _, _)) rfl (fun _ => ?_) (fun _ => ?_)
    · refine T_run hD 4 (c' := (50, [(10, 123), (0, x1), z2, (0, x3), (14, 12), (0, x5), z6, z7, z8, z9], [(0, x5), (31, 124), (14, 12)], m, XX)) rfl ?_
      refine T_gk hD (c1 := (51, [(10, 123), (0, x1), z2, (0, x3), (14, 12), (0, x5), z6, z7, z8, z9], [(0, m 124 x5), (14, 12)], m, XX)) (P := 0 ≤ x5 ∧ x5 < 16) rfl g2 ?_
      refine T_run hD 2 (c' := (55, [(10, 123), (0, x1), z2, (0, x3), (14, 12), (0, x5), z6, z7, z8, z9], [(0, m 123 2), (0, m 124 x5), (14, 12)], m, XX)) rfl ?_
      refine T_call hD (D2 := d_T_valueAt) (q2 := 157) (as := [(14, 12), (0, m 124 x5), (0, m 123 2)]) (c1 := (58, [(10, 123), (0, x1), z2, (0, x3), (14, 12), (0, x5), z6, z7, z8, z9], [], m, XX)) (mk := fun w => (1, (1, w), m, XX)) (cc := fun v4 => (58, [(10, 123), (0, x1), z2, (0, x3), (14, 12), (0, x5), z6, z7, z8, z9], [(1, v4)], m, XX)) rfl rfl (fun y9 h9y => Go.mono (tT_valueAt m (m 124 x5) (m 123 2) y9 h9y) (by decide)) (fun _ => rfl) (fun v4 => ?_)
      refine T_run hD 4 (c' := (65, [(10, 123), (0, x1), z2, (0, x3), (14, 12), (0, x5), (1, v4), (99, 0), z8, z9], [(0, x1), (32, 128)], m, XX)) rfl ?_
      refine T_gd hD (c1 := (66, [(10, 123), (0, x1), z2, (0, x3), (14, 12), (0, x5), (1, v4), (99, 0), z8, z9], [(1, m 128 x1)], m, XX)) rfl (fun g5 => ?_)
      refine T_run hD 6 (c' := (75, [(10, 123), (0, x1), z2, (0, x3), (14, 12), (0, x5), (1, v4), (99, 0), (1, w64 ((m 128 x1) + v4)), (99, 0)], [(0, cmp3 v4 0)], m, XX)) rfl ?_
      refine T_if hD (c1 := (78, _, _, _, _)) (c2 := (93, _, _, _, _)) rfl (fun _ => ?_) (fun _ => ?_)
      · refine T_run hD 4 (c' := (85, [(10, 123), (0, x1), z2, (0, x3), (14, 12), (0, x5), (1, v4), (99, 0), (1, w64 ((m 128 x1) + v4)), (99, 0)], [(0, x1), (32, 128), (1, w64 ((m 128 x1) + v4))], m, XX)) rfl ?_
        refine T_gk hD (c1 := (86, [(10, 123), (0, x1), z2, (0, x3), (14, 12), (0, x5), (1, v4), (99, 0), (1, w64 ((m 128 x1) + v4)), (99, 0)], [(1, m 128 x1), (1, w64 ((m 128 x1) + v4))], m, XX)) (P := 0 ≤ x1 ∧ x1 < 16) rfl g5 ?_
        refine T_run hD 1 (c' := (87, [(10, 123), (0, x1), z2, (0, x3), (14, 12), (0, x5), (1, v4), (99, 0), (1, w64 ((m 128 x1) + v4)), (99, 0)], [(0, cmp3 (w64 ((m 128 x1) + v4)) (m 128 x1))], m, XX)) rfl ?_
        refine T_if hD (c1 := (90, _, _, _, _)) (c2 := (107, _, _, _, _)) rfl (fun _ => ?_) (fun _ => ?_)
        · refine T_run hD 2 (c' := (106, [(10, 123), (0, x1), z2, (0, x3), (14, 12), (0, x5), (1, v4), (99, 0), (1, w64 ((m 128 x1) + v4)), (99, 0)], [(0, 0)], m, XX)) rfl ?_
          exact T_fin hD rfl (fun h => h)
        · exact tA_sumUp_107 r m x1 x3 x5 (w64 ((m 128 x1) + v4)) z2 (1, v4) (99, 0) (99, 0)
      · refine T_run hD 4 (c' := (100, [(10, 123), (0, x1), z2, (0, x3), (14, 12), (0, x5), (1, v4), (99, 0), (1, w64 ((m 128 x1) + v4)), (99, 0)], [(0, x1), (32, 128), (1, w64 ((m 128 x1) + v4))], m, XX)) rfl ?_
        refine T_gk hD (c1 := (101, [(10, 123), (0, x1), z2, (0, x3), (14, 12), (0, x5), (1, v4), (99, 0), (1, w64 ((m 128 x1) + v4)), (99, 0)], [(1, m 128 x1), (1, w64 ((m 128 x1) + v4))], m, XX)) (P := 0 ≤ x1 ∧ x1 < 16) rfl g5 ?_
        refine T_run hD 1 (c' := (102, [(10, 123), (0, x1), z2, (0, x3), (14, 12), (0, x5), (1, v4), (99, 0), (1, w64 ((m 128 x1) + v4)), (99, 0)], [(0, cmp3 (w64 ((m 128 x1) + v4)) (m 128 x1))], m, XX)) rfl ?_
        refine T_if hD (c1 := (105, _, _, _, _)) (c2 := (107, _, _, _, _)) rfl (fun _ => ?_) (fun _ => ?_)
        · refine T_run hD 1 (c' := (106, [(10, 123), (0, x1), z2, (0, x3), (14, 12), (0, x5), (1, v4), (99, 0), (1, w64 ((m 128 x1) + v4)), (99, 0)], [(0, 0)], m, XX)) rfl ?_
          exact T_fin hD rfl (fun h => h)
        · exact tA_sumUp_107 r m x1 x3 x5 (w64 ((m 128 x1) + v4)) z2 (1, v4) (99, 0) (99, 0)
    · refine T_run hD 2 (c' := (17, [(10, 123), (0, x1), z2, (0, x3), (14, 12), (0, w32 (x5 + 1)), z6, z7, z8, z9], [], m, XX)) rfl ?_
      exact T_back0 ⟨_, _, _, _, _, rfl⟩
  · refine T_run hD 1 (c' := (129, [(10, 123), (0, x1), z2, (0, x3), (14, 12), (0, x5), z6, z7, z8, z9], [(0, 1)], m, XX)) rfl ?_
    exact T_fin hD rfl (fun h => h)
def fA_sumUp (m : aM) (x1 : Int) (x2 : Int) (x3 : Int) : Option (Int × aM) :=
  gd (0 ≤ x1 ∧ x1 < 16) (
  fA_sumUp_17 (mup (mup m 128 x1 0) 129 x1 1) x1 x3 x2)
set_option maxRecDepth 100000 in
theorem tA_sumUp (m : aM) (x1 : Int) (x2 : Int) (x3 : Int) : ∀ v, fA_sumUp m x1 x2 x3 = some v → Go PB 3 104 (aEnt d_A_sumUp [(10, 123), (0, x1), (0, x2), (0, x3), (14, 12)] m XX) (1, (0, v.1), v.2, XX) := by
  intro v hv
  have hD : aMd PB 104 = d_A_sumUp := rfl
  obtain ⟨r, hr⟩ : ∃ r : aR, r = (1, (0, v.1), v.2, XX) := ⟨_, rfl⟩
  have h9 : aT PB 3 104 r (fun w => r = (1, (0, w.1), w.2, XX)) (fA_sumUp m x1 x2 x3) (0, [(10, 123), (0, x1), (0, x2), (0, x3), (14, 12), (99, 0), (99, 0), (99, 0), (99, 0), (99, 0)], [], m, XX) := by
    unfold fA_sumUp
    refine T_run hD 4 (c' := (6, [(10, 123), (0, x1), (0, x2), (0, x3), (14, 12), (99, 0), (99, 0), (99, 0), (99, 0), (99, 0)], [(1, 0), (0, x1), (32, 128)], m, XX)) rfl ?_
    refine T_gd hD (c1 := (7, [(10, 123), (0, x1), (0, x2), (0, x3), (14, 12), (99, 0), (99, 0), (99, 0), (99, 0), (99, 0)], [], mup m 128 x1 0, XX)) rfl (fun g1 => ?_)
    refine T_run hD 4 (c' := (13, [(10, 123), (0, x1), (0, x2), (0, x3), (14, 12), (99, 0), (99, 0), (99, 0), (99, 0), (99, 0)], [(0, 1), (0, x1), (33, 129)], mup m 128 x1 0, XX)) rfl ?_
    refine T_gk hD (c1 := (14, [(10, 123), (0, x1), (0, x2), (0, x3), (14, 12), (99, 0), (99, 0), (99, 0), (99, 0), (99, 0)], [], mup (mup m 128 x1 0) 129 x1 1, XX)) (P := 0 ≤ x1 ∧ x1 < 16) rfl g1 ?_
    refine T_run hD 2 (c' := (17, [(10, 123), (0, x1), (0, x2), (0, x3), (14, 12), (0, x2), (99, 0), (99, 0), (99, 0), (99, 0)], [], mup (mup m 128 x1 0) 129 x1 1, XX)) rfl ?_
    exact tA_sumUp_17 r (mup (mup m 128 x1 0) 129 x1 1) x1 x3 x2 (0, x2) (99, 0) (99, 0) (99, 0) (99, 0)
  rw [← hr]
  exact h9 v hv hr
abbrev hA_findBest_6 (m : aM) (x1 : Int) (x3 : Int) : (Int × Int) → aC → Prop := fun y c => ∃ (z2 : aV) (z7 : aV), c = (6, [(10, 123), (0, x1), z2, (0, x3), (14, 12), (0, (y.1)), (0, (y.2)), z7], [], m, XX)
def fA_findBest_66 (m : aM) (x1 : Int) (x3 : Int) (x5 : Int) (x6 : Int) (s0 : Int) : Option ((Int × Int) ⊕ aM) :=
  if x5 = (-1) then
    gd (0 ≤ x6 ∧ x6 < 16) (
    some (Sum.inl (m 124 x6, w32 (x6 + 1))))
  else
    if m 123 1 = 4 then
      if s0 < 0 then
        gd (0 ≤ x6 ∧ x6 < 16) (
        some (Sum.inl (m 124 x6, w32 (x6 + 1))))
      else
        some (Sum.inl (x5, w32 (x6 + 1)))
    else
      if 0 < s0 then
        gd (0 ≤ x6 ∧ x6 < 16) (
        some (Sum.inl (m 124 x6, w32 (x6 + 1))))
      else
        some (Sum.inl (x5, w32 (x6 + 1)))
set_option maxRecDepth 100000 in
theorem tA_findBest_66 (r : aR) (m : aM) (x1 : Int) (x3 : Int) (x5 : Int) (x6 : Int) (s0 : Int) (z2 : aV) (z7 : aV) : aT PB 4 105 r (aTurn PB 4 105 r (hA_findBest_6 m x1 x3) (fun w => r = (0, (0, 0), w, XX))) (fA_findBest_66 m x1 x3 x5 x6 s0) (66, [(10, 123), (0, x1), z2, (0, x3), (14, 12), (0, x5), (0, x6), z7], [(0, s0)], m, XX) := by
  have hD : aMd PB 105 = d_A_findBest := rfl
  unfold fA_findBest_66
  refine T_run hD 3 (c' := (71, [(10, 123), (0, x1), z2, (0, x3), (14, 12), (0, x5), (0, x6), (0, s0)], [(0, (-1)), (0, x5)], m, XX)) rfl ?_
  refine T_if hD (c1 := (97, _, _, _, _)) (c2 := (74, _, _, _, _)) rfl (fun _ => ?_) (fun _ => ?_)
  · refine T_run hD 3 (c' := (103, [(10, 123), (0, x1), z2, (0, x3), (14, 12), (0, x5), (0, x6), (0, s0)], [(0, x6), (31, 124)], m, XX)) rfl ?_
    refine T_gd hD (c1 := (104, [(10, 123), (0, x1), z2, (0, x3), (14, 12), (0, x5), (0, x6), (0, s0)], [(0, m 124 x6)], m, XX)) rfl (fun g3 => ?_)
    refine T_run hD 3 (c' := (6, [(10, 123), (0, x1), z2, (0, x3), (14, 12), (0, m 124 x6), (0, w32 (x6 + 1)), (0, s0)], [], m, XX)) rfl ?_
    exact T_back0 ⟨_, _, rfl⟩
  · refine T_run hD 3 (c' := (81, [(10, 123), (0, x1), z2, (0, x3), (14, 12), (0, x5), (0, x6), (0, s0)], [(40, 4), (40, m 123 1)], m, XX)) rfl ?_
    refine T_if hD (c1 := (84, _, _, _, _)) (c2 := (92, _, _, _, _)) rfl (fun _ => ?_) (fun _ => ?_)
    · refine T_run hD 1 (c' := (86, [(10, 123), (0, x1), z2, (0, x3), (14, 12), (0, x5), (0, x6), (0, s0)], [(0, s0)], m, XX)) rfl ?_
      refine T_if hD (c1 := (89, _, _, _, _)) (c2 := (106, _, _, _, _)) rfl (fun _ => ?_) (fun _ => ?_)
      · refine T_run hD 4 (c' := (103, [(10, 123), (0, x1), z2, (0, x3), (14, 12), (0, x5), (0, x6), (0, s0)], [(0, x6), (31, 124)], m, XX)) rfl ?_
        refine T_gd hD (c1 := (104, [(10, 123), (0, x1), z2, (0, x3), (14, 12), (0, x5), (0, x6), (0, s0)], [(0, m 124 x6)], m, XX)) rfl (fun g4 => ?_)
        refine T_run hD 3 (c' := (6, [(10, 123), (0, x1), z2, (0, x3), (14, 12), (0, m 124 x6), (0, w32 (x6 + 1)), (0, s0)], [], m, XX)) rfl ?_
        exact T_back0 ⟨_, _, rfl⟩
      · refine T_run hD 2 (c' := (6, [(10, 123), (0, x1), z2, (0, x3), (14, 12), (0, x5), (0, w32 (x6 + 1)), (0, s0)], [], m, XX)) rfl ?_
        exact T_back0 ⟨_, _, rfl⟩
    · refine T_run hD 1 (c' := (94, [(10, 123), (0, x1), z2, (0, x3), (14, 12), (0, x5), (0, x6), (0, s0)], [(0, s0)], m, XX)) rfl ?_
      refine T_if hD (c1 := (97, _, _, _, _)) (c2 := (106, _, _, _, _)) rfl (fun _ => ?_) (fun _ => ?_)
      · refine T_run hD 3 (c' := (103, [(10, 123), (0, x1), z2, (0, x3), (14, 12), (0, x5), (0, x6), (0, s0)], [(0, x6), (31, 124)], m, XX)) rfl ?_
        refine T_gd hD (c1 := (104, [(10, 123), (0, x1), z2, (0, x3), (14, 12), (0, x5), (0, x6), (0, s0)], [(0, m 124 x6)], m, XX)) rfl (fun g5 => ?_)
        refine T_run hD 3 (c' := (6, [(10, 123), (0, x1), z2, (0, x3), (14, 12), (0, m 124 x6), (0, w32 (x6 + 1)), (0, s0)], [], m, XX)) rfl ?_
        exact T_back0 ⟨_, _, rfl⟩
      · refine T_run hD 2 (c' := (6, [(10, 123), (0, x1), z2, (0, x3), (14, 12), (0, x5), (0, w32 (x6 + 1)), (0, s0)], [], m, XX)) rfl ?_
        exact T_back0 ⟨_, _, rfl⟩
def fA_findBest_136 (m : aM) (x1 : Int) (x5 : Int) (s0 : Int) (s1 : Int) (s2 : Int) : Option aM :=
  gd (s2 = 0 ∨ s2 = 1) (
  gd (0 ≤ s1 ∧ s1 < LEN s0) (
  (fT_valueAt (mup m s0 s1 s2) x5 ((mup m s0 s1 s2) 123 2)).bind fun v9 =>
  gd (0 ≤ x1 ∧ x1 < 16) (
  some (mup (mup m s0 s1 s2) 128 x1 v9))))
set_option maxRecDepth 100000 in
theorem tA_findBest_136 (r : aR) (m : aM) (x1 : Int) (x5 : Int) (s0 : Int) (s1 : Int) (s2 : Int) (z2 : aV) (z3 : aV) (z6 : aV) (z7 : aV) : aT PB 4 105 r (fun w => r = (0, (0, 0), w, XX)) (fA_findBest_136 m x1 x5 s0 s1 s2) (136, [(10, 123), (0, x1), z2, z3, (14, 12), (0, x5), z6, z7], [(0, s2), (0, s1), (33, s0)], m, XX) := by
  have hD : aMd PB 105 = d_A_findBest := rfl
  unfold fA_findBest_136
  refine T_gdd hD (c1 := (137, [(10, 123), (0, x1), z2, z3, (14, 12), (0, x5), z6, z7], [], mup m s0 s1 s2, XX)) rfl (fun _ g8 => ?_)
  refine T_run hD 7 (c' := (150, [(10, 123), (0, x1), z2, z3, (14, 12), (0, x5), z6, z7], [(0, (mup m s0 s1 s2) 123 2), (0, x5), (14, 12), (0, x1), (32, 128)], mup m s0 s1 s2, XX)) rfl ?_
  refine T_call hD (D2 := d_T_valueAt) (q2 := 157) (as := [(14, 12), (0, x5), (0, (mup m s0 s1 s2) 123 2)]) (c1 := (153, [(10, 123), (0, x1), z2, z3, (14, 12), (0, x5), z6, z7], [(0, x1), (32, 128)], mup m s0 s1 s2, XX)) (mk := fun w => (1, (1, w), mup m s0 s1 s2, XX)) (cc := fun v9 => (153, [(10, 123), (0, x1), z2, z3, (14, 12), (0, x5), z6, z7], [(1, v9), (0, x1), (32, 128)], mup m s0 s1 s2, XX)) rfl rfl (fun y9 h9y => Go.mono (tT_valueAt (mup m s0 s1 s2) x5 ((mup m s0 s1 s2) 123 2) y9 h9y) (by decide)) (fun _ => rfl) (fun v9 => ?_)
  refine T_gd hD (c1 := (154, [(10, 123), (0, x1), z2, z3, (14, 12), (0, x5), z6, z7], [], mup (mup m s0 s1 s2) 128 x1 v9, XX)) rfl (fun g10 => ?_)
  exact T_fin hD rfl (fun h => h)
def fA_findBest_6_b (m : aM) (x1 : Int) (x3 : Int) : (Int × Int) → Option ((Int × Int) ⊕ aM) := fun (x5, x6) =>
  if x6 < x3 then
    gd (0 ≤ x6 ∧ x6 < 16) (
    (fT_lacks m (m 124 x6) (m 123 2)).bind fun v2 =>
    if v2 = 0 then
      if x5 = (-1) then
        fA_findBest_66 m x1 x3 x5 x6 0
      else
        (fT_compareCells m (m 124 x6) (m 123 2) x5 (m 123 2)).bind fun v6 =>
        fA_findBest_66 m x1 x3 x5 x6 v6
    else
      some (Sum.inl (x5, w32 (x6 + 1))))
  else
    gd (0 ≤ x1 ∧ x1 < 16) (
    if x5 = (-1) then
      (fA_findBest_136 (mup m 127 x1 x5) x1 x5 129 x1 1).map Sum.inr
    else
      (fA_findBest_136 (mup m 127 x1 x5) x1 x5 129 x1 0).map Sum.inr)
def fA_findBest_6 (m : aM) (x1 : Int) (x3 : Int) (x5 : Int) (x6 : Int) : Option aM := aLoop (fA_findBest_6_b m x1 x3) FU (x5, x6)
set_option maxRecDepth 100000 in
theorem tA_findBest_6 (r : aR) (m : aM) (x1 : Int) (x3 : Int) (x5 : Int) (x6 : Int) (z2 : aV) (z7 : aV) : aT PB 4 105 r (fun w => r = (0, (0, 0), w, XX)) (fA_findBest_6 m x1 x3 x5 x6) (6, [(10, 123), (0, x1), z2, (0, x3), (14, 12), (0, x5), (0, x6), z7], [], m, XX) := by
  have hD : aMd PB 105 = d_A_findBest := rfl
  refine T_loop (Hd := (hA_findBest_6 m x1 x3)) ?_ FU _ _ ⟨z2, z7, rfl⟩
  clear x5 x6 z2 z7
  intro y c hc
  obtain ⟨x5, x6⟩ := y
  obtain ⟨z2, z7, rfl⟩ := hc
  unfold fA_findBest_6_b
  try dsimp only
  refine T_run hD 2 (c' := (9, [(10, 123), (0, x1), z2, (0, x3), (14, 12), (0, x5), (0, x6), z7], [(0, x3), (0, x6)], m, XX)) rfl ?_
  refine T_if hD (c1 := (12, _, _, _, _)) (c2 := (112, _, _, _, _)) rfl (fun _ => ?_) (fun _ => ?_)
  · refine T_run hD 4 (c' := (20, [(10, 123), (0, x1), z2, (0, x3), (14, 12), (0, x5), (0, x6), z7], [(0, x6), (31, 124), (14, 12)], m, XX)) rfl ?_
    refine T_gd hD (c1 := (21, [(10, 123), (0, x1), z2, (0, x3), (14, 12), (0, x5), (0, x6), z7], [(0, m 124 x6), (14, 12)], m, XX)) rfl (fun g1 => ?_)
    refine T_run hD 2 (c' := (25, [(10, 123), (0, x1), z2, (0, x3), (14, 12), (0, x5), (0, x6), z7], [(0, m 123 2), (0, m 124 x6), (14, 12)], m, XX)) rfl ?_
    refine T_call hD (D2 := d_T_lacks) (q2 := 156) (as := [(14, 12), (0, m 124 x6), (0, m 123 2)]) (c1 := (28, [(10, 123), (0, x1), z2, (0, x3), (14, 12), (0, x5), (0, x6), z7], [], m, XX)) (mk := fun w => (1, (0, w), m, XX)) (cc := fun v2 => (28, [(10, 123), (0, x1), z2, (0, x3), (14, 12), (0, x5), (0, x6), z7], [(0, v2)], m, XX)) rfl rfl (fun y9 h9y => Go.mono (tT_lacks m (m 124 x6) (m 123 2) y9 h9y) (by decide)) (fun _ => rfl) (fun v2 => ?_)
    refine T_if hD (c1 := (34, _, _, _, _)) (c2 := (31, _, _, _, _)) rfl (fun _ => ?_) (fun _ => ?_)
    · refine T_run hD 2 (c' := (37, [(10, 123), (0, x1), z2, (0, x3), (14, 12), (0, x5), (0, x6), z7], [(0, (-1)), (0, x5)], m, XX)) rfl ?_
      refine T_if hD (c1 := (40, _, _, _, _)) (c2 := (44, _, _, _, _)) rfl (fun _ => ?_) (fun _ => ?_)
      · refine T_run hD 2 (c' := (66, [(10, 123), (0, x1), z2, (0, x3), (14, 12), (0, x5), (0, x6), z7], [(0, 0)], m, XX)) rfl ?_
        exact tA_findBest_66 r m x1 x3 x5 x6 0 z2 z7
      · refine T_run hD 4 (c' := (52, [(10, 123), (0, x1), z2, (0, x3), (14, 12), (0, x5), (0, x6), z7], [(0, x6), (31, 124), (14, 12)], m, XX)) rfl ?_
        refine T_gk hD (c1 := (53, [(10, 123), (0, x1), z2, (0, x3), (14, 12), (0, x5), (0, x6), z7], [(0, m 124 x6), (14, 12)], m, XX)) (P := 0 ≤ x6 ∧ x6 < 16) rfl g1 ?_
        refine T_run hD 5 (c' := (63, [(10, 123), (0, x1), z2, (0, x3), (14, 12), (0, x5), (0, x6), z7], [(0, m 123 2), (0, x5), (0, m 123 2), (0, m 124 x6), (14, 12)], m, XX)) rfl ?_
        refine T_call hD (D2 := d_T_compareCells) (q2 := 159) (as := [(14, 12), (0, m 124 x6), (0, m 123 2), (0, x5), (0, m 123 2)]) (c1 := (66, [(10, 123), (0, x1), z2, (0, x3), (14, 12), (0, x5), (0, x6), z7], [], m, XX)) (mk := fun w => (1, (0, w), m, XX)) (cc := fun v6 => (66, [(10, 123), (0, x1), z2, (0, x3), (14, 12), (0, x5), (0, x6), z7], [(0, v6)], m, XX)) rfl rfl (fun y9 h9y => Go.mono (tT_compareCells m (m 124 x6) (m 123 2) x5 (m 123 2) y9 h9y) (by decide)) (fun _ => rfl) (fun v6 => ?_)
        exact tA_findBest_66 r m x1 x3 x5 x6 v6 z2 z7
    · refine T_run hD 3 (c' := (6, [(10, 123), (0, x1), z2, (0, x3), (14, 12), (0, x5), (0, w32 (x6 + 1)), z7], [], m, XX)) rfl ?_
      exact T_back0 ⟨_, _, rfl⟩
  · refine T_run hD 4 (c' := (119, [(10, 123), (0, x1), z2, (0, x3), (14, 12), (0, x5), (0, x6), z7], [(0, x5), (0, x1), (31, 127)], m, XX)) rfl ?_
    refine T_gd hD (c1 := (120, [(10, 123), (0, x1), z2, (0, x3), (14, 12), (0, x5), (0, x6), z7], [], mup m 127 x1 x5, XX)) rfl (fun g7 => ?_)
    refine T_run hD 5 (c' := (128, [(10, 123), (0, x1), z2, (0, x3), (14, 12), (0, x5), (0, x6), z7], [(0, (-1)), (0, x5), (0, x1), (33, 129)], mup m 127 x1 x5, XX)) rfl ?_
    refine T_if hD (c1 := (131, _, _, _, _)) (c2 := (135, _, _, _, _)) rfl (fun _ => ?_) (fun _ => ?_)
    · refine T_run hD 2 (c' := (136, [(10, 123), (0, x1), z2, (0, x3), (14, 12), (0, x5), (0, x6), z7], [(0, 1), (0, x1), (33, 129)], mup m 127 x1 x5, XX)) rfl ?_
      exact T_map (tA_findBest_136 r (mup m 127 x1 x5) x1 x5 129 x1 1 z2 (0, x3) (0, x6) z7)
    · refine T_run hD 1 (c' := (136, [(10, 123), (0, x1), z2, (0, x3), (14, 12), (0, x5), (0, x6), z7], [(0, 0), (0, x1), (33, 129)], mup m 127 x1 x5, XX)) rfl ?_
      exact T_map (tA_findBest_136 r (mup m 127 x1 x5) x1 x5 129 x1 0 z2 (0, x3) (0, x6) z7)
def fA_findBest (m : aM) (x1 : Int) (x2 : Int) (x3 : Int) : Option aM :=
  fA_findBest_6 m x1 x3 (-1) x2
set_option maxRecDepth 100000 in
theorem tA_findBest (m : aM) (x1 : Int) (x2 : Int) (x3 : Int) : ∀ v, fA_findBest m x1 x2 x3 = some v → Go PB 4 105 (aEnt d_A_findBest [(10, 123), (0, x1), (0, x2), (0, x3), (14, 12)] m XX) (0, (0, 0), v, XX) := by
  intro v hv
  have hD : aMd PB 105 = d_A_findBest := rfl
  obtain ⟨r, hr⟩ : ∃ r : aR, r = (0, (0, 0), v, XX) := ⟨_, rfl⟩
  have h9 : aT PB 4 105 r (fun w => r = (0, (0, 0), w, XX)) (fA_findBest m x1 x2 x3) (0, [(10, 123), (0, x1), (0, x2), (0, x3), (14, 12), (99, 0), (99, 0), (99, 0)], [], m, XX) := by
    unfold fA_findBest
    refine T_run hD 4 (c' := (6, [(10, 123), (0, x1), (0, x2), (0, x3), (14, 12), (0, (-1)), (0, x2), (99, 0)], [], m, XX)) rfl ?_
    exact tA_findBest_6 r m x1 x3 (-1) x2 (0, x2) (99, 0)
  rw [← hr]
  exact h9 v hv hr
def fA_addLine_58 (m : aM) (x1 : Int) (x2 : Int) (x4 : Int) (s0 : Int) (s1 : Int) (s2 : Int) : Option (Int × aM) :=
  gd (0 ≤ s1 ∧ s1 < LEN s0) (
  if (mup m s0 s1 s2) 123 1 = 2 then
    gd (0 ≤ x4 ∧ x4 < 16) (
    some ((1, mup (mup (mup m s0 s1 s2) 128 x4 (w32 (x2 - x1))) 129 x4 0)))
  else
    if (mup m s0 s1 s2) 123 1 = 3 then
      (fA_sumUp (mup m s0 s1 s2) x4 x1 x2).bind fun v5 =>
      gd (v5.1 = 0 ∨ v5.1 = 1) (some ((v5.1, v5.2)))
    else
      (fA_findBest (mup m s0 s1 s2) x4 x1 x2).bind fun v6 =>
      some ((1, v6)))
set_option maxRecDepth 100000 in
theorem tA_addLine_58 (r : aR) (m : aM) (x1 : Int) (x2 : Int) (x4 : Int) (s0 : Int) (s1 : Int) (s2 : Int) : aT PB 5 103 r (fun w => r = (1, (0, w.1), w.2, XX)) (fA_addLine_58 m x1 x2 x4 s0 s1 s2) (58, [(10, 123), (0, x1), (0, x2), (14, 12), (0, x4)], [(0, s2), (0, s1), (31, s0)], m, XX) := by
  have hD : aMd PB 103 = d_A_addLine := rfl
  unfold fA_addLine_58
  refine T_gd hD (c1 := (59, [(10, 123), (0, x1), (0, x2), (14, 12), (0, x4)], [], mup m s0 s1 s2, XX)) rfl (fun g3 => ?_)
  refine T_run hD 3 (c' := (66, [(10, 123), (0, x1), (0, x2), (14, 12), (0, x4)], [(40, 2), (40, (mup m s0 s1 s2) 123 1)], mup m s0 s1 s2, XX)) rfl ?_
  refine T_if hD (c1 := (69, _, _, _, _)) (c2 := (90, _, _, _, _)) rfl (fun _ => ?_) (fun _ => ?_)
  · refine T_run hD 7 (c' := (79, [(10, 123), (0, x1), (0, x2), (14, 12), (0, x4)], [(1, w32 (x2 - x1)), (0, x4), (32, 128)], mup m s0 s1 s2, XX)) rfl ?_
    refine T_gd hD (c1 := (80, [(10, 123), (0, x1), (0, x2), (14, 12), (0, x4)], [], mup (mup m s0 s1 s2) 128 x4 (w32 (x2 - x1)), XX)) rfl (fun g4 => ?_)
    refine T_run hD 4 (c' := (87, [(10, 123), (0, x1), (0, x2), (14, 12), (0, x4)], [(0, 0), (0, x4), (33, 129)], mup (mup m s0 s1 s2) 128 x4 (w32 (x2 - x1)), XX)) rfl ?_
    refine T_gk hD (c1 := (88, [(10, 123), (0, x1), (0, x2), (14, 12), (0, x4)], [], mup (mup (mup m s0 s1 s2) 128 x4 (w32 (x2 - x1))) 129 x4 0, XX)) (P := 0 ≤ x4 ∧ x4 < 16) rfl g4 ?_
    refine T_run hD 1 (c' := (89, [(10, 123), (0, x1), (0, x2), (14, 12), (0, x4)], [(0, 1)], mup (mup (mup m s0 s1 s2) 128 x4 (w32 (x2 - x1))) 129 x4 0, XX)) rfl ?_
    exact T_fin hD rfl (fun h => h)
  · refine T_run hD 3 (c' := (97, [(10, 123), (0, x1), (0, x2), (14, 12), (0, x4)], [(40, 3), (40, (mup m s0 s1 s2) 123 1)], mup m s0 s1 s2, XX)) rfl ?_
    refine T_if hD (c1 := (100, _, _, _, _)) (c2 := (110, _, _, _, _)) rfl (fun _ => ?_) (fun _ => ?_)
    · refine T_run hD 5 (c' := (106, [(10, 123), (0, x1), (0, x2), (14, 12), (0, x4)], [(14, 12), (0, x2), (0, x1), (0, x4), (10, 123)], mup m s0 s1 s2, XX)) rfl ?_
      refine T_call hD (D2 := d_A_sumUp) (q2 := 104) (as := [(10, 123), (0, x4), (0, x1), (0, x2), (14, 12)]) (c1 := (109, [(10, 123), (0, x1), (0, x2), (14, 12), (0, x4)], [], mup m s0 s1 s2, XX)) (mk := fun w => (1, (0, w.1), w.2, XX)) (cc := fun v5 => (109, [(10, 123), (0, x1), (0, x2), (14, 12), (0, x4)], [(0, v5.1)], v5.2, XX)) rfl rfl (fun y9 h9y => Go.mono (tA_sumUp (mup m s0 s1 s2) x4 x1 x2 y9 h9y) (by decide)) (fun _ => rfl) (fun v5 => ?_)
      exact T_gfin hD (fun h => if_pos (decide_eq_true h)) (fun h => h)
    · refine T_run hD 5 (c' := (116, [(10, 123), (0, x1), (0, x2), (14, 12), (0, x4)], [(14, 12), (0, x2), (0, x1), (0, x4), (10, 123)], mup m s0 s1 s2, XX)) rfl ?_
      refine T_call hD (D2 := d_A_findBest) (q2 := 105) (as := [(10, 123), (0, x4), (0, x1), (0, x2), (14, 12)]) (c1 := (119, [(10, 123), (0, x1), (0, x2), (14, 12), (0, x4)], [], mup m s0 s1 s2, XX)) (mk := fun w => (0, (0, 0), w, XX)) (cc := fun v6 => (119, [(10, 123), (0, x1), (0, x2), (14, 12), (0, x4)], [], v6, XX)) rfl rfl (fun y9 h9y => Go.mono (tA_findBest (mup m s0 s1 s2) x4 x1 x2 y9 h9y) (by decide)) (fun _ => rfl) (fun v6 => ?_)
      refine T_run hD 1 (c' := (120, [(10, 123), (0, x1), (0, x2), (14, 12), (0, x4)], [(0, 1)], v6, XX)) rfl ?_
      exact T_fin hD rfl (fun h => h)
def fA_addLine (m : aM) (x1 : Int) (x2 : Int) : Option (Int × aM) :=
  if m 123 4 < 16 then
    gd (0 ≤ m 123 4 ∧ m 123 4 < 16) (
    if x1 < x2 then
      gd (0 ≤ x1 ∧ x1 < 16) (
      fA_addLine_58 (mup (mup m 123 4 (w32 ((m 123 4) + 1))) 125 (m 123 4) (w32 (x2 - x1))) x1 x2 (m 123 4) 126 (m 123 4) (m 124 x1))
    else
      fA_addLine_58 (mup (mup m 123 4 (w32 ((m 123 4) + 1))) 125 (m 123 4) (w32 (x2 - x1))) x1 x2 (m 123 4) 126 (m 123 4) (-1))
  else
    some ((1, m))
set_option maxRecDepth 100000 in
theorem tA_addLine (m : aM) (x1 : Int) (x2 : Int) : ∀ v, fA_addLine m x1 x2 = some v → Go PB 5 103 (aEnt d_A_addLine [(10, 123), (0, x1), (0, x2), (14, 12)] m XX) (1, (0, v.1), v.2, XX) := by
  intro v hv
  have hD : aMd PB 103 = d_A_addLine := rfl
  obtain ⟨r, hr⟩ : ∃ r : aR, r = (1, (0, v.1), v.2, XX) := ⟨_, rfl⟩
  have h9 : aT PB 5 103 r (fun w => r = (1, (0, w.1), w.2, XX)) (fA_addLine m x1 x2) (0, [(10, 123), (0, x1), (0, x2), (14, 12), (99, 0)], [], m, XX) := by
    unfold fA_addLine
    refine T_run hD 3 (c' := (6, [(10, 123), (0, x1), (0, x2), (14, 12), (99, 0)], [(0, 16), (0, m 123 4)], m, XX)) rfl ?_
    refine T_if hD (c1 := (11, _, _, _, _)) (c2 := (9, _, _, _, _)) rfl (fun _ => ?_) (fun _ => ?_)
    · refine T_run hD 15 (c' := (36, [(10, 123), (0, x1), (0, x2), (14, 12), (0, m 123 4)], [(0, w32 (x2 - x1)), (0, m 123 4), (31, 125)], mup m 123 4 (w32 ((m 123 4) + 1)), XX)) rfl ?_
      refine T_gd hD (c1 := (37, [(10, 123), (0, x1), (0, x2), (14, 12), (0, m 123 4)], [], mup (mup m 123 4 (w32 ((m 123 4) + 1))) 125 (m 123 4) (w32 (x2 - x1)), XX)) rfl (fun g1 => ?_)
      refine T_run hD 5 (c' := (45, [(10, 123), (0, x1), (0, x2), (14, 12), (0, m 123 4)], [(0, x2), (0, x1), (0, m 123 4), (31, 126)], mup (mup m 123 4 (w32 ((m 123 4) + 1))) 125 (m 123 4) (w32 (x2 - x1)), XX)) rfl ?_
      refine T_if hD (c1 := (48, _, _, _, _)) (c2 := (57, _, _, _, _)) rfl (fun _ => ?_) (fun _ => ?_)
      · refine T_run hD 3 (c' := (53, [(10, 123), (0, x1), (0, x2), (14, 12), (0, m 123 4)], [(0, x1), (31, 124), (0, m 123 4), (31, 126)], mup (mup m 123 4 (w32 ((m 123 4) + 1))) 125 (m 123 4) (w32 (x2 - x1)), XX)) rfl ?_
        refine T_gd hD (c1 := (54, [(10, 123), (0, x1), (0, x2), (14, 12), (0, m 123 4)], [(0, m 124 x1), (0, m 123 4), (31, 126)], mup (mup m 123 4 (w32 ((m 123 4) + 1))) 125 (m 123 4) (w32 (x2 - x1)), XX)) rfl (fun g2 => ?_)
        refine T_run hD 1 (c' := (58, [(10, 123), (0, x1), (0, x2), (14, 12), (0, m 123 4)], [(0, m 124 x1), (0, m 123 4), (31, 126)], mup (mup m 123 4 (w32 ((m 123 4) + 1))) 125 (m 123 4) (w32 (x2 - x1)), XX)) rfl ?_
        exact tA_addLine_58 r (mup (mup m 123 4 (w32 ((m 123 4) + 1))) 125 (m 123 4) (w32 (x2 - x1))) x1 x2 (m 123 4) 126 (m 123 4) (m 124 x1) 
      · refine T_run hD 1 (c' := (58, [(10, 123), (0, x1), (0, x2), (14, 12), (0, m 123 4)], [(0, (-1)), (0, m 123 4), (31, 126)], mup (mup m 123 4 (w32 ((m 123 4) + 1))) 125 (m 123 4) (w32 (x2 - x1)), XX)) rfl ?_
        exact tA_addLine_58 r (mup (mup m 123 4 (w32 ((m 123 4) + 1))) 125 (m 123 4) (w32 (x2 - x1))) x1 x2 (m 123 4) 126 (m 123 4) (-1) 
    · refine T_run hD 1 (c' := (10, [(10, 123), (0, x1), (0, x2), (14, 12), (99, 0)], [(0, 1)], m, XX)) rfl ?_
      exact T_fin hD rfl (fun h => h)
  rw [← hr]
  exact h9 v hv hr
abbrev hA_putTogether_51 : (aM × Int × Int × Int) → aC → Prop := fun y c => c = (51, [(10, 123), (14, 12), (0, (y.2.1)), (0, (y.2.2.1)), (0, (y.2.2.2))], [], (y.1), XX)
def fA_putTogether_97 (m : aM) (x3 : Int) (x4 : Int) : Option ((aM × Int × Int × Int) ⊕ (Int × aM)) :=
  (fA_addLine m x3 x4).bind fun v2 =>
  some (Sum.inl (v2.2, v2.1, x4, w32 (x4 + 1)))
set_option maxRecDepth 100000 in
theorem tA_putTogether_97 (r : aR) (m : aM) (x3 : Int) (x4 : Int) (z2 : aV) : aT PB 6 97 r (aTurn PB 6 97 r (hA_putTogether_51 ) (fun w => r = (1, (0, w.1), w.2, XX))) (fA_putTogether_97 m x3 x4) (97, [(10, 123), (14, 12), z2, (0, x3), (0, x4)], [], m, XX) := by
  have hD : aMd PB 97 = d_A_putTogether := rfl
  unfold fA_putTogether_97
  refine T_run hD 4 (c' := (102, [(10, 123), (14, 12), z2, (0, x3), (0, x4)], [(14, 12), (0, x4), (0, x3), (10, 123)], m, XX)) rfl ?_
  refine T_call hD (D2 := d_A_addLine) (q2 := 103) (as := [(10, 123), (0, x3), (0, x4), (14, 12)]) (c1 := (105, [(10, 123), (14, 12), z2, (0, x3), (0, x4)], [], m, XX)) (mk := fun w => (1, (0, w.1), w.2, XX)) (cc := fun v2 => (105, [(10, 123), (14, 12), z2, (0, x3), (0, x4)], [(0, v2.1)], v2.2, XX)) rfl rfl (fun y9 h9y => Go.mono (tA_addLine m x3 x4 y9 h9y) (by decide)) (fun _ => rfl) (fun v2 => ?_)
  refine T_run hD 5 (c' := (51, [(10, 123), (14, 12), (0, v2.1), (0, x4), (0, w32 (x4 + 1))], [], v2.2, XX)) rfl ?_
  exact T_back0 rfl
def fA_putTogether_51_b : (aM × Int × Int × Int) → Option ((aM × Int × Int × Int) ⊕ (Int × aM)) := fun (m, x2, x3, x4) =>
  if m 123 5 < x4 then
    gd (x2 = 0 ∨ x2 = 1) (some (Sum.inr ((x2, m))))
  else
    if x2 = 0 then
      gd (x2 = 0 ∨ x2 = 1) (some (Sum.inr ((x2, m))))
    else
      if x4 = m 123 5 then
        fA_putTogether_97 m x3 x4
      else
        gd (0 ≤ x3 ∧ x3 < 16) (
        gd (0 ≤ x4 ∧ x4 < 16) (
        (fT_compareRows m (m 124 x3) (m 124 x4) (m 123 3)).bind fun v5 =>
        if v5 = 0 then
          some (Sum.inl (m, x2, x3, w32 (x4 + 1)))
        else
          fA_putTogether_97 m x3 x4))
def fA_putTogether_51 (m : aM) (x2 : Int) (x3 : Int) (x4 : Int) : Option (Int × aM) := aLoop (fA_putTogether_51_b ) FU (m, x2, x3, x4)
set_option maxRecDepth 100000 in
theorem tA_putTogether_51 (r : aR) (m : aM) (x2 : Int) (x3 : Int) (x4 : Int) : aT PB 6 97 r (fun w => r = (1, (0, w.1), w.2, XX)) (fA_putTogether_51 m x2 x3 x4) (51, [(10, 123), (14, 12), (0, x2), (0, x3), (0, x4)], [], m, XX) := by
  have hD : aMd PB 97 = d_A_putTogether := rfl
  refine T_loop (Hd := (hA_putTogether_51 )) ?_ FU _ _ rfl
  clear m x2 x3 x4
  intro y c hc
  obtain ⟨m, x2, x3, x4⟩ := y
  obtain rfl := hc
  unfold fA_putTogether_51_b
  try dsimp only
  refine T_run hD 3 (c' := (57, [(10, 123), (14, 12), (0, x2), (0, x3), (0, x4)], [(0, m 123 5), (0, x4)], m, XX)) rfl ?_
  refine T_if hD (c1 := (115, _, _, _, _)) (c2 := (60, _, _, _, _)) rfl (fun _ => ?_) (fun _ => ?_)
  · refine T_run hD 1 (c' := (116, [(10, 123), (14, 12), (0, x2), (0, x3), (0, x4)], [(0, x2)], m, XX)) rfl ?_
    exact T_gfin hD (fun h => if_pos (decide_eq_true h)) (fun h => h)
  · refine T_run hD 1 (c' := (61, [(10, 123), (14, 12), (0, x2), (0, x3), (0, x4)], [(0, x2)], m, XX)) rfl ?_
    refine T_if hD (c1 := (115, _, _, _, _)) (c2 := (64, _, _, _, _)) rfl (fun _ => ?_) (fun _ => ?_)
    · refine T_run hD 1 (c' := (116, [(10, 123), (14, 12), (0, x2), (0, x3), (0, x4)], [(0, x2)], m, XX)) rfl ?_
      exact T_gfin hD (fun h => if_pos (decide_eq_true h)) (fun h => h)
    · refine T_run hD 3 (c' := (70, [(10, 123), (14, 12), (0, x2), (0, x3), (0, x4)], [(0, m 123 5), (0, x4)], m, XX)) rfl ?_
      refine T_if hD (c1 := (97, _, _, _, _)) (c2 := (73, _, _, _, _)) rfl (fun _ => ?_) (fun _ => ?_)
      · exact tA_putTogether_97 r m x3 x4 (0, x2)
      · refine T_run hD 4 (c' := (79, [(10, 123), (14, 12), (0, x2), (0, x3), (0, x4)], [(0, x3), (31, 124), (14, 12)], m, XX)) rfl ?_
        refine T_gd hD (c1 := (80, [(10, 123), (14, 12), (0, x2), (0, x3), (0, x4)], [(0, m 124 x3), (14, 12)], m, XX)) rfl (fun g3 => ?_)
        refine T_run hD 3 (c' := (86, [(10, 123), (14, 12), (0, x2), (0, x3), (0, x4)], [(0, x4), (31, 124), (0, m 124 x3), (14, 12)], m, XX)) rfl ?_
        refine T_gd hD (c1 := (87, [(10, 123), (14, 12), (0, x2), (0, x3), (0, x4)], [(0, m 124 x4), (0, m 124 x3), (14, 12)], m, XX)) rfl (fun g4 => ?_)
        refine T_run hD 2 (c' := (91, [(10, 123), (14, 12), (0, x2), (0, x3), (0, x4)], [(0, m 123 3), (0, m 124 x4), (0, m 124 x3), (14, 12)], m, XX)) rfl ?_
        refine T_call hD (D2 := d_T_compareRows) (q2 := 161) (as := [(14, 12), (0, m 124 x3), (0, m 124 x4), (0, m 123 3)]) (c1 := (94, [(10, 123), (14, 12), (0, x2), (0, x3), (0, x4)], [], m, XX)) (mk := fun w => (1, (0, w), m, XX)) (cc := fun v5 => (94, [(10, 123), (14, 12), (0, x2), (0, x3), (0, x4)], [(0, v5)], m, XX)) rfl rfl (fun y9 h9y => Go.mono (tT_compareRows m (m 124 x3) (m 124 x4) (m 123 3) y9 h9y) (by decide)) (fun _ => rfl) (fun v5 => ?_)
        refine T_if hD (c1 := (109, _, _, _, _)) (c2 := (97, _, _, _, _)) rfl (fun _ => ?_) (fun _ => ?_)
        · refine T_run hD 2 (c' := (51, [(10, 123), (14, 12), (0, x2), (0, x3), (0, w32 (x4 + 1))], [], m, XX)) rfl ?_
          exact T_back0 rfl
        · exact tA_putTogether_97 r m x3 x4 (0, x2)
def fA_putTogether (m : aM) : Option (Int × aM) :=
  if m 123 1 = 1 then
    some ((1, mup m 123 4 (m 123 5)))
  else
    if m 123 3 = (-1) then
      (fA_addLine (mup m 123 4 0) 0 (m 123 5)).bind fun v1 =>
      gd (v1.1 = 0 ∨ v1.1 = 1) (some ((v1.1, v1.2)))
    else
      fA_putTogether_51 (mup m 123 4 0) 1 0 1
set_option maxRecDepth 100000 in
theorem tA_putTogether (m : aM) : ∀ v, fA_putTogether m = some v → Go PB 6 97 (aEnt d_A_putTogether [(10, 123), (14, 12)] m XX) (1, (0, v.1), v.2, XX) := by
  intro v hv
  have hD : aMd PB 97 = d_A_putTogether := rfl
  obtain ⟨r, hr⟩ : ∃ r : aR, r = (1, (0, v.1), v.2, XX) := ⟨_, rfl⟩
  have h9 : aT PB 6 97 r (fun w => r = (1, (0, w.1), w.2, XX)) (fA_putTogether m) (0, [(10, 123), (14, 12), (99, 0), (99, 0), (99, 0)], [], m, XX) := by
    unfold fA_putTogether
    refine T_run hD 3 (c' := (7, [(10, 123), (14, 12), (99, 0), (99, 0), (99, 0)], [(40, 1), (40, m 123 1)], m, XX)) rfl ?_
    refine T_if hD (c1 := (10, _, _, _, _)) (c2 := (20, _, _, _, _)) rfl (fun _ => ?_) (fun _ => ?_)
    · refine T_run hD 5 (c' := (19, [(10, 123), (14, 12), (99, 0), (99, 0), (99, 0)], [(0, 1)], mup m 123 4 (m 123 5), XX)) rfl ?_
      exact T_fin hD rfl (fun h => h)
    · refine T_run hD 6 (c' := (30, [(10, 123), (14, 12), (99, 0), (99, 0), (99, 0)], [(0, (-1)), (0, m 123 3)], mup m 123 4 0, XX)) rfl ?_
      refine T_if hD (c1 := (33, _, _, _, _)) (c2 := (44, _, _, _, _)) rfl (fun _ => ?_) (fun _ => ?_)
      · refine T_run hD 5 (c' := (40, [(10, 123), (14, 12), (99, 0), (99, 0), (99, 0)], [(14, 12), (0, m 123 5), (0, 0), (10, 123)], mup m 123 4 0, XX)) rfl ?_
        refine T_call hD (D2 := d_A_addLine) (q2 := 103) (as := [(10, 123), (0, 0), (0, m 123 5), (14, 12)]) (c1 := (43, [(10, 123), (14, 12), (99, 0), (99, 0), (99, 0)], [], mup m 123 4 0, XX)) (mk := fun w => (1, (0, w.1), w.2, XX)) (cc := fun v1 => (43, [(10, 123), (14, 12), (99, 0), (99, 0), (99, 0)], [(0, v1.1)], v1.2, XX)) rfl rfl (fun y9 h9y => Go.mono (tA_addLine (mup m 123 4 0) 0 (m 123 5) y9 h9y) (by decide)) (fun _ => rfl) (fun v1 => ?_)
        exact T_gfin hD (fun h => if_pos (decide_eq_true h)) (fun h => h)
      · refine T_run hD 6 (c' := (51, [(10, 123), (14, 12), (0, 1), (0, 0), (0, 1)], [], mup m 123 4 0, XX)) rfl ?_
        exact tA_putTogether_51 r (mup m 123 4 0) 1 0 1 
  rw [← hr]
  exact h9 v hv hr
def fA_has (m : aM) (x1 : Int) : Int :=
  if x1 < 0 then
    0
  else
    if x1 < m 123 4 then
      if x1 < 16 then
        1
      else
        0
    else
      0
set_option maxRecDepth 100000 in
theorem tA_has (m : aM) (x1 : Int) : Go PB 1 98 (aEnt d_A_has [(10, 123), (0, x1)] m XX) (1, (0, (fA_has m x1)), m, XX) := by
  have hD : aMd PB 98 = d_A_has := rfl
  show aU PB 1 98 (fun w => (1, (0, w), m, XX)) (fA_has m x1) (0, [(10, 123), (0, x1)], [], m, XX)
  unfold fA_has
  refine U_run hD 1 (c' := (1, [(10, 123), (0, x1)], [(0, x1)], m, XX)) rfl ?_
  refine U_if hD (c1 := (22, _, _, _, _)) (c2 := (4, _, _, _, _)) rfl (fun _ => ?_) (fun _ => ?_)
  · refine U_run hD 1 (c' := (23, [(10, 123), (0, x1)], [(0, 0)], m, XX)) rfl ?_
    exact Go.fin hD rfl
  · refine U_run hD 3 (c' := (9, [(10, 123), (0, x1)], [(0, m 123 4), (0, x1)], m, XX)) rfl ?_
    refine U_if hD (c1 := (12, _, _, _, _)) (c2 := (22, _, _, _, _)) rfl (fun _ => ?_) (fun _ => ?_)
    · refine U_run hD 2 (c' := (15, [(10, 123), (0, x1)], [(0, 16), (0, x1)], m, XX)) rfl ?_
      refine U_if hD (c1 := (18, _, _, _, _)) (c2 := (22, _, _, _, _)) rfl (fun _ => ?_) (fun _ => ?_)
      · refine U_run hD 2 (c' := (23, [(10, 123), (0, x1)], [(0, 1)], m, XX)) rfl ?_
        exact Go.fin hD rfl
      · refine U_run hD 1 (c' := (23, [(10, 123), (0, x1)], [(0, 0)], m, XX)) rfl ?_
        exact Go.fin hD rfl
    · refine U_run hD 1 (c' := (23, [(10, 123), (0, x1)], [(0, 0)], m, XX)) rfl ?_
      exact Go.fin hD rfl
def fA_isBest (m : aM) : Int :=
  if m 123 1 = 4 then
    1
  else
    if m 123 1 = 5 then
      1
    else
      0
set_option maxRecDepth 100000 in
theorem tA_isBest (m : aM) : Go PB 1 102 (aEnt d_A_isBest [(10, 123)] m XX) (1, (0, (fA_isBest m)), m, XX) := by
  have hD : aMd PB 102 = d_A_isBest := rfl
  show aU PB 1 102 (fun w => (1, (0, w), m, XX)) (fA_isBest m) (0, [(10, 123)], [], m, XX)
  unfold fA_isBest
  refine U_run hD 3 (c' := (7, [(10, 123)], [(40, 4), (40, m 123 1)], m, XX)) rfl ?_
  refine U_if hD (c1 := (20, _, _, _, _)) (c2 := (10, _, _, _, _)) rfl (fun _ => ?_) (fun _ => ?_)
  · refine U_run hD 2 (c' := (25, [(10, 123)], [(0, 1)], m, XX)) rfl ?_
    exact Go.fin hD rfl
  · refine U_run hD 3 (c' := (17, [(10, 123)], [(40, 5), (40, m 123 1)], m, XX)) rfl ?_
    refine U_if hD (c1 := (20, _, _, _, _)) (c2 := (24, _, _, _, _)) rfl (fun _ => ?_) (fun _ => ?_)
    · refine U_run hD 2 (c' := (25, [(10, 123)], [(0, 1)], m, XX)) rfl ?_
      exact Go.fin hD rfl
    · refine U_run hD 1 (c' := (25, [(10, 123)], [(0, 0)], m, XX)) rfl ?_
      exact Go.fin hD rfl
def fA_hasValues (m : aM) : Option Int :=
  if m 123 1 = 1 then
    some (0)
  else
    if fA_isBest m = 0 then
      some (1)
    else
      (fT_typeAt m (m 123 2)).bind fun v1 =>
      if v1 = 3 then
        some (0)
      else
        some (1)
set_option maxRecDepth 100000 in
theorem tA_hasValues (m : aM) : ∀ v, fA_hasValues m = some v → Go PB 3 99 (aEnt d_A_hasValues [(10, 123), (14, 12)] m XX) (1, (0, v), m, XX) := by
  intro v hv
  have hD : aMd PB 99 = d_A_hasValues := rfl
  obtain ⟨r, hr⟩ : ∃ r : aR, r = (1, (0, v), m, XX) := ⟨_, rfl⟩
  have h9 : aT PB 3 99 r (fun w => r = (1, (0, w), m, XX)) (fA_hasValues m) (0, [(10, 123), (14, 12)], [], m, XX) := by
    unfold fA_hasValues
    refine T_run hD 3 (c' := (7, [(10, 123), (14, 12)], [(40, 1), (40, m 123 1)], m, XX)) rfl ?_
    refine T_if hD (c1 := (33, _, _, _, _)) (c2 := (10, _, _, _, _)) rfl (fun _ => ?_) (fun _ => ?_)
    · refine T_run hD 1 (c' := (34, [(10, 123), (14, 12)], [(0, 0)], m, XX)) rfl ?_
      exact T_fin hD rfl (fun h => h)
    · refine T_run hD 1 (c' := (11, [(10, 123), (14, 12)], [(10, 123)], m, XX)) rfl ?_
      refine T_call0 hD (D2 := d_A_isBest) (q2 := 102) (as := [(10, 123)]) (c1 := (14, [(10, 123), (14, 12)], [], m, XX)) (r2 := (1, (0, fA_isBest m), m, XX)) (c2 := (14, [(10, 123), (14, 12)], [(0, fA_isBest m)], m, XX)) rfl rfl (Go.mono (tA_isBest m) (by decide)) rfl ?_
      refine T_if hD (c1 := (29, _, _, _, _)) (c2 := (17, _, _, _, _)) rfl (fun _ => ?_) (fun _ => ?_)
      · refine T_run hD 2 (c' := (34, [(10, 123), (14, 12)], [(0, 1)], m, XX)) rfl ?_
        exact T_fin hD rfl (fun h => h)
      · refine T_run hD 3 (c' := (22, [(10, 123), (14, 12)], [(0, m 123 2), (14, 12)], m, XX)) rfl ?_
        refine T_call hD (D2 := d_T_typeAt) (q2 := 155) (as := [(14, 12), (0, m 123 2)]) (c1 := (25, [(10, 123), (14, 12)], [], m, XX)) (mk := fun w => (1, (0, w), m, XX)) (cc := fun v1 => (25, [(10, 123), (14, 12)], [(0, v1)], m, XX)) rfl rfl (fun y9 h9y => Go.mono (tT_typeAt m (m 123 2) y9 h9y) (by decide)) (fun _ => rfl) (fun v1 => ?_)
        refine T_run hD 1 (c' := (26, [(10, 123), (14, 12)], [(0, 3), (0, v1)], m, XX)) rfl ?_
        refine T_if hD (c1 := (33, _, _, _, _)) (c2 := (29, _, _, _, _)) rfl (fun _ => ?_) (fun _ => ?_)
        · refine T_run hD 1 (c' := (34, [(10, 123), (14, 12)], [(0, 0)], m, XX)) rfl ?_
          exact T_fin hD rfl (fun h => h)
        · refine T_run hD 2 (c' := (34, [(10, 123), (14, 12)], [(0, 1)], m, XX)) rfl ?_
          exact T_fin hD rfl (fun h => h)
  rw [← hr]
  exact h9 v hv hr
def fA_writeLine_82 (m : aM) (x2 : Int) : Option aM :=
  (fC_add m x2 10).bind fun v4 =>
  some (v4)
set_option maxRecDepth 100000 in
theorem tA_writeLine_82 (r : aR) (m : aM) (x2 : Int) (hx2 : ck x2) (z0 : aV) (z1 : aV) (z3 : aV) : aT PB 4 101 r (fun w => r = (0, (0, 0), w, XX)) (fA_writeLine_82 m x2) (82, [z0, z1, (11, x2), z3], [], m, XX) := by
  have hD : aMd PB 101 = d_A_writeLine := rfl
  unfold fA_writeLine_82
  refine T_run hD 2 (c' := (85, [z0, z1, (11, x2), z3], [(0, 10), (11, x2)], m, XX)) rfl ?_
  refine T_call hD (D2 := d_C_add) (q2 := 109) (as := [(11, x2), (0, 10)]) (c1 := (88, [z0, z1, (11, x2), z3], [], m, XX)) (mk := fun w => (0, (0, 0), w, XX)) (cc := fun v4 => (88, [z0, z1, (11, x2), z3], [], v4, XX)) rfl rfl (fun y9 h9y => Go.mono (tC_add m x2 10 hx2 y9 h9y) (by decide)) (fun _ => rfl) (fun v4 => ?_)
  exact T_fin hD rfl (fun h => h)
def fA_writeLine_63 (m : aM) (x1 : Int) (x2 : Int) : Option aM :=
  gd (0 ≤ x1 ∧ x1 < 16) (
  if m 129 x1 = 0 then
    (fC_addNumber m x2 (m 128 x1)).bind fun v3 =>
    fA_writeLine_82 v3 x2
  else
    fA_writeLine_82 m x2)
set_option maxRecDepth 100000 in
theorem tA_writeLine_63 (r : aR) (m : aM) (x1 : Int) (x2 : Int) (hx2 : ck x2) (z3 : aV) : aT PB 4 101 r (fun w => r = (0, (0, 0), w, XX)) (fA_writeLine_63 m x1 x2) (63, [(10, 123), (0, x1), (11, x2), z3], [], m, XX) := by
  have hD : aMd PB 101 = d_A_writeLine := rfl
  unfold fA_writeLine_63
  refine T_run hD 3 (c' := (68, [(10, 123), (0, x1), (11, x2), z3], [(0, x1), (33, 129)], m, XX)) rfl ?_
  refine T_gd hD (c1 := (69, [(10, 123), (0, x1), (11, x2), z3], [(0, m 129 x1)], m, XX)) rfl (fun g2 => ?_)
  refine T_if hD (c1 := (72, _, _, _, _)) (c2 := (82, _, _, _, _)) rfl (fun _ => ?_) (fun _ => ?_)
  · refine T_run hD 4 (c' := (78, [(10, 123), (0, x1), (11, x2), z3], [(0, x1), (32, 128), (11, x2)], m, XX)) rfl ?_
    refine T_gk hD (c1 := (79, [(10, 123), (0, x1), (11, x2), z3], [(1, m 128 x1), (11, x2)], m, XX)) (P := 0 ≤ x1 ∧ x1 < 16) rfl g2 ?_
    refine T_call hD (D2 := d_C_addNumber) (q2 := 111) (as := [(11, x2), (1, m 128 x1)]) (c1 := (82, [(10, 123), (0, x1), (11, x2), z3], [], m, XX)) (mk := fun w => (0, (0, 0), w, XX)) (cc := fun v3 => (82, [(10, 123), (0, x1), (11, x2), z3], [], v3, XX)) rfl rfl (fun y9 h9y => Go.mono (tC_addNumber m x2 (m 128 x1) hx2 y9 h9y) (by decide)) (fun _ => rfl) (fun v3 => ?_)
    exact tA_writeLine_82 r v3 x2 hx2 (10, 123) (0, x1) z3
  · exact tA_writeLine_82 r m x2 hx2 (10, 123) (0, x1) z3
def fA_writeLine_29 (m : aM) (x1 : Int) (x2 : Int) : Option aM :=
  gd (0 ≤ x1 ∧ x1 < 16) (
  if m 129 x1 = 0 then
    if fA_isBest m = 0 then
      fA_writeLine_63 m x1 x2
    else
      (fT_writeCell m (m 127 x1) (m 123 2) x2).bind fun v5 =>
      fA_writeLine_82 v5 x2
  else
    fA_writeLine_63 m x1 x2)
set_option maxRecDepth 100000 in
theorem tA_writeLine_29 (r : aR) (m : aM) (x1 : Int) (x2 : Int) (hx2 : ck x2) : aT PB 4 101 r (fun w => r = (0, (0, 0), w, XX)) (fA_writeLine_29 m x1 x2) (29, [(10, 123), (0, x1), (11, x2), (14, 12)], [], m, XX) := by
  have hD : aMd PB 101 = d_A_writeLine := rfl
  unfold fA_writeLine_29
  refine T_run hD 3 (c' := (34, [(10, 123), (0, x1), (11, x2), (14, 12)], [(0, x1), (33, 129)], m, XX)) rfl ?_
  refine T_gd hD (c1 := (35, [(10, 123), (0, x1), (11, x2), (14, 12)], [(0, m 129 x1)], m, XX)) rfl (fun g1 => ?_)
  refine T_if hD (c1 := (38, _, _, _, _)) (c2 := (63, _, _, _, _)) rfl (fun _ => ?_) (fun _ => ?_)
  · refine T_run hD 1 (c' := (39, [(10, 123), (0, x1), (11, x2), (14, 12)], [(10, 123)], m, XX)) rfl ?_
    refine T_call0 hD (D2 := d_A_isBest) (q2 := 102) (as := [(10, 123)]) (c1 := (42, [(10, 123), (0, x1), (11, x2), (14, 12)], [], m, XX)) (r2 := (1, (0, fA_isBest m), m, XX)) (c2 := (42, [(10, 123), (0, x1), (11, x2), (14, 12)], [(0, fA_isBest m)], m, XX)) rfl rfl (Go.mono (tA_isBest m) (by decide)) rfl ?_
    refine T_if hD (c1 := (63, _, _, _, _)) (c2 := (45, _, _, _, _)) rfl (fun _ => ?_) (fun _ => ?_)
    · exact tA_writeLine_63 r m x1 x2 hx2 (14, 12)
    · refine T_run hD 4 (c' := (51, [(10, 123), (0, x1), (11, x2), (14, 12)], [(0, x1), (31, 127), (14, 12)], m, XX)) rfl ?_
      refine T_gk hD (c1 := (52, [(10, 123), (0, x1), (11, x2), (14, 12)], [(0, m 127 x1), (14, 12)], m, XX)) (P := 0 ≤ x1 ∧ x1 < 16) rfl g1 ?_
      refine T_run hD 3 (c' := (57, [(10, 123), (0, x1), (11, x2), (14, 12)], [(11, x2), (0, m 123 2), (0, m 127 x1), (14, 12)], m, XX)) rfl ?_
      refine T_call hD (D2 := d_T_writeCell) (q2 := 166) (as := [(14, 12), (0, m 127 x1), (0, m 123 2), (11, x2)]) (c1 := (60, [(10, 123), (0, x1), (11, x2), (14, 12)], [], m, XX)) (mk := fun w => (0, (0, 0), w, XX)) (cc := fun v5 => (60, [(10, 123), (0, x1), (11, x2), (14, 12)], [], v5, XX)) rfl rfl (fun y9 h9y => Go.mono (tT_writeCell m (m 127 x1) (m 123 2) x2 hx2 y9 h9y) (by decide)) (fun _ => rfl) (fun v5 => ?_)
      refine T_run hD 1 (c' := (82, [(10, 123), (0, x1), (11, x2), (14, 12)], [], v5, XX)) rfl ?_
      exact tA_writeLine_82 r v5 x2 hx2 (10, 123) (0, x1) (14, 12)
  · exact tA_writeLine_63 r m x1 x2 hx2 (14, 12)
def fA_writeLine (m : aM) (x1 : Int) (x2 : Int) : Option aM :=
  if m 123 3 = (-1) then
    fA_writeLine_29 m x1 x2
  else
    gd (0 ≤ x1 ∧ x1 < 16) (
    (fT_writeCell m (m 126 x1) (m 123 3) x2).bind fun v7 =>
    (fC_add v7 x2 44).bind fun v8 =>
    fA_writeLine_29 v8 x1 x2)
set_option maxRecDepth 100000 in
theorem tA_writeLine (m : aM) (x1 : Int) (x2 : Int) (hx2 : ck x2) : ∀ v, fA_writeLine m x1 x2 = some v → Go PB 4 101 (aEnt d_A_writeLine [(10, 123), (0, x1), (11, x2), (14, 12)] m XX) (0, (0, 0), v, XX) := by
  intro v hv
  have hD : aMd PB 101 = d_A_writeLine := rfl
  obtain ⟨r, hr⟩ : ∃ r : aR, r = (0, (0, 0), v, XX) := ⟨_, rfl⟩
  have h9 : aT PB 4 101 r (fun w => r = (0, (0, 0), w, XX)) (fA_writeLine m x1 x2) (0, [(10, 123), (0, x1), (11, x2), (14, 12)], [], m, XX) := by
    unfold fA_writeLine
    refine T_run hD 3 (c' := (5, [(10, 123), (0, x1), (11, x2), (14, 12)], [(0, (-1)), (0, m 123 3)], m, XX)) rfl ?_
    refine T_if hD (c1 := (29, _, _, _, _)) (c2 := (8, _, _, _, _)) rfl (fun _ => ?_) (fun _ => ?_)
    · exact tA_writeLine_29 r m x1 x2 hx2 
    · refine T_run hD 4 (c' := (14, [(10, 123), (0, x1), (11, x2), (14, 12)], [(0, x1), (31, 126), (14, 12)], m, XX)) rfl ?_
      refine T_gd hD (c1 := (15, [(10, 123), (0, x1), (11, x2), (14, 12)], [(0, m 126 x1), (14, 12)], m, XX)) rfl (fun g6 => ?_)
      refine T_run hD 3 (c' := (20, [(10, 123), (0, x1), (11, x2), (14, 12)], [(11, x2), (0, m 123 3), (0, m 126 x1), (14, 12)], m, XX)) rfl ?_
      refine T_call hD (D2 := d_T_writeCell) (q2 := 166) (as := [(14, 12), (0, m 126 x1), (0, m 123 3), (11, x2)]) (c1 := (23, [(10, 123), (0, x1), (11, x2), (14, 12)], [], m, XX)) (mk := fun w => (0, (0, 0), w, XX)) (cc := fun v7 => (23, [(10, 123), (0, x1), (11, x2), (14, 12)], [], v7, XX)) rfl rfl (fun y9 h9y => Go.mono (tT_writeCell m (m 126 x1) (m 123 3) x2 hx2 y9 h9y) (by decide)) (fun _ => rfl) (fun v7 => ?_)
      refine T_run hD 2 (c' := (26, [(10, 123), (0, x1), (11, x2), (14, 12)], [(0, 44), (11, x2)], v7, XX)) rfl ?_
      refine T_call hD (D2 := d_C_add) (q2 := 109) (as := [(11, x2), (0, 44)]) (c1 := (29, [(10, 123), (0, x1), (11, x2), (14, 12)], [], v7, XX)) (mk := fun w => (0, (0, 0), w, XX)) (cc := fun v8 => (29, [(10, 123), (0, x1), (11, x2), (14, 12)], [], v8, XX)) rfl rfl (fun y9 h9y => Go.mono (tC_add v7 x2 44 hx2 y9 h9y) (by decide)) (fun _ => rfl) (fun v8 => ?_)
      exact tA_writeLine_29 r v8 x1 x2 hx2 
  rw [← hr]
  exact h9 v hv hr
abbrev hA_writeTo_17 (x1 : Int) : (aM × Int) → aC → Prop := fun y c => c = (17, [(10, 123), (11, x1), (14, 12), (0, (y.2))], [], (y.1), XX)
abbrev hA_writeTo_85 (x1 : Int) : (aM × Int) → aC → Prop := fun y c => c = (85, [(10, 123), (11, x1), (14, 12), (0, (y.2))], [], (y.1), XX)
def fA_writeTo_17_b (x1 : Int) : (aM × Int) → Option ((aM × Int) ⊕ aM) := fun (m, x3) =>
  if x3 < m 123 4 then
    gd (0 ≤ x3 ∧ x3 < 16) (
    (fT_writeRow m (m 124 x3) x1).bind fun v3 =>
    some (Sum.inl (v3, w32 (x3 + 1))))
  else
    some (Sum.inr (m))
def fA_writeTo_17 (m : aM) (x1 : Int) (x3 : Int) : Option aM := aLoop (fA_writeTo_17_b x1) FU (m, x3)
set_option maxRecDepth 100000 in
theorem tA_writeTo_17 (r : aR) (m : aM) (x1 : Int) (x3 : Int) (hx1 : ck x1) : aT PB 6 100 r (fun w => r = (0, (0, 0), w, XX)) (fA_writeTo_17 m x1 x3) (17, [(10, 123), (11, x1), (14, 12), (0, x3)], [], m, XX) := by
  have hD : aMd PB 100 = d_A_writeTo := rfl
  refine T_loop (Hd := (hA_writeTo_17 x1)) ?_ FU _ _ rfl
  clear m x3
  intro y c hc
  obtain ⟨m, x3⟩ := y
  obtain rfl := hc
  unfold fA_writeTo_17_b
  try dsimp only
  refine T_run hD 3 (c' := (22, [(10, 123), (11, x1), (14, 12), (0, x3)], [(0, m 123 4), (0, x3)], m, XX)) rfl ?_
  refine T_if hD (c1 := (25, _, _, _, _)) (c2 := (42, _, _, _, _)) rfl (fun _ => ?_) (fun _ => ?_)
  · refine T_run hD 4 (c' := (31, [(10, 123), (11, x1), (14, 12), (0, x3)], [(0, x3), (31, 124), (14, 12)], m, XX)) rfl ?_
    refine T_gd hD (c1 := (32, [(10, 123), (11, x1), (14, 12), (0, x3)], [(0, m 124 x3), (14, 12)], m, XX)) rfl (fun g2 => ?_)
    refine T_run hD 1 (c' := (33, [(10, 123), (11, x1), (14, 12), (0, x3)], [(11, x1), (0, m 124 x3), (14, 12)], m, XX)) rfl ?_
    refine T_call hD (D2 := d_T_writeRow) (q2 := 165) (as := [(14, 12), (0, m 124 x3), (11, x1)]) (c1 := (36, [(10, 123), (11, x1), (14, 12), (0, x3)], [], m, XX)) (mk := fun w => (0, (0, 0), w, XX)) (cc := fun v3 => (36, [(10, 123), (11, x1), (14, 12), (0, x3)], [], v3, XX)) rfl rfl (fun y9 h9y => Go.mono (tT_writeRow m (m 124 x3) x1 hx1 y9 h9y) (by decide)) (fun _ => rfl) (fun v3 => ?_)
    refine T_run hD 2 (c' := (17, [(10, 123), (11, x1), (14, 12), (0, w32 (x3 + 1))], [], v3, XX)) rfl ?_
    exact T_back0 rfl
  · exact T_fin hD rfl (fun h => h)
def fA_writeTo_85_b (x1 : Int) : (aM × Int) → Option ((aM × Int) ⊕ aM) := fun (m, x3) =>
  if x3 < m 123 4 then
    (fA_writeLine m x3 x1).bind fun v7 =>
    some (Sum.inl (v7, w32 (x3 + 1)))
  else
    some (Sum.inr (m))
def fA_writeTo_85 (m : aM) (x1 : Int) (x3 : Int) : Option aM := aLoop (fA_writeTo_85_b x1) FU (m, x3)
set_option maxRecDepth 100000 in
theorem tA_writeTo_85 (r : aR) (m : aM) (x1 : Int) (x3 : Int) (hx1 : ck x1) : aT PB 6 100 r (fun w => r = (0, (0, 0), w, XX)) (fA_writeTo_85 m x1 x3) (85, [(10, 123), (11, x1), (14, 12), (0, x3)], [], m, XX) := by
  have hD : aMd PB 100 = d_A_writeTo := rfl
  refine T_loop (Hd := (hA_writeTo_85 x1)) ?_ FU _ _ rfl
  clear m x3
  intro y c hc
  obtain ⟨m, x3⟩ := y
  obtain rfl := hc
  unfold fA_writeTo_85_b
  try dsimp only
  refine T_run hD 3 (c' := (90, [(10, 123), (11, x1), (14, 12), (0, x3)], [(0, m 123 4), (0, x3)], m, XX)) rfl ?_
  refine T_if hD (c1 := (93, _, _, _, _)) (c2 := (106, _, _, _, _)) rfl (fun _ => ?_) (fun _ => ?_)
  · refine T_run hD 4 (c' := (97, [(10, 123), (11, x1), (14, 12), (0, x3)], [(14, 12), (11, x1), (0, x3), (10, 123)], m, XX)) rfl ?_
    refine T_call hD (D2 := d_A_writeLine) (q2 := 101) (as := [(10, 123), (0, x3), (11, x1), (14, 12)]) (c1 := (100, [(10, 123), (11, x1), (14, 12), (0, x3)], [], m, XX)) (mk := fun w => (0, (0, 0), w, XX)) (cc := fun v7 => (100, [(10, 123), (11, x1), (14, 12), (0, x3)], [], v7, XX)) rfl rfl (fun y9 h9y => Go.mono (tA_writeLine m x3 x1 hx1 y9 h9y) (by decide)) (fun _ => rfl) (fun v7 => ?_)
    refine T_run hD 2 (c' := (85, [(10, 123), (11, x1), (14, 12), (0, w32 (x3 + 1))], [], v7, XX)) rfl ?_
    exact T_back0 rfl
  · exact T_fin hD rfl (fun h => h)
def fA_writeTo_66 (m : aM) (x1 : Int) : Option aM :=
  gd (1 ≤ m 123 1 ∧ m 123 1 ≤ 15) (
  (fC_addWord m x1 (m 123 1)).bind fun v5 =>
  (fC_add v5 x1 10).bind fun v6 =>
  fA_writeTo_85 v6 x1 0)
set_option maxRecDepth 100000 in
theorem tA_writeTo_66 (r : aR) (m : aM) (x1 : Int) (hx1 : ck x1) (z3 : aV) : aT PB 6 100 r (fun w => r = (0, (0, 0), w, XX)) (fA_writeTo_66 m x1) (66, [(10, 123), (11, x1), (14, 12), z3], [], m, XX) := by
  have hD : aMd PB 100 = d_A_writeTo := rfl
  unfold fA_writeTo_66
  refine T_run hD 3 (c' := (71, [(10, 123), (11, x1), (14, 12), z3], [(40, m 123 1), (11, x1)], m, XX)) rfl ?_
  refine T_gd hD (c1 := (74, [(10, 123), (11, x1), (14, 12), z3], [(41, m 123 1), (11, x1)], m, XX)) rfl (fun g4 => ?_)
  refine T_call hD (D2 := d_C_addWord) (q2 := 110) (as := [(11, x1), (41, m 123 1)]) (c1 := (77, [(10, 123), (11, x1), (14, 12), z3], [], m, XX)) (mk := fun w => (0, (0, 0), w, XX)) (cc := fun v5 => (77, [(10, 123), (11, x1), (14, 12), z3], [], v5, XX)) rfl rfl (fun y9 h9y => Go.mono (tC_addWord m x1 (m 123 1) hx1 y9 h9y) (by decide)) (fun _ => rfl) (fun v5 => ?_)
  refine T_run hD 2 (c' := (80, [(10, 123), (11, x1), (14, 12), z3], [(0, 10), (11, x1)], v5, XX)) rfl ?_
  refine T_call hD (D2 := d_C_add) (q2 := 109) (as := [(11, x1), (0, 10)]) (c1 := (83, [(10, 123), (11, x1), (14, 12), z3], [], v5, XX)) (mk := fun w => (0, (0, 0), w, XX)) (cc := fun v6 => (83, [(10, 123), (11, x1), (14, 12), z3], [], v6, XX)) rfl rfl (fun y9 h9y => Go.mono (tC_add v5 x1 10 hx1 y9 h9y) (by decide)) (fun _ => rfl) (fun v6 => ?_)
  refine T_run hD 2 (c' := (85, [(10, 123), (11, x1), (14, 12), (0, 0)], [], v6, XX)) rfl ?_
  exact tA_writeTo_85 r v6 x1 0 hx1 
def fA_writeTo (m : aM) (x1 : Int) : Option aM :=
  if m 123 1 = 1 then
    (fT_writeNames m x1).bind fun v1 =>
    fA_writeTo_17 v1 x1 0
  else
    if m 123 3 = (-1) then
      fA_writeTo_66 m x1
    else
      (fT_writeName m (m 123 3) x1).bind fun v8 =>
      (fC_add v8 x1 44).bind fun v9 =>
      fA_writeTo_66 v9 x1
set_option maxRecDepth 100000 in
theorem tA_writeTo (m : aM) (x1 : Int) (hx1 : ck x1) : ∀ v, fA_writeTo m x1 = some v → Go PB 6 100 (aEnt d_A_writeTo [(10, 123), (11, x1), (14, 12)] m XX) (0, (0, 0), v, XX) := by
  intro v hv
  have hD : aMd PB 100 = d_A_writeTo := rfl
  obtain ⟨r, hr⟩ : ∃ r : aR, r = (0, (0, 0), v, XX) := ⟨_, rfl⟩
  have h9 : aT PB 6 100 r (fun w => r = (0, (0, 0), w, XX)) (fA_writeTo m x1) (0, [(10, 123), (11, x1), (14, 12), (99, 0)], [], m, XX) := by
    unfold fA_writeTo
    refine T_run hD 3 (c' := (7, [(10, 123), (11, x1), (14, 12), (99, 0)], [(40, 1), (40, m 123 1)], m, XX)) rfl ?_
    refine T_if hD (c1 := (10, _, _, _, _)) (c2 := (43, _, _, _, _)) rfl (fun _ => ?_) (fun _ => ?_)
    · refine T_run hD 2 (c' := (12, [(10, 123), (11, x1), (14, 12), (99, 0)], [(11, x1), (14, 12)], m, XX)) rfl ?_
      refine T_call hD (D2 := d_T_writeNames) (q2 := 163) (as := [(14, 12), (11, x1)]) (c1 := (15, [(10, 123), (11, x1), (14, 12), (99, 0)], [], m, XX)) (mk := fun w => (0, (0, 0), w, XX)) (cc := fun v1 => (15, [(10, 123), (11, x1), (14, 12), (99, 0)], [], v1, XX)) rfl rfl (fun y9 h9y => Go.mono (tT_writeNames m x1 hx1 y9 h9y) (by decide)) (fun _ => rfl) (fun v1 => ?_)
      refine T_run hD 2 (c' := (17, [(10, 123), (11, x1), (14, 12), (0, 0)], [], v1, XX)) rfl ?_
      exact tA_writeTo_17 r v1 x1 0 hx1 
    · refine T_run hD 3 (c' := (48, [(10, 123), (11, x1), (14, 12), (99, 0)], [(0, (-1)), (0, m 123 3)], m, XX)) rfl ?_
      refine T_if hD (c1 := (66, _, _, _, _)) (c2 := (51, _, _, _, _)) rfl (fun _ => ?_) (fun _ => ?_)
      · exact tA_writeTo_66 r m x1 hx1 (99, 0)
      · refine T_run hD 4 (c' := (57, [(10, 123), (11, x1), (14, 12), (99, 0)], [(11, x1), (0, m 123 3), (14, 12)], m, XX)) rfl ?_
        refine T_call hD (D2 := d_T_writeName) (q2 := 164) (as := [(14, 12), (0, m 123 3), (11, x1)]) (c1 := (60, [(10, 123), (11, x1), (14, 12), (99, 0)], [], m, XX)) (mk := fun w => (0, (0, 0), w, XX)) (cc := fun v8 => (60, [(10, 123), (11, x1), (14, 12), (99, 0)], [], v8, XX)) rfl rfl (fun y9 h9y => Go.mono (tT_writeName m (m 123 3) x1 hx1 y9 h9y) (by decide)) (fun _ => rfl) (fun v8 => ?_)
        refine T_run hD 2 (c' := (63, [(10, 123), (11, x1), (14, 12), (99, 0)], [(0, 44), (11, x1)], v8, XX)) rfl ?_
        refine T_call hD (D2 := d_C_add) (q2 := 109) (as := [(11, x1), (0, 44)]) (c1 := (66, [(10, 123), (11, x1), (14, 12), (99, 0)], [], v8, XX)) (mk := fun w => (0, (0, 0), w, XX)) (cc := fun v9 => (66, [(10, 123), (11, x1), (14, 12), (99, 0)], [], v9, XX)) rfl rfl (fun y9 h9y => Go.mono (tC_add v8 x1 44 hx1 y9 h9y) (by decide)) (fun _ => rfl) (fun v9 => ?_)
        exact tA_writeTo_66 r v9 x1 hx1 (99, 0)
  rw [← hr]
  exact h9 v hv hr
