/-! THE CONSTRUCTORS: what they make of an empty world -/
def GE : aG := (0, fun _ => 0, fun _ => 0, fun _ _ => 0)
/-- a field becomes a new array -/
def nA (X : aX) (t : Nat) (len : Int) (x i : Int) : aX := aPutR (aMk X t len len.toNat) x i ((X.1.1 + 1 : Nat) : Int)
/-- a field becomes a new object, which its constructor fills -/
def nO (X : aX) (t k : Nat) (sub : aG → Int → aX) (x i : Int) : aX :=
  aPutR ((sub (aMk X t 0 k).1 ((X.1.1 + 1 : Nat) : Int)).1, (aMk X t 0 k).2.1 + (sub (aMk X t 0 k).1 ((X.1.1 + 1 : Nat) : Int)).2.1, (aMk X t 0 k).2.2 + (sub (aMk X t 0 k).1 ((X.1.1 + 1 : Nat) : Int)).2.2) x i ((X.1.1 + 1 : Nat) : Int)
def gC (k : Int) (G : aG) (x : Int) : aX := nA (G, 0, 0) 30 k x 0
def gR (G : aG) (x : Int) : aX := nA (nA (nA (G, 0, 0) 31 102 x 0) 31 102 x 1) 33 102 x 2
def gT (G : aG) (x : Int) : aX := nA (nA (nA (nA (nA (nA (nO (G, 0, 0) 11 2 (gC 240) x 0) 31 102 x 1) 31 102 x 2) 33 102 x 3) 31 102 x 4) 32 102 x 5) 31 6 x 6
/-- the row of tokens with i of them -/
def gSi (G : aG) (i : Nat) : aX := ((23 + i, (fun y => if 24 ≤ y ∧ y < 24 + (i : Int) then 15 else if y = 23 then 34 else G.2.1 y), (fun y => if 24 ≤ y ∧ y < 24 + (i : Int) then 0 else if y = 23 then 97 else G.2.2.1 y), (fun y j => if y = 23 ∧ 0 ≤ j ∧ j < (i : Int) then 24 + j else if y = 22 ∧ j = 0 then 23 else G.2.2.2 y j)), 1 + i, 97 + 8 * i)
def gS (G : aG) (_ : Int) : aX := gSi G 97
def gQ (G : aG) (x : Int) : aX := nA (nA (nO (G, 0, 0) 16 2 gS x 0) 31 96 x 1) 31 96 x 2
def gA (G : aG) (x : Int) : aX := nA (nA (nA (nA (nA (nA (G, 0, 0) 31 16 x 6) 31 16 x 7) 31 16 x 8) 31 16 x 9) 32 16 x 10) 33 16 x 11
def gX (G : aG) (x : Int) : aX := nO (nO (nO (nO (nO (nO (nO (G, 0, 0) 11 2 (gC 240) x 0) 11 2 (gC 96) x 1) 11 2 (gC 700) x 2) 13 9 gR x 3) 14 9 gT x 4) 12 10 gQ x 5) 10 12 gA x 6
def gM (G : aG) (x : Int) : aX := nA (nA (nA (nA (nA (nA (nA (nA (nA (nA (nA (nA (nA (nA (nA (nA (nA (nA (nA (nA (nA (nA (nA (nA (nA (G, 0, 0) 31 600 x 1) 32 6 x 6) 31 6 x 7) 31 96 x 9) 31 96 x 10) 33 96 x 11) 32 96 x 12) 31 242 x 14) 31 242 x 15) 33 242 x 16) 31 243 x 18) 31 100 x 27) 31 100 x 28) 31 100 x 29) 31 100 x 30) 31 100 x 31) 31 100 x 32) 32 100 x 33) 31 100 x 35) 31 100 x 36) 31 16 x 41) 31 16 x 42) 32 16 x 43) 31 16 x 44) 31 2000 x 46
def iK (m : aM) (x : Int) : aM := mup (mup (mup (mup m x 0 6) x 3 15) x 4 (-1)) x 5 (-1)
def iS (m : aM) : Nat → aM
  | 0 => m
  | i + 1 => iK (iS m i) (24 + (i : Int))
def iX (m : aM) : aM := mup (mup (mup (mup (mup (iS m 97) 21 6 1) 123 1 1) 123 2 (-1)) 123 3 (-1)) 1 7 (-1)
def iM (m : aM) : aM := mup (mup m 130 25 (-1)) 130 37 (-1)
set_option maxRecDepth 100000
theorem kC240 (m : aM) (G : aG) (x : Int) (a b : Nat) : Go PB 1 106 (aEnt d_C_init [(11, x), (0, 240)] m (G, a, b)) (0, (0, 0), m, gC 240 G x) := by
  have hD : aMd PB 106 = d_C_init := rfl
  exact Go.run hD 6 (c' := (11, [(11, x), (0, 240)], [], m, gC 240 G x)) rfl (Go.fin hD rfl)
theorem kC96 (m : aM) (G : aG) (x : Int) (a b : Nat) : Go PB 1 106 (aEnt d_C_init [(11, x), (0, 96)] m (G, a, b)) (0, (0, 0), m, gC 96 G x) := by
  have hD : aMd PB 106 = d_C_init := rfl
  exact Go.run hD 6 (c' := (11, [(11, x), (0, 96)], [], m, gC 96 G x)) rfl (Go.fin hD rfl)
theorem kC700 (m : aM) (G : aG) (x : Int) (a b : Nat) : Go PB 1 106 (aEnt d_C_init [(11, x), (0, 700)] m (G, a, b)) (0, (0, 0), m, gC 700 G x) := by
  have hD : aMd PB 106 = d_C_init := rfl
  exact Go.run hD 6 (c' := (11, [(11, x), (0, 700)], [], m, gC 700 G x)) rfl (Go.fin hD rfl)
theorem kR (m : aM) (G : aG) (x : Int) (a b : Nat) : Go PB 1 143 (aEnt d_R_init [(13, x)] m (G, a, b)) (0, (0, 0), m, gR G x) := by
  have hD : aMd PB 143 = d_R_init := rfl
  exact Go.run hD 14 (c' := (28, [(13, x)], [], m, gR G x)) rfl (Go.fin hD rfl)
theorem kK (m : aM) (G : aG) (x : Int) (a b : Nat) : Go PB 1 175 (aEnt d_K_init [(15, x)] m (G, a, b)) (0, (0, 0), iK m x, (G, 0, 0)) := by
  have hD : aMd PB 175 = d_K_init := rfl
  exact Go.run hD 14 (c' := (27, [(15, x)], [], iK m x, (G, 0, 0))) rfl (Go.fin hD rfl)
theorem kA (m : aM) (G : aG) (x : Int) (a b : Nat) : Go PB 1 94 (aEnt d_A_init [(10, x)] m (G, a, b)) (0, (0, 0), mup (mup (mup m x 1 1) x 2 (-1)) x 3 (-1), gA G x) := by
  have hD : aMd PB 94 = d_A_init := rfl
  exact Go.run hD 35 (c' := (69, [(10, x)], [], mup (mup (mup m x 1 1) x 2 (-1)) x 3 (-1), gA G x)) rfl (Go.fin hD rfl)
theorem kT (m : aM) (G : aG) (x : Int) (a b : Nat) : Go PB 2 151 (aEnt d_T_init [(14, x)] m (G, a, b)) (0, (0, 0), m, gT G x) := by
  have hD : aMd PB 151 = d_T_init := rfl
  refine Go.run hD 6 (c' := (12, [(14, x)], [(0, 240), (11, ((G.1 + 1 : Nat) : Int)), (11, ((G.1 + 1 : Nat) : Int)), (14, x)], m, aMk (G, 0, 0) 11 0 2)) rfl ?_
  refine Go.call hD (D2 := d_C_init) (q2 := 106) (as := [(11, ((G.1 + 1 : Nat) : Int)), (0, 240)]) (c1 := (15, [(14, x)], [(11, ((G.1 + 1 : Nat) : Int)), (14, x)], m, aMk (G, 0, 0) 11 0 2)) (r2 := (0, (0, 0), m, gC 240 (aMk (G, 0, 0) 11 0 2).1 ((G.1 + 1 : Nat) : Int))) rfl rfl (kC240 _ _ _ _ _) rfl ?_
  exact Go.run hD 25 (c' := (66, [(14, x)], [], m, gT G x)) rfl (Go.fin hD rfl)
theorem w32s {i : Nat} (h : i < 1000) : w32 ((i : Int) + 1) = ((i + 1 : Nat) : Int) := by
  unfold w32
  rw [Int32.toInt_ofInt_of_le (by omega) (by omega)]
  omega
theorem gSi_succ (G : aG) (i : Nat) : aPutR (aMk (gSi G i) 15 0 8) 23 (i : Int) (((gSi G i).1.1 + 1 : Nat) : Int) = gSi G (i + 1) := by
  unfold gSi aPutR aMk
  simp only
  refine Prod.ext (Prod.ext ?_ (Prod.ext ?_ (Prod.ext ?_ ?_))) (Prod.ext ?_ ?_)
  · simp only; omega
  · simp only
    funext y
    by_cases h1 : y = ((23 + i + 1 : Nat) : Int)
    · rw [if_pos h1, if_pos (by omega)]
    · rw [if_neg h1]
      by_cases h2 : 24 ≤ y ∧ y < 24 + (i : Int)
      · rw [if_pos h2, if_pos (by omega)]
      · rw [if_neg h2, if_neg (show ¬ (24 ≤ y ∧ y < 24 + ((i + 1 : Nat) : Int)) by omega)]
  · simp only
    funext y
    by_cases h1 : y = ((23 + i + 1 : Nat) : Int)
    · rw [if_pos h1, if_pos (by omega)]
    · rw [if_neg h1]
      by_cases h2 : 24 ≤ y ∧ y < 24 + (i : Int)
      · rw [if_pos h2, if_pos (by omega)]
      · rw [if_neg h2, if_neg (show ¬ (24 ≤ y ∧ y < 24 + ((i + 1 : Nat) : Int)) by omega)]
  · simp only
    funext y j
    by_cases h1 : y = 23 ∧ j = (i : Int)
    · rw [if_pos h1, if_pos (by omega)]
      omega
    · rw [if_neg h1]
      by_cases h2 : y = 23 ∧ 0 ≤ j ∧ j < (i : Int)
      · rw [if_pos h2, if_pos (by omega)]
      · rw [if_neg h2, if_neg (show ¬ (y = 23 ∧ 0 ≤ j ∧ j < ((i + 1 : Nat) : Int)) by omega)]
  · simp only; omega
  · simp only; omega
theorem gSi_zero (S : Int → Nat) (L : Int → Int) (R : Int → Int → Int) : aPutR (aMk ((22, S, L, R), 0, 0) 34 97 97) 22 0 23 = gSi (22, S, L, R) 0 := by
  unfold gSi aPutR aMk
  simp only
  refine Prod.ext (Prod.ext ?_ (Prod.ext ?_ (Prod.ext ?_ ?_))) (Prod.ext ?_ ?_)
  · rfl
  · simp only
    funext y
    rw [if_neg (show ¬ (24 ≤ y ∧ y < 24 + ((0 : Nat) : Int)) by omega)]
    rfl
  · simp only
    funext y
    rw [if_neg (show ¬ (24 ≤ y ∧ y < 24 + ((0 : Nat) : Int)) by omega)]
    rfl
  · simp only
    funext y j
    rw [if_neg (show ¬ (y = 23 ∧ 0 ≤ j ∧ j < ((0 : Nat) : Int)) by omega)]
  · rfl
  · rfl
theorem kSl (G : aG) (m : aM) : ∀ (n i : Nat), n + i = 97 → Go PB 2 178 (15, [(16, 22), (0, (i : Int))], [], iS m i, gSi G i) (0, (0, 0), iS m 97, gSi G 97) := by
  have hD : aMd PB 178 = d_S_init := rfl
  intro n
  induction n with
  | zero =>
    intro i hi
    have : i = 97 := by omega
    subst this
    exact Go.run hD 5 (c' := (43, [(16, 22), (0, 97)], [], iS m 97, gSi G 97)) rfl (Go.fin hD rfl)
  | succ n ih =>
    intro i hi
    refine Go.run hD 4 (c' := (21, [(16, 22), (0, (i : Int))], [(0, 97), (0, (i : Int))], iS m i, gSi G i)) rfl ?_
    refine Go.step hD (c' := (24, [(16, 22), (0, (i : Int))], [], iS m i, gSi G i)) ?_ ?_
    · show (if (i : Int) < 97 then _ else _) = _
      rw [if_pos (by omega)]
    refine Go.run hD 5 (c' := (33, [(16, 22), (0, (i : Int))], [(15, (((gSi G i).1.1 + 1 : Nat) : Int)), (15, (((gSi G i).1.1 + 1 : Nat) : Int)), (0, (i : Int)), (34, 23)], iS m i, aMk (gSi G i) 15 0 8)) rfl ?_
    refine Go.call hD (D2 := d_K_init) (q2 := 175) (as := [(15, (((gSi G i).1.1 + 1 : Nat) : Int))]) (c1 := (36, [(16, 22), (0, (i : Int))], [(15, (((gSi G i).1.1 + 1 : Nat) : Int)), (0, (i : Int)), (34, 23)], iS m i, aMk (gSi G i) 15 0 8)) (r2 := (0, (0, 0), iK (iS m i) (((gSi G i).1.1 + 1 : Nat) : Int), ((aMk (gSi G i) 15 0 8).1, 0, 0))) (c2 := (36, [(16, 22), (0, (i : Int))], [(15, (((gSi G i).1.1 + 1 : Nat) : Int)), (0, (i : Int)), (34, 23)], iK (iS m i) (((gSi G i).1.1 + 1 : Nat) : Int), aMk (gSi G i) 15 0 8)) rfl rfl (kK _ _ _ _ _) rfl ?_
    have e1 : (((gSi G i).1.1 + 1 : Nat) : Int) = 24 + (i : Int) := by show ((23 + i + 1 : Nat) : Int) = _; omega
    refine Go.step hD (c' := (37, [(16, 22), (0, (i : Int))], [], iS m (i + 1), gSi G (i + 1))) ?_ ?_
    · show (if 0 ≤ (i : Int) ∧ (i : Int) < aLen (aMk (gSi G i) 15 0 8) 23 then _ else _) = _
      have e2 : aLen (aMk (gSi G i) 15 0 8) 23 = 97 := by
        show (if (23 : Int) = (((gSi G i).1.1 + 1 : Nat) : Int) then (0 : Int) else if 24 ≤ (23 : Int) ∧ (23 : Int) < 24 + (i : Int) then 0 else if (23 : Int) = 23 then 97 else G.2.2.1 23) = 97
        rw [if_neg (by rw [e1]; omega), if_neg (by omega), if_pos rfl]
      rw [if_pos (by rw [e2]; omega), gSi_succ, e1]
      rfl
    refine Go.run hD 2 (c' := (15, [(16, 22), (0, w32 ((i : Int) + 1))], [], iS m (i + 1), gSi G (i + 1))) rfl ?_
    rw [w32s (by omega)]
    exact ih (i + 1) (by omega)
theorem kTok (m : aM) (S : Int → Nat) (L : Int → Int) (R : Int → Int → Int) (a b : Nat) : Go PB 2 178 (aEnt d_S_init [(16, 22)] m ((22, S, L, R), a, b)) (0, (0, 0), iS m 97, gS (22, S, L, R) 22) := by
  have hD : aMd PB 178 = d_S_init := rfl
  refine Go.run hD 8 (c' := (15, [(16, 22), (0, 0)], [], m, aPutR (aMk ((22, S, L, R), 0, 0) 34 97 97) 22 0 23)) rfl ?_
  rw [gSi_zero]
  exact kSl (22, S, L, R) m 97 0 rfl
theorem kQ (m : aM) (S : Int → Nat) (L : Int → Int) (R : Int → Int → Int) (a b : Nat) : Go PB 3 123 (aEnt d_Q_init [(12, 21)] m ((21, S, L, R), a, b)) (0, (0, 0), mup (iS m 97) 21 6 1, gQ (21, S, L, R) 21) := by
  have hD : aMd PB 123 = d_Q_init := rfl
  refine Go.run hD 5 (c' := (9, [(12, 21)], [(16, 22), (16, 22), (12, 21)], m, aMk ((21, S, L, R), 0, 0) 16 0 2)) rfl ?_
  refine Go.call hD (D2 := d_S_init) (q2 := 178) (as := [(16, 22)]) (c1 := (12, [(12, 21)], [(16, 22), (12, 21)], m, aMk ((21, S, L, R), 0, 0) 16 0 2)) (r2 := (0, (0, 0), iS m 97, gS (aMk ((21, S, L, R), 0, 0) 16 0 2).1 22)) rfl rfl (kTok _ _ _ _ _ _) rfl ?_
  exact Go.run hD 12 (c' := (38, [(12, 21)], [], mup (iS m 97) 21 6 1, gQ (21, S, L, R) 21)) rfl (Go.fin hD rfl)
theorem kX (m : aM) (S : Int → Nat) (L : Int → Int) (R : Int → Int → Int) (a b : Nat) : Go PB 4 0 (aEnt d_X_init [(17, 1)] m ((1, S, L, R), a, b)) (0, (0, 0), iX m, gX (1, S, L, R) 1) := by
  have hD : aMd PB 0 = d_X_init := rfl
  refine Go.run hD 6 (c' := (12, [(17, 1)], [(0, 240), (11, 2), (11, 2), (17, 1)], m, (aMk ((1, S, L, R), 0, 0) 11 0 2))) rfl ?_
  refine Go.call hD (D2 := d_C_init) (q2 := 106) (as := [(11, 2), (0, 240)]) (c1 := (15, [(17, 1)], [(11, 2), (17, 1)], m, (aMk ((1, S, L, R), 0, 0) 11 0 2))) (r2 := (0, (0, 0), m, gC 240 (aMk ((1, S, L, R), 0, 0) 11 0 2).1 2)) rfl rfl (Go.mono (kC240 _ _ _ _ _) (by decide)) rfl ?_
  refine Go.run hD 5 (c' := (25, [(17, 1)], [(0, 96), (11, 4), (11, 4), (17, 1)], m, (aMk (nO ((1, S, L, R), 0, 0) 11 2 (gC 240) 1 0) 11 0 2))) rfl ?_
  refine Go.call hD (D2 := d_C_init) (q2 := 106) (as := [(11, 4), (0, 96)]) (c1 := (28, [(17, 1)], [(11, 4), (17, 1)], m, (aMk (nO ((1, S, L, R), 0, 0) 11 2 (gC 240) 1 0) 11 0 2))) (r2 := (0, (0, 0), m, gC 96 (aMk (nO ((1, S, L, R), 0, 0) 11 2 (gC 240) 1 0) 11 0 2).1 4)) rfl rfl (Go.mono (kC96 _ _ _ _ _) (by decide)) rfl ?_
  refine Go.run hD 5 (c' := (39, [(17, 1)], [(0, 700), (11, 6), (11, 6), (17, 1)], m, (aMk (nO (nO ((1, S, L, R), 0, 0) 11 2 (gC 240) 1 0) 11 2 (gC 96) 1 1) 11 0 2))) rfl ?_
  refine Go.call hD (D2 := d_C_init) (q2 := 106) (as := [(11, 6), (0, 700)]) (c1 := (42, [(17, 1)], [(11, 6), (17, 1)], m, (aMk (nO (nO ((1, S, L, R), 0, 0) 11 2 (gC 240) 1 0) 11 2 (gC 96) 1 1) 11 0 2))) (r2 := (0, (0, 0), m, gC 700 (aMk (nO (nO ((1, S, L, R), 0, 0) 11 2 (gC 240) 1 0) 11 2 (gC 96) 1 1) 11 0 2).1 6)) rfl rfl (Go.mono (kC700 _ _ _ _ _) (by decide)) rfl ?_
  refine Go.run hD 4 (c' := (50, [(17, 1)], [(13, 8), (13, 8), (17, 1)], m, (aMk (nO (nO (nO ((1, S, L, R), 0, 0) 11 2 (gC 240) 1 0) 11 2 (gC 96) 1 1) 11 2 (gC 700) 1 2) 13 0 9))) rfl ?_
  refine Go.call hD (D2 := d_R_init) (q2 := 143) (as := [(13, 8)]) (c1 := (53, [(17, 1)], [(13, 8), (17, 1)], m, (aMk (nO (nO (nO ((1, S, L, R), 0, 0) 11 2 (gC 240) 1 0) 11 2 (gC 96) 1 1) 11 2 (gC 700) 1 2) 13 0 9))) (r2 := (0, (0, 0), m, gR (aMk (nO (nO (nO ((1, S, L, R), 0, 0) 11 2 (gC 240) 1 0) 11 2 (gC 96) 1 1) 11 2 (gC 700) 1 2) 13 0 9).1 8)) rfl rfl (Go.mono (kR _ _ _ _ _) (by decide)) rfl ?_
  refine Go.run hD 4 (c' := (61, [(17, 1)], [(14, 12), (14, 12), (17, 1)], m, (aMk (nO (nO (nO (nO ((1, S, L, R), 0, 0) 11 2 (gC 240) 1 0) 11 2 (gC 96) 1 1) 11 2 (gC 700) 1 2) 13 9 (gR) 1 3) 14 0 9))) rfl ?_
  refine Go.call hD (D2 := d_T_init) (q2 := 151) (as := [(14, 12)]) (c1 := (64, [(17, 1)], [(14, 12), (17, 1)], m, (aMk (nO (nO (nO (nO ((1, S, L, R), 0, 0) 11 2 (gC 240) 1 0) 11 2 (gC 96) 1 1) 11 2 (gC 700) 1 2) 13 9 (gR) 1 3) 14 0 9))) (r2 := (0, (0, 0), m, gT (aMk (nO (nO (nO (nO ((1, S, L, R), 0, 0) 11 2 (gC 240) 1 0) 11 2 (gC 96) 1 1) 11 2 (gC 700) 1 2) 13 9 (gR) 1 3) 14 0 9).1 12)) rfl rfl (Go.mono (kT _ _ _ _ _) (by decide)) rfl ?_
  refine Go.run hD 4 (c' := (72, [(17, 1)], [(12, 21), (12, 21), (17, 1)], m, (aMk (nO (nO (nO (nO (nO ((1, S, L, R), 0, 0) 11 2 (gC 240) 1 0) 11 2 (gC 96) 1 1) 11 2 (gC 700) 1 2) 13 9 (gR) 1 3) 14 9 (gT) 1 4) 12 0 10))) rfl ?_
  refine Go.call hD (D2 := d_Q_init) (q2 := 123) (as := [(12, 21)]) (c1 := (75, [(17, 1)], [(12, 21), (17, 1)], m, (aMk (nO (nO (nO (nO (nO ((1, S, L, R), 0, 0) 11 2 (gC 240) 1 0) 11 2 (gC 96) 1 1) 11 2 (gC 700) 1 2) 13 9 (gR) 1 3) 14 9 (gT) 1 4) 12 0 10))) (r2 := (0, (0, 0), mup (iS m 97) 21 6 1, gQ (aMk (nO (nO (nO (nO (nO ((1, S, L, R), 0, 0) 11 2 (gC 240) 1 0) 11 2 (gC 96) 1 1) 11 2 (gC 700) 1 2) 13 9 (gR) 1 3) 14 9 (gT) 1 4) 12 0 10).1 21)) rfl rfl (Go.mono (kQ _ _ _ _ _ _) (by decide)) rfl ?_
  refine Go.run hD 4 (c' := (83, [(17, 1)], [(10, 123), (10, 123), (17, 1)], mup (iS m 97) 21 6 1, (aMk (nO (nO (nO (nO (nO (nO ((1, S, L, R), 0, 0) 11 2 (gC 240) 1 0) 11 2 (gC 96) 1 1) 11 2 (gC 700) 1 2) 13 9 (gR) 1 3) 14 9 (gT) 1 4) 12 10 (gQ) 1 5) 10 0 12))) rfl ?_
  refine Go.call hD (D2 := d_A_init) (q2 := 94) (as := [(10, 123)]) (c1 := (86, [(17, 1)], [(10, 123), (17, 1)], mup (iS m 97) 21 6 1, (aMk (nO (nO (nO (nO (nO (nO ((1, S, L, R), 0, 0) 11 2 (gC 240) 1 0) 11 2 (gC 96) 1 1) 11 2 (gC 700) 1 2) 13 9 (gR) 1 3) 14 9 (gT) 1 4) 12 10 (gQ) 1 5) 10 0 12))) (r2 := (0, (0, 0), mup (mup (mup (mup (iS m 97) 21 6 1) 123 1 1) 123 2 (-1)) 123 3 (-1), gA (aMk (nO (nO (nO (nO (nO (nO ((1, S, L, R), 0, 0) 11 2 (gC 240) 1 0) 11 2 (gC 96) 1 1) 11 2 (gC 700) 1 2) 13 9 (gR) 1 3) 14 9 (gT) 1 4) 12 10 (gQ) 1 5) 10 0 12).1 123)) rfl rfl (Go.mono (kA _ _ _ _ _) (by decide)) rfl ?_
  exact Go.run hD 4 (c' := (94, [(17, 1)], [], iX m, gX (1, S, L, R) 1)) rfl (Go.fin hD rfl)
theorem kM (m : aM) (G : aG) (a b : Nat) : Go PB 1 19 (aEnt d_M_init [(18, 130)] m (G, a, b)) (0, (0, 0), iM m, gM G 130) := by
  have hD : aMd PB 19 = d_M_init := rfl
  exact Go.run hD 108 (c' := (220, [(18, 130)], [], iM m, gM G 130)) rfl (Go.fin hD rfl)
