/-! THE LAW'S TURNS -/
set_option maxRecDepth 100000
theorem mkN_scr (v : Nat × Int × aM) : mkN v (-1) = v.2.2 (-1) := by
  unfold mkN
  by_cases h : v.1 = 1
  · rw [if_pos h]
    funext j
    exact mup_ref (by decide)
  · rw [if_neg h]
theorem mkZ_le (k : Nat) : (mkZ k).1 ≤ 1 ∧ (mkZ k).2 ≤ 6 := by
  unfold mkZ
  by_cases h : k = 1
  · rw [if_pos h]; exact ⟨by decide, by decide⟩
  · rw [if_neg h]; exact ⟨by decide, by decide⟩
/-- a call that may throw: both answer, and alike -/
def OkT (I : aM → Prop) (ks : Nat → Prop) (kd : Nat → Int) (fX : aM → Option (Nat × Int × aM)) (fM : aM → Option (Int × aM)) : Prop := ∀ m, I m → ∃ v v2, fX m = some v ∧ (v.1 = 1 ∨ ks v.1) ∧ v.2.2 (-1) = m (-1) ∧ fM (mkN v) = some v2 ∧ v2.2 130 0 = kd v.1 ∧ (v.1 = 1 → v.2.1 = v2.1) ∧ v2.2 156 = mkN v 156 ∧ I v2.2
/-- a call that may not -/
def OkV (I : aM → Prop) (fX fM : aM → Option (Int × aM)) : Prop := ∀ m, I m → ∃ v v2, fX m = some v ∧ v.2 (-1) = m (-1) ∧ fM v.2 = some v2 ∧ v.1 = v2.1 ∧ I v2.2
def i32 (x : Int) : Prop := -2147483648 ≤ x ∧ x < 2147483648
def i64 (x : Int) : Prop := -9223372036854775808 ≤ x ∧ x < 9223372036854775808
theorem lOr_rng (a b : Int) : i64 (lOr a b) := ⟨Int64.le_toInt _, Int64.toInt_lt _⟩
/-- what the pure part owes -/
def OkAll (I : aM → Prop) : Prop :=
  (∀ c w n : Int, (c = 0 ∨ c = 1) → i64 w → i32 n → OkV I (fun m => fX_put m c w n) (fun m => fM_put m c w n)) ∧
  (∀ c n : Int, (c = 0 ∨ c = 1) → i32 n → OkV I (fun m => some (fX_cut m c n)) (fun m => some (fM_cut m c n))) ∧
  OkT I (fun k => k = 2 ∨ k = 3 ∨ k = 4 ∨ k = 5) kd_load fX_load fM_load ∧
  OkV I (fun m => some (fX_columns m, m)) (fun m => some (fM_columns m)) ∧
  (∀ x : Int, i32 x → OkT I (fun k => k = 6) kd_type (fun m => fX_type m x) (fun m => fM_type m x)) ∧
  (∀ x y : Int, i32 x → i32 y → OkT I (fun k => k = 6) kd_isMissing (fun m => fX_isMissing m x y) (fun m => fM_isMissing m x y)) ∧
  (∀ x y : Int, i32 x → i32 y → OkT I (fun k => k = 6 ∨ k = 3 ∨ k = 4) kd_value (fun m => fX_value m x y) (fun m => fM_value m x y)) ∧
  OkT I (fun k => k = 3 ∨ k = 2 ∨ k = 5) kd_ask fX_ask fM_ask ∧
  OkV I (fun m => some (fX_fault m, m)) (fun m => some (fM_fault m)) ∧
  OkV I (fun m => some (fX_lines m, m)) (fun m => some (fM_lines m)) ∧
  (∀ x : Int, i32 x → OkT I (fun k => k = 3 ∨ k = 6) kd_line (fun m => fX_line m x) (fun m => fM_line m x)) ∧
  (∀ x : Int, i32 x → OkT I (fun k => k = 3 ∨ k = 6 ∨ k = 4) kd_aggregate (fun m => fX_aggregate m x) (fun m => fM_aggregate m x)) ∧
  (∀ x : Int, (x = 0 ∨ x = 1) → OkT I (fun k => k = 3) kd_write (fun m => fX_write m x) (fun m => fM_write m x)) ∧
  (∀ x : Int, i32 x → OkT I (fun k => k = 6) kd_out (fun m => fX_out m x) (fun m => fM_out m x))
/-- the law comes from c to its end with 1, with a room of at most A and Bd -/
def Ev (A Bd : Nat) (c : aC) : Prop := ∃ m' a' b', a' ≤ A ∧ b' ≤ Bd ∧ Go PB 43 197 c (1, (0, 1), m', (G0, a', b'))
def lLc (i : Int) (z5 z6 z7 : aV) : List aV := [(44, -1), (17, 1), (18, 130), (32, 156), (0, i), z5, z6, z7]
/-- the next turn, from whatever state a call leaves -/
def Nx (I : aM → Prop) (i : Int) (a b A Bd : Nat) : Prop := ∀ m' a' b' z5 z6 z7, I m' → a' ≤ a + 1 → b' ≤ b + 6 → Ev A Bd (822, lLc i z5 z6 z7, [], m', (G0, a', b'))
theorem b01 (v : Int) : (if v = 0 then (0 : Int) else 1) = 0 ∨ (if v = 0 then (0 : Int) else 1) = 1 := by
  by_cases h : v = 0
  · rw [if_pos h]; exact Or.inl rfl
  · rw [if_neg h]; exact Or.inr rfl
theorem out_at {v : Nat × Int × aM} {m2 : aM} (h : m2 156 = mkN v 156) (h1 : v.1 = 1) : m2 156 0 = v.2.1 := by
  rw [h]
  unfold mkN
  rw [if_pos h1]
  exact mup_same _ _ _ _
theorem b_isMissing (m : aM) (x y : Int) (v : Nat × Int × aM) (h : fX_isMissing m x y = some v) (h1 : v.1 = 1) : v.2.1 = 0 ∨ v.2.1 = 1 := by
  unfold fX_isMissing at h
  by_cases h2 : fT_hasCell m x y = 0
  · rw [if_pos h2] at h
    cases h
    cases h1
  · rw [if_neg h2] at h
    cases e : fT_lacks m x y with
    | none => rw [e] at h; cases h
    | some w =>
      rw [e] at h
      have h' : gd (w = 0 ∨ w = 1) (some ((1, w, m) : Nat × Int × aM)) = some v := h
      unfold gd at h'
      by_cases h3 : w = 0 ∨ w = 1
      · rw [if_pos h3] at h'
        cases h'
        exact h3
      · rw [if_neg h3] at h'
        cases h'
theorem kd1_load {k : Nat} (h : k = 1 ∨ (k = 2 ∨ k = 3 ∨ k = 4 ∨ k = 5)) (e : kd_load k = 0) : k = 1 := by
  rcases h with h | h | h | h | h
  · exact h
  · subst h; exact absurd e (by decide)
  · subst h; exact absurd e (by decide)
  · subst h; exact absurd e (by decide)
  · subst h; exact absurd e (by decide)
theorem kd1_type {k : Nat} (h : k = 1 ∨ k = 6) (e : kd_type k = 0) : k = 1 := by
  rcases h with h | h
  · exact h
  · subst h; exact absurd e (by decide)
theorem kd1_isMissing {k : Nat} (h : k = 1 ∨ k = 6) (e : kd_isMissing k = 0) : k = 1 := by
  rcases h with h | h
  · exact h
  · subst h; exact absurd e (by decide)
theorem kd1_value {k : Nat} (h : k = 1 ∨ (k = 6 ∨ k = 3 ∨ k = 4)) (e : kd_value k = 0) : k = 1 := by
  rcases h with h | h | h | h
  · exact h
  · subst h; exact absurd e (by decide)
  · subst h; exact absurd e (by decide)
  · subst h; exact absurd e (by decide)
theorem kd1_ask {k : Nat} (h : k = 1 ∨ (k = 3 ∨ k = 2 ∨ k = 5)) (e : kd_ask k = 0) : k = 1 := by
  rcases h with h | h | h | h
  · exact h
  · subst h; exact absurd e (by decide)
  · subst h; exact absurd e (by decide)
  · subst h; exact absurd e (by decide)
theorem kd1_line {k : Nat} (h : k = 1 ∨ (k = 3 ∨ k = 6)) (e : kd_line k = 0) : k = 1 := by
  rcases h with h | h | h
  · exact h
  · subst h; exact absurd e (by decide)
  · subst h; exact absurd e (by decide)
theorem kd1_aggregate {k : Nat} (h : k = 1 ∨ (k = 3 ∨ k = 6 ∨ k = 4)) (e : kd_aggregate k = 0) : k = 1 := by
  rcases h with h | h | h | h
  · exact h
  · subst h; exact absurd e (by decide)
  · subst h; exact absurd e (by decide)
  · subst h; exact absurd e (by decide)
theorem kd1_write {k : Nat} (h : k = 1 ∨ k = 3) (e : kd_write k = 0) : k = 1 := by
  rcases h with h | h
  · exact h
  · subst h; exact absurd e (by decide)
theorem kd1_out {k : Nat} (h : k = 1 ∨ k = 6) (e : kd_out k = 0) : k = 1 := by
  rcases h with h | h
  · exact h
  · subst h; exact absurd e (by decide)
section Turns
variable {I : aM → Prop} {S : Int → Int} {m : aM} {i : Int} {a b A Bd : Nat} {z5 z6 z7 : aV}

theorem turn_put (hok : OkAll I) (hS : ∀ j, i32 (S j)) (hI : ∀ m, I m → m (-1) = S) (hm : I m) (h1 : 0 ≤ w32 (i + 1) ∧ w32 (i + 1) < S (-1)) (h2 : 0 ≤ w32 (i + 2) ∧ w32 (i + 2) < S (-1)) (h3 : 0 ≤ w32 (i + 3) ∧ w32 (i + 3) < S (-1)) (h4 : 0 ≤ w32 (i + 4) ∧ w32 (i + 4) < S (-1)) (K : Nx I i a b A Bd) : Ev A Bd (108, lLc i z5 z6 z7, [], m, (G0, a, b)) := by
  have hD : aMd PB 197 = d_L_law := rfl
  have hmS : m (-1) = S := hI m hm
  obtain ⟨v, v2, e1, e3, e4, e6, e7⟩ := (hok.1) (if S (w32 (i + 1)) = 0 then 0 else 1) (lOr (lShl (S (w32 (i + 2))) 32) (lAnd (S (w32 (i + 3))) 4294967295)) (S (w32 (i + 4))) (b01 _) (lOr_rng _ _) (hS _) m hm
  try simp only at e1 e4
  have hm1 : v.2 (-1) = S := e3.trans hmS
  have hg1 : Go PB 42 1 (aEnt d_X_put [(17, 1), (0, (if S (w32 (i + 1)) = 0 then 0 else 1)), (1, (lOr (lShl (S (w32 (i + 2))) 32) (lAnd (S (w32 (i + 3))) 4294967295))), (0, (S (w32 (i + 4))))] m XX) (1, (0, v.1), v.2, XX) := Go.mono (tX_put m (if S (w32 (i + 1)) = 0 then 0 else 1) (lOr (lShl (S (w32 (i + 2))) 32) (lAnd (S (w32 (i + 3))) 4294967295)) (S (w32 (i + 4))) v e1) (by decide)
  have hg2 : Go PB 42 22 (aEnt d_M_put [(18, 130), (0, (if S (w32 (i + 1)) = 0 then 0 else 1)), (1, (lOr (lShl (S (w32 (i + 2))) 32) (lAnd (S (w32 (i + 3))) 4294967295))), (0, (S (w32 (i + 4))))] v.2 XX) (1, (0, v2.1), v2.2, XX) := Go.mono (tM_put v.2 (if S (w32 (i + 1)) = 0 then 0 else 1) (lOr (lShl (S (w32 (i + 2))) 32) (lAnd (S (w32 (i + 3))) 4294967295)) (S (w32 (i + 4))) v2 e4) (by decide)
  obtain ⟨m9, a9, b9, ha, hb, hg⟩ := K v2.2 a b z5 z6 z7 e7 (by omega) (by omega)
  refine ⟨m9, a9, b9, ha, hb, ?_⟩
  refine Go.run hD 5 (c' := (114, [(44, -1), (17, 1), (18, 130), (32, 156), (0, i), z5, z6, z7], [(0, w32 (i + 1)), (44, -1), (17, 1)], m, (G0, a, b))) rfl ?_
  refine G_scr hD rfl hmS h1 ?_
  refine G_bool hD rfl rfl rfl rfl ?_
  refine Go.run hD 4 (c' := (128, [(44, -1), (17, 1), (18, 130), (32, 156), (0, i), z5, z6, z7], [(0, w32 (i + 2)), (44, -1), (0, if S (w32 (i + 1)) = 0 then 0 else 1), (17, 1)], m, (G0, a, b))) rfl ?_
  refine G_scr hD rfl hmS h2 ?_
  refine Go.run hD 7 (c' := (138, [(44, -1), (17, 1), (18, 130), (32, 156), (0, i), z5, z6, z7], [(0, w32 (i + 3)), (44, -1), (1, lShl (S (w32 (i + 2))) 32), (0, if S (w32 (i + 1)) = 0 then 0 else 1), (17, 1)], m, (G0, a, b))) rfl ?_
  refine G_scr hD rfl hmS h3 ?_
  refine Go.run hD 8 (c' := (150, [(44, -1), (17, 1), (18, 130), (32, 156), (0, i), z5, z6, z7], [(0, w32 (i + 4)), (44, -1), (1, lOr (lShl (S (w32 (i + 2))) 32) (lAnd (S (w32 (i + 3))) 4294967295)), (0, if S (w32 (i + 1)) = 0 then 0 else 1), (17, 1)], m, (G0, a, b))) rfl ?_
  refine G_scr hD rfl hmS h4 ?_
  refine Go.call hD (D2 := d_X_put) (q2 := 1) (as := [(17, 1), (0, if S (w32 (i + 1)) = 0 then 0 else 1), (1, lOr (lShl (S (w32 (i + 2))) 32) (lAnd (S (w32 (i + 3))) 4294967295)), (0, S (w32 (i + 4)))]) (c1 := (154, [(44, -1), (17, 1), (18, 130), (32, 156), (0, i), z5, z6, z7], [], m, (G0, a, b))) (r2 := (1, (0, v.1), v.2, XX)) (c2 := (154, [(44, -1), (17, 1), (18, 130), (32, 156), (0, i), z5, z6, z7], [(0, v.1)], v.2, (G0, a, b))) rfl rfl hg1 rfl ?_
  refine Go.run hD 5 (c' := (160, [(44, -1), (17, 1), (18, 130), (32, 156), (0, i), z5, z6, z7], [(0, w32 (i + 1)), (44, -1), (18, 130), (0, v.1)], v.2, (G0, a, b))) rfl ?_
  refine G_scr hD rfl hm1 h1 ?_
  refine G_bool hD rfl rfl rfl rfl ?_
  refine Go.run hD 4 (c' := (174, [(44, -1), (17, 1), (18, 130), (32, 156), (0, i), z5, z6, z7], [(0, w32 (i + 2)), (44, -1), (0, if S (w32 (i + 1)) = 0 then 0 else 1), (18, 130), (0, v.1)], v.2, (G0, a, b))) rfl ?_
  refine G_scr hD rfl hm1 h2 ?_
  refine Go.run hD 7 (c' := (184, [(44, -1), (17, 1), (18, 130), (32, 156), (0, i), z5, z6, z7], [(0, w32 (i + 3)), (44, -1), (1, lShl (S (w32 (i + 2))) 32), (0, if S (w32 (i + 1)) = 0 then 0 else 1), (18, 130), (0, v.1)], v.2, (G0, a, b))) rfl ?_
  refine G_scr hD rfl hm1 h3 ?_
  refine Go.run hD 8 (c' := (196, [(44, -1), (17, 1), (18, 130), (32, 156), (0, i), z5, z6, z7], [(0, w32 (i + 4)), (44, -1), (1, lOr (lShl (S (w32 (i + 2))) 32) (lAnd (S (w32 (i + 3))) 4294967295)), (0, if S (w32 (i + 1)) = 0 then 0 else 1), (18, 130), (0, v.1)], v.2, (G0, a, b))) rfl ?_
  refine G_scr hD rfl hm1 h4 ?_
  refine Go.call hD (D2 := d_M_put) (q2 := 22) (as := [(18, 130), (0, if S (w32 (i + 1)) = 0 then 0 else 1), (1, lOr (lShl (S (w32 (i + 2))) 32) (lAnd (S (w32 (i + 3))) 4294967295)), (0, S (w32 (i + 4)))]) (c1 := (200, [(44, -1), (17, 1), (18, 130), (32, 156), (0, i), z5, z6, z7], [(0, v.1)], v.2, (G0, a, b))) (r2 := (1, (0, v2.1), v2.2, XX)) (c2 := (200, [(44, -1), (17, 1), (18, 130), (32, 156), (0, i), z5, z6, z7], [(0, v2.1), (0, v.1)], v2.2, (G0, a, b))) rfl rfl hg2 rfl ?_
  refine G_eq hD rfl e6 rfl ?_
  exact hg
theorem turn_cut (hok : OkAll I) (hS : ∀ j, i32 (S j)) (hI : ∀ m, I m → m (-1) = S) (hm : I m) (h1 : 0 ≤ w32 (i + 1) ∧ w32 (i + 1) < S (-1)) (h2 : 0 ≤ w32 (i + 2) ∧ w32 (i + 2) < S (-1)) (h3 : 0 ≤ w32 (i + 3) ∧ w32 (i + 3) < S (-1)) (h4 : 0 ≤ w32 (i + 4) ∧ w32 (i + 4) < S (-1)) (K : Nx I i a b A Bd) : Ev A Bd (205, lLc i z5 z6 z7, [], m, (G0, a, b)) := by
  have hD : aMd PB 197 = d_L_law := rfl
  have hmS : m (-1) = S := hI m hm
  obtain ⟨v, v2, e1, e3, e4, e6, e7⟩ := (hok.2.1) (if S (w32 (i + 1)) = 0 then 0 else 1) (S (w32 (i + 2))) (b01 _) (hS _) m hm
  try simp only at e1 e4
  have hm1 : v.2 (-1) = S := e3.trans hmS
  have hg1 : Go PB 42 2 (aEnt d_X_cut [(17, 1), (0, (if S (w32 (i + 1)) = 0 then 0 else 1)), (0, (S (w32 (i + 2))))] m XX) (1, (0, v.1), v.2, XX) := by
    cases e1
    exact Go.mono (tX_cut m (if S (w32 (i + 1)) = 0 then 0 else 1) (S (w32 (i + 2)))) (by decide)
  have hg2 : Go PB 42 23 (aEnt d_M_cut [(18, 130), (0, (if S (w32 (i + 1)) = 0 then 0 else 1)), (0, (S (w32 (i + 2))))] v.2 XX) (1, (0, v2.1), v2.2, XX) := by
    cases e4
    exact Go.mono (tM_cut v.2 (if S (w32 (i + 1)) = 0 then 0 else 1) (S (w32 (i + 2)))) (by decide)
  obtain ⟨m9, a9, b9, ha, hb, hg⟩ := K v2.2 a b z5 z6 z7 e7 (by omega) (by omega)
  refine ⟨m9, a9, b9, ha, hb, ?_⟩
  refine Go.run hD 5 (c' := (211, [(44, -1), (17, 1), (18, 130), (32, 156), (0, i), z5, z6, z7], [(0, w32 (i + 1)), (44, -1), (17, 1)], m, (G0, a, b))) rfl ?_
  refine G_scr hD rfl hmS h1 ?_
  refine G_bool hD rfl rfl rfl rfl ?_
  refine Go.run hD 4 (c' := (225, [(44, -1), (17, 1), (18, 130), (32, 156), (0, i), z5, z6, z7], [(0, w32 (i + 2)), (44, -1), (0, if S (w32 (i + 1)) = 0 then 0 else 1), (17, 1)], m, (G0, a, b))) rfl ?_
  refine G_scr hD rfl hmS h2 ?_
  refine Go.call hD (D2 := d_X_cut) (q2 := 2) (as := [(17, 1), (0, if S (w32 (i + 1)) = 0 then 0 else 1), (0, S (w32 (i + 2)))]) (c1 := (229, [(44, -1), (17, 1), (18, 130), (32, 156), (0, i), z5, z6, z7], [], m, (G0, a, b))) (r2 := (1, (0, v.1), v.2, XX)) (c2 := (229, [(44, -1), (17, 1), (18, 130), (32, 156), (0, i), z5, z6, z7], [(0, v.1)], v.2, (G0, a, b))) rfl rfl hg1 rfl ?_
  refine Go.run hD 5 (c' := (235, [(44, -1), (17, 1), (18, 130), (32, 156), (0, i), z5, z6, z7], [(0, w32 (i + 1)), (44, -1), (18, 130), (0, v.1)], v.2, (G0, a, b))) rfl ?_
  refine G_scr hD rfl hm1 h1 ?_
  refine G_bool hD rfl rfl rfl rfl ?_
  refine Go.run hD 4 (c' := (249, [(44, -1), (17, 1), (18, 130), (32, 156), (0, i), z5, z6, z7], [(0, w32 (i + 2)), (44, -1), (0, if S (w32 (i + 1)) = 0 then 0 else 1), (18, 130), (0, v.1)], v.2, (G0, a, b))) rfl ?_
  refine G_scr hD rfl hm1 h2 ?_
  refine Go.call hD (D2 := d_M_cut) (q2 := 23) (as := [(18, 130), (0, if S (w32 (i + 1)) = 0 then 0 else 1), (0, S (w32 (i + 2)))]) (c1 := (253, [(44, -1), (17, 1), (18, 130), (32, 156), (0, i), z5, z6, z7], [(0, v.1)], v.2, (G0, a, b))) (r2 := (1, (0, v2.1), v2.2, XX)) (c2 := (253, [(44, -1), (17, 1), (18, 130), (32, 156), (0, i), z5, z6, z7], [(0, v2.1), (0, v.1)], v2.2, (G0, a, b))) rfl rfl hg2 rfl ?_
  refine G_eq hD rfl e6 rfl ?_
  exact hg
theorem turn_load (hok : OkAll I) (hS : ∀ j, i32 (S j)) (hI : ∀ m, I m → m (-1) = S) (hm : I m) (h1 : 0 ≤ w32 (i + 1) ∧ w32 (i + 1) < S (-1)) (h2 : 0 ≤ w32 (i + 2) ∧ w32 (i + 2) < S (-1)) (h3 : 0 ≤ w32 (i + 3) ∧ w32 (i + 3) < S (-1)) (h4 : 0 ≤ w32 (i + 4) ∧ w32 (i + 4) < S (-1)) (K : Nx I i a b A Bd) : Ev A Bd (258, lLc i z5 z6 z7, [], m, (G0, a, b)) := by
  have hD : aMd PB 197 = d_L_law := rfl
  have hmS : m (-1) = S := hI m hm
  obtain ⟨v, v2, e1, e2, e3, e4, e5, e6, e8, e7⟩ := (hok.2.2.1) m hm
  try simp only at e1 e4
  have hm1 : mkN v (-1) = S := (mkN_scr v).trans (e3.trans hmS)
  have hg1 : Go PB 42 188 (aEnt d_L_load [(17, 1), (32, 156)] m XX) (1, (0, kd_load v.1), mkN v, (G0, (mkZ v.1).1, (mkZ v.1).2)) := Go.mono (tL_load m v e1 e2) (by decide)
  have hg2 : Go PB 42 41 (aEnt d_M_load [(18, 130)] (mkN v) XX) (1, (0, v2.1), v2.2, XX) := Go.mono (tM_load (mkN v) v2 e4) (by decide)
  have hg3 : Go PB 42 20 (aEnt d_M_thrown [(18, 130)] v2.2 XX) (1, (0, fM_thrown v2.2), v2.2, XX) := Go.mono (tM_thrown v2.2) (by decide)
  have hz := mkZ_le v.1
  obtain ⟨m9, a9, b9, ha, hb, hg⟩ := K v2.2 (a + (mkZ v.1).1) (b + (mkZ v.1).2) (0, kd_load v.1) (0, v2.1) z7 e7 (by omega) (by omega)
  refine ⟨m9, a9, b9, ha, hb, ?_⟩
  have ho : v.1 = 1 → v2.2 156 0 = v2.1 := fun h => by
    rw [← e6 h]
    exact out_at e8 h
  refine Go.run hD 2 (c' := (260, [(44, -1), (17, 1), (18, 130), (32, 156), (0, i), z5, z6, z7], [(32, 156), (17, 1)], m, (G0, a, b))) rfl ?_
  refine Go.call hD (D2 := d_L_load) (q2 := 188) (as := [(17, 1), (32, 156)]) (c1 := (263, [(44, -1), (17, 1), (18, 130), (32, 156), (0, i), z5, z6, z7], [], m, (G0, a, b))) (r2 := (1, (0, kd_load v.1), mkN v, (G0, (mkZ v.1).1, (mkZ v.1).2))) (c2 := (263, [(44, -1), (17, 1), (18, 130), (32, 156), (0, i), z5, z6, z7], [(0, kd_load v.1)], mkN v, (G0, a + (mkZ v.1).1, b + (mkZ v.1).2))) rfl rfl hg1 rfl ?_
  refine Go.run hD 2 (c' := (266, [(44, -1), (17, 1), (18, 130), (32, 156), (0, i), (0, kd_load v.1), z6, z7], [(18, 130)], mkN v, (G0, a + (mkZ v.1).1, b + (mkZ v.1).2))) rfl ?_
  refine Go.call hD (D2 := d_M_load) (q2 := 41) (as := [(18, 130)]) (c1 := (269, [(44, -1), (17, 1), (18, 130), (32, 156), (0, i), (0, kd_load v.1), z6, z7], [], mkN v, (G0, a + (mkZ v.1).1, b + (mkZ v.1).2))) (r2 := (1, (0, v2.1), v2.2, XX)) (c2 := (269, [(44, -1), (17, 1), (18, 130), (32, 156), (0, i), (0, kd_load v.1), z6, z7], [(0, v2.1)], v2.2, (G0, a + (mkZ v.1).1, b + (mkZ v.1).2))) rfl rfl hg2 rfl ?_
  refine Go.run hD 2 (c' := (272, [(44, -1), (17, 1), (18, 130), (32, 156), (0, i), (0, kd_load v.1), (0, v2.1), z7], [(18, 130)], v2.2, (G0, a + (mkZ v.1).1, b + (mkZ v.1).2))) rfl ?_
  refine Go.call hD (D2 := d_M_thrown) (q2 := 20) (as := [(18, 130)]) (c1 := (275, [(44, -1), (17, 1), (18, 130), (32, 156), (0, i), (0, kd_load v.1), (0, v2.1), z7], [], v2.2, (G0, a + (mkZ v.1).1, b + (mkZ v.1).2))) (r2 := (1, (0, fM_thrown v2.2), v2.2, XX)) (c2 := (275, [(44, -1), (17, 1), (18, 130), (32, 156), (0, i), (0, kd_load v.1), (0, v2.1), z7], [(0, fM_thrown v2.2)], v2.2, (G0, a + (mkZ v.1).1, b + (mkZ v.1).2))) rfl rfl hg3 rfl ?_
  refine Go.run hD 1 (c' := (277, [(44, -1), (17, 1), (18, 130), (32, 156), (0, i), (0, kd_load v.1), (0, v2.1), z7], [(0, kd_load v.1), (0, fM_thrown v2.2)], v2.2, (G0, a + (mkZ v.1).1, b + (mkZ v.1).2))) rfl ?_
  refine G_eq hD rfl e5 rfl ?_
  refine Go.run hD 1 (c' := (284, [(44, -1), (17, 1), (18, 130), (32, 156), (0, i), (0, kd_load v.1), (0, v2.1), z7], [(0, kd_load v.1)], v2.2, (G0, a + (mkZ v.1).1, b + (mkZ v.1).2))) rfl ?_
  refine G_ne hD rfl rfl (fun e0 => ?_) ?_
  · have k1 : v.1 = 1 := kd1_load e2 e0
    refine Go.run hD 6 (c' := (294, [(44, -1), (17, 1), (18, 130), (32, 156), (0, i), (0, kd_load v.1), (0, v2.1), z7], [(0, cmp3 (v2.2 156 0) (v2.1))], v2.2, (G0, a + (mkZ v.1).1, b + (mkZ v.1).2))) rfl ?_
    refine G_eq0 hD rfl (cmp3_same ?_) rfl ?_
    · exact ho k1
    refine Go.run hD 1 (c' := (822, [(44, -1), (17, 1), (18, 130), (32, 156), (0, i), (0, kd_load v.1), (0, v2.1), z7], [], v2.2, (G0, a + (mkZ v.1).1, b + (mkZ v.1).2))) rfl ?_
    exact hg
  · refine Go.run hD 1 (c' := (822, lLc i (0, kd_load v.1) (0, v2.1) z7, [], v2.2, (G0, a + (mkZ v.1).1, b + (mkZ v.1).2))) rfl ?_
    exact hg
theorem turn_columns (hok : OkAll I) (hS : ∀ j, i32 (S j)) (hI : ∀ m, I m → m (-1) = S) (hm : I m) (h1 : 0 ≤ w32 (i + 1) ∧ w32 (i + 1) < S (-1)) (h2 : 0 ≤ w32 (i + 2) ∧ w32 (i + 2) < S (-1)) (h3 : 0 ≤ w32 (i + 3) ∧ w32 (i + 3) < S (-1)) (h4 : 0 ≤ w32 (i + 4) ∧ w32 (i + 4) < S (-1)) (K : Nx I i a b A Bd) : Ev A Bd (302, lLc i z5 z6 z7, [], m, (G0, a, b)) := by
  have hD : aMd PB 197 = d_L_law := rfl
  have hmS : m (-1) = S := hI m hm
  obtain ⟨v, v2, e1, e3, e4, e6, e7⟩ := (hok.2.2.2.1) m hm
  try simp only at e1 e4
  have hm1 : v.2 (-1) = S := e3.trans hmS
  have hg1 : Go PB 42 4 (aEnt d_X_columns [(17, 1)] m XX) (1, (0, v.1), v.2, XX) := by
    cases e1
    exact Go.mono (tX_columns m) (by decide)
  have hg2 : Go PB 42 42 (aEnt d_M_columns [(18, 130)] v.2 XX) (1, (0, v2.1), v2.2, XX) := by
    cases e4
    exact Go.mono (tM_columns v.2 ) (by decide)
  obtain ⟨m9, a9, b9, ha, hb, hg⟩ := K v2.2 a b z5 z6 z7 e7 (by omega) (by omega)
  refine ⟨m9, a9, b9, ha, hb, ?_⟩
  refine Go.run hD 1 (c' := (303, [(44, -1), (17, 1), (18, 130), (32, 156), (0, i), z5, z6, z7], [(17, 1)], m, (G0, a, b))) rfl ?_
  refine Go.call hD (D2 := d_X_columns) (q2 := 4) (as := [(17, 1)]) (c1 := (306, [(44, -1), (17, 1), (18, 130), (32, 156), (0, i), z5, z6, z7], [], m, (G0, a, b))) (r2 := (1, (0, v.1), v.2, XX)) (c2 := (306, [(44, -1), (17, 1), (18, 130), (32, 156), (0, i), z5, z6, z7], [(0, v.1)], v.2, (G0, a, b))) rfl rfl hg1 rfl ?_
  refine Go.run hD 1 (c' := (307, [(44, -1), (17, 1), (18, 130), (32, 156), (0, i), z5, z6, z7], [(18, 130), (0, v.1)], v.2, (G0, a, b))) rfl ?_
  refine Go.call hD (D2 := d_M_columns) (q2 := 42) (as := [(18, 130)]) (c1 := (310, [(44, -1), (17, 1), (18, 130), (32, 156), (0, i), z5, z6, z7], [(0, v.1)], v.2, (G0, a, b))) (r2 := (1, (0, v2.1), v2.2, XX)) (c2 := (310, [(44, -1), (17, 1), (18, 130), (32, 156), (0, i), z5, z6, z7], [(0, v2.1), (0, v.1)], v2.2, (G0, a, b))) rfl rfl hg2 rfl ?_
  refine G_eq hD rfl e6 rfl ?_
  exact hg
theorem turn_type (hok : OkAll I) (hS : ∀ j, i32 (S j)) (hI : ∀ m, I m → m (-1) = S) (hm : I m) (h1 : 0 ≤ w32 (i + 1) ∧ w32 (i + 1) < S (-1)) (h2 : 0 ≤ w32 (i + 2) ∧ w32 (i + 2) < S (-1)) (h3 : 0 ≤ w32 (i + 3) ∧ w32 (i + 3) < S (-1)) (h4 : 0 ≤ w32 (i + 4) ∧ w32 (i + 4) < S (-1)) (K : Nx I i a b A Bd) : Ev A Bd (315, lLc i z5 z6 z7, [], m, (G0, a, b)) := by
  have hD : aMd PB 197 = d_L_law := rfl
  have hmS : m (-1) = S := hI m hm
  obtain ⟨v, v2, e1, e2, e3, e4, e5, e6, e8, e7⟩ := (hok.2.2.2.2.1) (S (w32 (i + 1))) (hS _) m hm
  try simp only at e1 e4
  have hm1 : mkN v (-1) = S := (mkN_scr v).trans (e3.trans hmS)
  have hg1 : Go PB 42 189 (aEnt d_L_type [(17, 1), (0, (S (w32 (i + 1)))), (32, 156)] m XX) (1, (0, kd_type v.1), mkN v, (G0, (mkZ v.1).1, (mkZ v.1).2)) := Go.mono (tL_type m (S (w32 (i + 1))) v e1 e2) (by decide)
  have hg2 : Go PB 42 44 (aEnt d_M_type [(18, 130), (0, (S (w32 (i + 1))))] (mkN v) XX) (1, (0, v2.1), v2.2, XX) := Go.mono (tM_type (mkN v) (S (w32 (i + 1))) v2 e4) (by decide)
  have hg3 : Go PB 42 20 (aEnt d_M_thrown [(18, 130)] v2.2 XX) (1, (0, fM_thrown v2.2), v2.2, XX) := Go.mono (tM_thrown v2.2) (by decide)
  have hz := mkZ_le v.1
  obtain ⟨m9, a9, b9, ha, hb, hg⟩ := K v2.2 (a + (mkZ v.1).1) (b + (mkZ v.1).2) (0, kd_type v.1) (0, v2.1) z7 e7 (by omega) (by omega)
  refine ⟨m9, a9, b9, ha, hb, ?_⟩
  have ho : v.1 = 1 → v2.2 156 0 = v2.1 := fun h => by
    rw [← e6 h]
    exact out_at e8 h
  refine Go.run hD 5 (c' := (321, [(44, -1), (17, 1), (18, 130), (32, 156), (0, i), z5, z6, z7], [(0, w32 (i + 1)), (44, -1), (17, 1)], m, (G0, a, b))) rfl ?_
  refine G_scr hD rfl hmS h1 ?_
  refine Go.run hD 1 (c' := (323, [(44, -1), (17, 1), (18, 130), (32, 156), (0, i), z5, z6, z7], [(32, 156), (0, S (w32 (i + 1))), (17, 1)], m, (G0, a, b))) rfl ?_
  refine Go.call hD (D2 := d_L_type) (q2 := 189) (as := [(17, 1), (0, S (w32 (i + 1))), (32, 156)]) (c1 := (326, [(44, -1), (17, 1), (18, 130), (32, 156), (0, i), z5, z6, z7], [], m, (G0, a, b))) (r2 := (1, (0, kd_type v.1), mkN v, (G0, (mkZ v.1).1, (mkZ v.1).2))) (c2 := (326, [(44, -1), (17, 1), (18, 130), (32, 156), (0, i), z5, z6, z7], [(0, kd_type v.1)], mkN v, (G0, a + (mkZ v.1).1, b + (mkZ v.1).2))) rfl rfl hg1 rfl ?_
  refine Go.run hD 6 (c' := (334, [(44, -1), (17, 1), (18, 130), (32, 156), (0, i), (0, kd_type v.1), z6, z7], [(0, w32 (i + 1)), (44, -1), (18, 130)], mkN v, (G0, a + (mkZ v.1).1, b + (mkZ v.1).2))) rfl ?_
  refine G_scr hD rfl hm1 h1 ?_
  refine Go.call hD (D2 := d_M_type) (q2 := 44) (as := [(18, 130), (0, S (w32 (i + 1)))]) (c1 := (338, [(44, -1), (17, 1), (18, 130), (32, 156), (0, i), (0, kd_type v.1), z6, z7], [], mkN v, (G0, a + (mkZ v.1).1, b + (mkZ v.1).2))) (r2 := (1, (0, v2.1), v2.2, XX)) (c2 := (338, [(44, -1), (17, 1), (18, 130), (32, 156), (0, i), (0, kd_type v.1), z6, z7], [(0, v2.1)], v2.2, (G0, a + (mkZ v.1).1, b + (mkZ v.1).2))) rfl rfl hg2 rfl ?_
  refine Go.run hD 2 (c' := (341, [(44, -1), (17, 1), (18, 130), (32, 156), (0, i), (0, kd_type v.1), (0, v2.1), z7], [(18, 130)], v2.2, (G0, a + (mkZ v.1).1, b + (mkZ v.1).2))) rfl ?_
  refine Go.call hD (D2 := d_M_thrown) (q2 := 20) (as := [(18, 130)]) (c1 := (344, [(44, -1), (17, 1), (18, 130), (32, 156), (0, i), (0, kd_type v.1), (0, v2.1), z7], [], v2.2, (G0, a + (mkZ v.1).1, b + (mkZ v.1).2))) (r2 := (1, (0, fM_thrown v2.2), v2.2, XX)) (c2 := (344, [(44, -1), (17, 1), (18, 130), (32, 156), (0, i), (0, kd_type v.1), (0, v2.1), z7], [(0, fM_thrown v2.2)], v2.2, (G0, a + (mkZ v.1).1, b + (mkZ v.1).2))) rfl rfl hg3 rfl ?_
  refine Go.run hD 1 (c' := (346, [(44, -1), (17, 1), (18, 130), (32, 156), (0, i), (0, kd_type v.1), (0, v2.1), z7], [(0, kd_type v.1), (0, fM_thrown v2.2)], v2.2, (G0, a + (mkZ v.1).1, b + (mkZ v.1).2))) rfl ?_
  refine G_eq hD rfl e5 rfl ?_
  refine Go.run hD 1 (c' := (353, [(44, -1), (17, 1), (18, 130), (32, 156), (0, i), (0, kd_type v.1), (0, v2.1), z7], [(0, kd_type v.1)], v2.2, (G0, a + (mkZ v.1).1, b + (mkZ v.1).2))) rfl ?_
  refine G_ne hD rfl rfl (fun e0 => ?_) ?_
  · have k1 : v.1 = 1 := kd1_type e2 e0
    refine Go.run hD 6 (c' := (363, [(44, -1), (17, 1), (18, 130), (32, 156), (0, i), (0, kd_type v.1), (0, v2.1), z7], [(0, cmp3 (v2.2 156 0) (v2.1))], v2.2, (G0, a + (mkZ v.1).1, b + (mkZ v.1).2))) rfl ?_
    refine G_eq0 hD rfl (cmp3_same ?_) rfl ?_
    · exact ho k1
    refine Go.run hD 1 (c' := (822, [(44, -1), (17, 1), (18, 130), (32, 156), (0, i), (0, kd_type v.1), (0, v2.1), z7], [], v2.2, (G0, a + (mkZ v.1).1, b + (mkZ v.1).2))) rfl ?_
    exact hg
  · refine Go.run hD 1 (c' := (822, lLc i (0, kd_type v.1) (0, v2.1) z7, [], v2.2, (G0, a + (mkZ v.1).1, b + (mkZ v.1).2))) rfl ?_
    exact hg
theorem turn_isMissing (hok : OkAll I) (hS : ∀ j, i32 (S j)) (hI : ∀ m, I m → m (-1) = S) (hm : I m) (h1 : 0 ≤ w32 (i + 1) ∧ w32 (i + 1) < S (-1)) (h2 : 0 ≤ w32 (i + 2) ∧ w32 (i + 2) < S (-1)) (h3 : 0 ≤ w32 (i + 3) ∧ w32 (i + 3) < S (-1)) (h4 : 0 ≤ w32 (i + 4) ∧ w32 (i + 4) < S (-1)) (K : Nx I i a b A Bd) : Ev A Bd (371, lLc i z5 z6 z7, [], m, (G0, a, b)) := by
  have hD : aMd PB 197 = d_L_law := rfl
  have hmS : m (-1) = S := hI m hm
  obtain ⟨v, v2, e1, e2, e3, e4, e5, e6, e8, e7⟩ := (hok.2.2.2.2.2.1) (S (w32 (i + 1))) (S (w32 (i + 2))) (hS _) (hS _) m hm
  try simp only at e1 e4
  have hm1 : mkN v (-1) = S := (mkN_scr v).trans (e3.trans hmS)
  have hg1 : Go PB 42 190 (aEnt d_L_isMissing [(17, 1), (0, (S (w32 (i + 1)))), (0, (S (w32 (i + 2)))), (32, 156)] m XX) (1, (0, kd_isMissing v.1), mkN v, (G0, (mkZ v.1).1, (mkZ v.1).2)) := Go.mono (tL_isMissing m (S (w32 (i + 1))) (S (w32 (i + 2))) v e1 e2 (b_isMissing m _ _ v e1)) (by decide)
  have hg2 : Go PB 42 46 (aEnt d_M_isMissing [(18, 130), (0, (S (w32 (i + 1)))), (0, (S (w32 (i + 2))))] (mkN v) XX) (1, (0, v2.1), v2.2, XX) := Go.mono (tM_isMissing (mkN v) (S (w32 (i + 1))) (S (w32 (i + 2))) v2 e4) (by decide)
  have hg3 : Go PB 42 20 (aEnt d_M_thrown [(18, 130)] v2.2 XX) (1, (0, fM_thrown v2.2), v2.2, XX) := Go.mono (tM_thrown v2.2) (by decide)
  have hz := mkZ_le v.1
  have hb6 : v.1 = 1 → v2.1 = 0 ∨ v2.1 = 1 := fun h => (e6 h) ▸ (b_isMissing m _ _ v e1 h)
  obtain ⟨m9, a9, b9, ha, hb, hg⟩ := K v2.2 (a + (mkZ v.1).1) (b + (mkZ v.1).2) (0, kd_isMissing v.1) (0, v2.1) z7 e7 (by omega) (by omega)
  refine ⟨m9, a9, b9, ha, hb, ?_⟩
  have ho : v.1 = 1 → v2.2 156 0 = (if v2.1 = 0 then 0 else 1) := fun h => by
    rw [show (if v2.1 = 0 then (0 : Int) else 1) = v2.1 by rcases hb6 h with e | e <;> rw [e] <;> rfl, ← e6 h]
    exact out_at e8 h
  refine Go.run hD 5 (c' := (377, [(44, -1), (17, 1), (18, 130), (32, 156), (0, i), z5, z6, z7], [(0, w32 (i + 1)), (44, -1), (17, 1)], m, (G0, a, b))) rfl ?_
  refine G_scr hD rfl hmS h1 ?_
  refine Go.run hD 4 (c' := (383, [(44, -1), (17, 1), (18, 130), (32, 156), (0, i), z5, z6, z7], [(0, w32 (i + 2)), (44, -1), (0, S (w32 (i + 1))), (17, 1)], m, (G0, a, b))) rfl ?_
  refine G_scr hD rfl hmS h2 ?_
  refine Go.run hD 1 (c' := (385, [(44, -1), (17, 1), (18, 130), (32, 156), (0, i), z5, z6, z7], [(32, 156), (0, S (w32 (i + 2))), (0, S (w32 (i + 1))), (17, 1)], m, (G0, a, b))) rfl ?_
  refine Go.call hD (D2 := d_L_isMissing) (q2 := 190) (as := [(17, 1), (0, S (w32 (i + 1))), (0, S (w32 (i + 2))), (32, 156)]) (c1 := (388, [(44, -1), (17, 1), (18, 130), (32, 156), (0, i), z5, z6, z7], [], m, (G0, a, b))) (r2 := (1, (0, kd_isMissing v.1), mkN v, (G0, (mkZ v.1).1, (mkZ v.1).2))) (c2 := (388, [(44, -1), (17, 1), (18, 130), (32, 156), (0, i), z5, z6, z7], [(0, kd_isMissing v.1)], mkN v, (G0, a + (mkZ v.1).1, b + (mkZ v.1).2))) rfl rfl hg1 rfl ?_
  refine Go.run hD 6 (c' := (396, [(44, -1), (17, 1), (18, 130), (32, 156), (0, i), (0, kd_isMissing v.1), z6, z7], [(0, w32 (i + 1)), (44, -1), (18, 130)], mkN v, (G0, a + (mkZ v.1).1, b + (mkZ v.1).2))) rfl ?_
  refine G_scr hD rfl hm1 h1 ?_
  refine Go.run hD 4 (c' := (402, [(44, -1), (17, 1), (18, 130), (32, 156), (0, i), (0, kd_isMissing v.1), z6, z7], [(0, w32 (i + 2)), (44, -1), (0, S (w32 (i + 1))), (18, 130)], mkN v, (G0, a + (mkZ v.1).1, b + (mkZ v.1).2))) rfl ?_
  refine G_scr hD rfl hm1 h2 ?_
  refine Go.call hD (D2 := d_M_isMissing) (q2 := 46) (as := [(18, 130), (0, S (w32 (i + 1))), (0, S (w32 (i + 2)))]) (c1 := (406, [(44, -1), (17, 1), (18, 130), (32, 156), (0, i), (0, kd_isMissing v.1), z6, z7], [], mkN v, (G0, a + (mkZ v.1).1, b + (mkZ v.1).2))) (r2 := (1, (0, v2.1), v2.2, XX)) (c2 := (406, [(44, -1), (17, 1), (18, 130), (32, 156), (0, i), (0, kd_isMissing v.1), z6, z7], [(0, v2.1)], v2.2, (G0, a + (mkZ v.1).1, b + (mkZ v.1).2))) rfl rfl hg2 rfl ?_
  refine Go.run hD 2 (c' := (409, [(44, -1), (17, 1), (18, 130), (32, 156), (0, i), (0, kd_isMissing v.1), (0, v2.1), z7], [(18, 130)], v2.2, (G0, a + (mkZ v.1).1, b + (mkZ v.1).2))) rfl ?_
  refine Go.call hD (D2 := d_M_thrown) (q2 := 20) (as := [(18, 130)]) (c1 := (412, [(44, -1), (17, 1), (18, 130), (32, 156), (0, i), (0, kd_isMissing v.1), (0, v2.1), z7], [], v2.2, (G0, a + (mkZ v.1).1, b + (mkZ v.1).2))) (r2 := (1, (0, fM_thrown v2.2), v2.2, XX)) (c2 := (412, [(44, -1), (17, 1), (18, 130), (32, 156), (0, i), (0, kd_isMissing v.1), (0, v2.1), z7], [(0, fM_thrown v2.2)], v2.2, (G0, a + (mkZ v.1).1, b + (mkZ v.1).2))) rfl rfl hg3 rfl ?_
  refine Go.run hD 1 (c' := (414, [(44, -1), (17, 1), (18, 130), (32, 156), (0, i), (0, kd_isMissing v.1), (0, v2.1), z7], [(0, kd_isMissing v.1), (0, fM_thrown v2.2)], v2.2, (G0, a + (mkZ v.1).1, b + (mkZ v.1).2))) rfl ?_
  refine G_eq hD rfl e5 rfl ?_
  refine Go.run hD 1 (c' := (421, [(44, -1), (17, 1), (18, 130), (32, 156), (0, i), (0, kd_isMissing v.1), (0, v2.1), z7], [(0, kd_isMissing v.1)], v2.2, (G0, a + (mkZ v.1).1, b + (mkZ v.1).2))) rfl ?_
  refine G_ne hD rfl rfl (fun e0 => ?_) ?_
  · have k1 : v.1 = 1 := kd1_isMissing e2 e0
    refine Go.run hD 4 (c' := (429, [(44, -1), (17, 1), (18, 130), (32, 156), (0, i), (0, kd_isMissing v.1), (0, v2.1), z7], [(0, v2.1), (1, v2.2 156 0)], v2.2, (G0, a + (mkZ v.1).1, b + (mkZ v.1).2))) rfl ?_
    refine G_boolL hD rfl rfl rfl rfl ?_
    refine Go.run hD 1 (c' := (438, [(44, -1), (17, 1), (18, 130), (32, 156), (0, i), (0, kd_isMissing v.1), (0, v2.1), z7], [(0, cmp3 (v2.2 156 0) (if v2.1 = 0 then 0 else 1))], v2.2, (G0, a + (mkZ v.1).1, b + (mkZ v.1).2))) rfl ?_
    refine G_eq0 hD rfl (cmp3_same ?_) rfl ?_
    · exact ho k1
    refine Go.run hD 1 (c' := (822, [(44, -1), (17, 1), (18, 130), (32, 156), (0, i), (0, kd_isMissing v.1), (0, v2.1), z7], [], v2.2, (G0, a + (mkZ v.1).1, b + (mkZ v.1).2))) rfl ?_
    exact hg
  · refine Go.run hD 1 (c' := (822, lLc i (0, kd_isMissing v.1) (0, v2.1) z7, [], v2.2, (G0, a + (mkZ v.1).1, b + (mkZ v.1).2))) rfl ?_
    exact hg
theorem turn_value (hok : OkAll I) (hS : ∀ j, i32 (S j)) (hI : ∀ m, I m → m (-1) = S) (hm : I m) (h1 : 0 ≤ w32 (i + 1) ∧ w32 (i + 1) < S (-1)) (h2 : 0 ≤ w32 (i + 2) ∧ w32 (i + 2) < S (-1)) (h3 : 0 ≤ w32 (i + 3) ∧ w32 (i + 3) < S (-1)) (h4 : 0 ≤ w32 (i + 4) ∧ w32 (i + 4) < S (-1)) (K : Nx I i a b A Bd) : Ev A Bd (446, lLc i z5 z6 z7, [], m, (G0, a, b)) := by
  have hD : aMd PB 197 = d_L_law := rfl
  have hmS : m (-1) = S := hI m hm
  obtain ⟨v, v2, e1, e2, e3, e4, e5, e6, e8, e7⟩ := (hok.2.2.2.2.2.2.1) (S (w32 (i + 1))) (S (w32 (i + 2))) (hS _) (hS _) m hm
  try simp only at e1 e4
  have hm1 : mkN v (-1) = S := (mkN_scr v).trans (e3.trans hmS)
  have hg1 : Go PB 42 191 (aEnt d_L_value [(17, 1), (0, (S (w32 (i + 1)))), (0, (S (w32 (i + 2)))), (32, 156)] m XX) (1, (0, kd_value v.1), mkN v, (G0, (mkZ v.1).1, (mkZ v.1).2)) := Go.mono (tL_value m (S (w32 (i + 1))) (S (w32 (i + 2))) v e1 e2) (by decide)
  have hg2 : Go PB 42 47 (aEnt d_M_value [(18, 130), (0, (S (w32 (i + 1)))), (0, (S (w32 (i + 2))))] (mkN v) XX) (1, (1, v2.1), v2.2, XX) := Go.mono (tM_value (mkN v) (S (w32 (i + 1))) (S (w32 (i + 2))) v2 e4) (by decide)
  have hg3 : Go PB 42 20 (aEnt d_M_thrown [(18, 130)] v2.2 XX) (1, (0, fM_thrown v2.2), v2.2, XX) := Go.mono (tM_thrown v2.2) (by decide)
  have hz := mkZ_le v.1
  obtain ⟨m9, a9, b9, ha, hb, hg⟩ := K v2.2 (a + (mkZ v.1).1) (b + (mkZ v.1).2) (0, kd_value v.1) (1, v2.1) (99, 0) e7 (by omega) (by omega)
  refine ⟨m9, a9, b9, ha, hb, ?_⟩
  have ho : v.1 = 1 → v2.2 156 0 = v2.1 := fun h => by
    rw [← e6 h]
    exact out_at e8 h
  refine Go.run hD 5 (c' := (452, [(44, -1), (17, 1), (18, 130), (32, 156), (0, i), z5, z6, z7], [(0, w32 (i + 1)), (44, -1), (17, 1)], m, (G0, a, b))) rfl ?_
  refine G_scr hD rfl hmS h1 ?_
  refine Go.run hD 4 (c' := (458, [(44, -1), (17, 1), (18, 130), (32, 156), (0, i), z5, z6, z7], [(0, w32 (i + 2)), (44, -1), (0, S (w32 (i + 1))), (17, 1)], m, (G0, a, b))) rfl ?_
  refine G_scr hD rfl hmS h2 ?_
  refine Go.run hD 1 (c' := (460, [(44, -1), (17, 1), (18, 130), (32, 156), (0, i), z5, z6, z7], [(32, 156), (0, S (w32 (i + 2))), (0, S (w32 (i + 1))), (17, 1)], m, (G0, a, b))) rfl ?_
  refine Go.call hD (D2 := d_L_value) (q2 := 191) (as := [(17, 1), (0, S (w32 (i + 1))), (0, S (w32 (i + 2))), (32, 156)]) (c1 := (463, [(44, -1), (17, 1), (18, 130), (32, 156), (0, i), z5, z6, z7], [], m, (G0, a, b))) (r2 := (1, (0, kd_value v.1), mkN v, (G0, (mkZ v.1).1, (mkZ v.1).2))) (c2 := (463, [(44, -1), (17, 1), (18, 130), (32, 156), (0, i), z5, z6, z7], [(0, kd_value v.1)], mkN v, (G0, a + (mkZ v.1).1, b + (mkZ v.1).2))) rfl rfl hg1 rfl ?_
  refine Go.run hD 6 (c' := (471, [(44, -1), (17, 1), (18, 130), (32, 156), (0, i), (0, kd_value v.1), z6, z7], [(0, w32 (i + 1)), (44, -1), (18, 130)], mkN v, (G0, a + (mkZ v.1).1, b + (mkZ v.1).2))) rfl ?_
  refine G_scr hD rfl hm1 h1 ?_
  refine Go.run hD 4 (c' := (477, [(44, -1), (17, 1), (18, 130), (32, 156), (0, i), (0, kd_value v.1), z6, z7], [(0, w32 (i + 2)), (44, -1), (0, S (w32 (i + 1))), (18, 130)], mkN v, (G0, a + (mkZ v.1).1, b + (mkZ v.1).2))) rfl ?_
  refine G_scr hD rfl hm1 h2 ?_
  refine Go.call hD (D2 := d_M_value) (q2 := 47) (as := [(18, 130), (0, S (w32 (i + 1))), (0, S (w32 (i + 2)))]) (c1 := (481, [(44, -1), (17, 1), (18, 130), (32, 156), (0, i), (0, kd_value v.1), z6, z7], [], mkN v, (G0, a + (mkZ v.1).1, b + (mkZ v.1).2))) (r2 := (1, (1, v2.1), v2.2, XX)) (c2 := (481, [(44, -1), (17, 1), (18, 130), (32, 156), (0, i), (0, kd_value v.1), z6, z7], [(1, v2.1)], v2.2, (G0, a + (mkZ v.1).1, b + (mkZ v.1).2))) rfl rfl hg2 rfl ?_
  refine Go.run hD 2 (c' := (484, [(44, -1), (17, 1), (18, 130), (32, 156), (0, i), (0, kd_value v.1), (1, v2.1), (99, 0)], [(18, 130)], v2.2, (G0, a + (mkZ v.1).1, b + (mkZ v.1).2))) rfl ?_
  refine Go.call hD (D2 := d_M_thrown) (q2 := 20) (as := [(18, 130)]) (c1 := (487, [(44, -1), (17, 1), (18, 130), (32, 156), (0, i), (0, kd_value v.1), (1, v2.1), (99, 0)], [], v2.2, (G0, a + (mkZ v.1).1, b + (mkZ v.1).2))) (r2 := (1, (0, fM_thrown v2.2), v2.2, XX)) (c2 := (487, [(44, -1), (17, 1), (18, 130), (32, 156), (0, i), (0, kd_value v.1), (1, v2.1), (99, 0)], [(0, fM_thrown v2.2)], v2.2, (G0, a + (mkZ v.1).1, b + (mkZ v.1).2))) rfl rfl hg3 rfl ?_
  refine Go.run hD 1 (c' := (489, [(44, -1), (17, 1), (18, 130), (32, 156), (0, i), (0, kd_value v.1), (1, v2.1), (99, 0)], [(0, kd_value v.1), (0, fM_thrown v2.2)], v2.2, (G0, a + (mkZ v.1).1, b + (mkZ v.1).2))) rfl ?_
  refine G_eq hD rfl e5 rfl ?_
  refine Go.run hD 1 (c' := (496, [(44, -1), (17, 1), (18, 130), (32, 156), (0, i), (0, kd_value v.1), (1, v2.1), (99, 0)], [(0, kd_value v.1)], v2.2, (G0, a + (mkZ v.1).1, b + (mkZ v.1).2))) rfl ?_
  refine G_ne hD rfl rfl (fun e0 => ?_) ?_
  · have k1 : v.1 = 1 := kd1_value e2 e0
    refine Go.run hD 5 (c' := (505, [(44, -1), (17, 1), (18, 130), (32, 156), (0, i), (0, kd_value v.1), (1, v2.1), (99, 0)], [(0, cmp3 (v2.2 156 0) (v2.1))], v2.2, (G0, a + (mkZ v.1).1, b + (mkZ v.1).2))) rfl ?_
    refine G_eq0 hD rfl (cmp3_same ?_) rfl ?_
    · exact ho k1
    refine Go.run hD 1 (c' := (822, [(44, -1), (17, 1), (18, 130), (32, 156), (0, i), (0, kd_value v.1), (1, v2.1), (99, 0)], [], v2.2, (G0, a + (mkZ v.1).1, b + (mkZ v.1).2))) rfl ?_
    exact hg
  · refine Go.run hD 1 (c' := (822, lLc i (0, kd_value v.1) (1, v2.1) (99, 0), [], v2.2, (G0, a + (mkZ v.1).1, b + (mkZ v.1).2))) rfl ?_
    exact hg
theorem turn_ask (hok : OkAll I) (hS : ∀ j, i32 (S j)) (hI : ∀ m, I m → m (-1) = S) (hm : I m) (h1 : 0 ≤ w32 (i + 1) ∧ w32 (i + 1) < S (-1)) (h2 : 0 ≤ w32 (i + 2) ∧ w32 (i + 2) < S (-1)) (h3 : 0 ≤ w32 (i + 3) ∧ w32 (i + 3) < S (-1)) (h4 : 0 ≤ w32 (i + 4) ∧ w32 (i + 4) < S (-1)) (K : Nx I i a b A Bd) : Ev A Bd (513, lLc i z5 z6 z7, [], m, (G0, a, b)) := by
  have hD : aMd PB 197 = d_L_law := rfl
  have hmS : m (-1) = S := hI m hm
  obtain ⟨v, v2, e1, e2, e3, e4, e5, e6, e8, e7⟩ := (hok.2.2.2.2.2.2.2.1) m hm
  try simp only at e1 e4
  have hm1 : mkN v (-1) = S := (mkN_scr v).trans (e3.trans hmS)
  have hg1 : Go PB 42 192 (aEnt d_L_ask [(17, 1), (32, 156)] m XX) (1, (0, kd_ask v.1), mkN v, (G0, (mkZ v.1).1, (mkZ v.1).2)) := Go.mono (tL_ask m v e1 e2) (by decide)
  have hg2 : Go PB 42 80 (aEnt d_M_ask [(18, 130)] (mkN v) XX) (1, (0, v2.1), v2.2, XX) := Go.mono (tM_ask (mkN v) v2 e4) (by decide)
  have hg3 : Go PB 42 20 (aEnt d_M_thrown [(18, 130)] v2.2 XX) (1, (0, fM_thrown v2.2), v2.2, XX) := Go.mono (tM_thrown v2.2) (by decide)
  have hz := mkZ_le v.1
  obtain ⟨m9, a9, b9, ha, hb, hg⟩ := K v2.2 (a + (mkZ v.1).1) (b + (mkZ v.1).2) (0, kd_ask v.1) (0, v2.1) z7 e7 (by omega) (by omega)
  refine ⟨m9, a9, b9, ha, hb, ?_⟩
  have ho : v.1 = 1 → v2.2 156 0 = v2.1 := fun h => by
    rw [← e6 h]
    exact out_at e8 h
  refine Go.run hD 2 (c' := (515, [(44, -1), (17, 1), (18, 130), (32, 156), (0, i), z5, z6, z7], [(32, 156), (17, 1)], m, (G0, a, b))) rfl ?_
  refine Go.call hD (D2 := d_L_ask) (q2 := 192) (as := [(17, 1), (32, 156)]) (c1 := (518, [(44, -1), (17, 1), (18, 130), (32, 156), (0, i), z5, z6, z7], [], m, (G0, a, b))) (r2 := (1, (0, kd_ask v.1), mkN v, (G0, (mkZ v.1).1, (mkZ v.1).2))) (c2 := (518, [(44, -1), (17, 1), (18, 130), (32, 156), (0, i), z5, z6, z7], [(0, kd_ask v.1)], mkN v, (G0, a + (mkZ v.1).1, b + (mkZ v.1).2))) rfl rfl hg1 rfl ?_
  refine Go.run hD 2 (c' := (521, [(44, -1), (17, 1), (18, 130), (32, 156), (0, i), (0, kd_ask v.1), z6, z7], [(18, 130)], mkN v, (G0, a + (mkZ v.1).1, b + (mkZ v.1).2))) rfl ?_
  refine Go.call hD (D2 := d_M_ask) (q2 := 80) (as := [(18, 130)]) (c1 := (524, [(44, -1), (17, 1), (18, 130), (32, 156), (0, i), (0, kd_ask v.1), z6, z7], [], mkN v, (G0, a + (mkZ v.1).1, b + (mkZ v.1).2))) (r2 := (1, (0, v2.1), v2.2, XX)) (c2 := (524, [(44, -1), (17, 1), (18, 130), (32, 156), (0, i), (0, kd_ask v.1), z6, z7], [(0, v2.1)], v2.2, (G0, a + (mkZ v.1).1, b + (mkZ v.1).2))) rfl rfl hg2 rfl ?_
  refine Go.run hD 2 (c' := (527, [(44, -1), (17, 1), (18, 130), (32, 156), (0, i), (0, kd_ask v.1), (0, v2.1), z7], [(18, 130)], v2.2, (G0, a + (mkZ v.1).1, b + (mkZ v.1).2))) rfl ?_
  refine Go.call hD (D2 := d_M_thrown) (q2 := 20) (as := [(18, 130)]) (c1 := (530, [(44, -1), (17, 1), (18, 130), (32, 156), (0, i), (0, kd_ask v.1), (0, v2.1), z7], [], v2.2, (G0, a + (mkZ v.1).1, b + (mkZ v.1).2))) (r2 := (1, (0, fM_thrown v2.2), v2.2, XX)) (c2 := (530, [(44, -1), (17, 1), (18, 130), (32, 156), (0, i), (0, kd_ask v.1), (0, v2.1), z7], [(0, fM_thrown v2.2)], v2.2, (G0, a + (mkZ v.1).1, b + (mkZ v.1).2))) rfl rfl hg3 rfl ?_
  refine Go.run hD 1 (c' := (532, [(44, -1), (17, 1), (18, 130), (32, 156), (0, i), (0, kd_ask v.1), (0, v2.1), z7], [(0, kd_ask v.1), (0, fM_thrown v2.2)], v2.2, (G0, a + (mkZ v.1).1, b + (mkZ v.1).2))) rfl ?_
  refine G_eq hD rfl e5 rfl ?_
  refine Go.run hD 1 (c' := (539, [(44, -1), (17, 1), (18, 130), (32, 156), (0, i), (0, kd_ask v.1), (0, v2.1), z7], [(0, kd_ask v.1)], v2.2, (G0, a + (mkZ v.1).1, b + (mkZ v.1).2))) rfl ?_
  refine G_ne hD rfl rfl (fun e0 => ?_) ?_
  · have k1 : v.1 = 1 := kd1_ask e2 e0
    refine Go.run hD 6 (c' := (549, [(44, -1), (17, 1), (18, 130), (32, 156), (0, i), (0, kd_ask v.1), (0, v2.1), z7], [(0, cmp3 (v2.2 156 0) (v2.1))], v2.2, (G0, a + (mkZ v.1).1, b + (mkZ v.1).2))) rfl ?_
    refine G_eq0 hD rfl (cmp3_same ?_) rfl ?_
    · exact ho k1
    refine Go.run hD 1 (c' := (822, [(44, -1), (17, 1), (18, 130), (32, 156), (0, i), (0, kd_ask v.1), (0, v2.1), z7], [], v2.2, (G0, a + (mkZ v.1).1, b + (mkZ v.1).2))) rfl ?_
    exact hg
  · refine Go.run hD 1 (c' := (822, lLc i (0, kd_ask v.1) (0, v2.1) z7, [], v2.2, (G0, a + (mkZ v.1).1, b + (mkZ v.1).2))) rfl ?_
    exact hg
theorem turn_fault (hok : OkAll I) (hS : ∀ j, i32 (S j)) (hI : ∀ m, I m → m (-1) = S) (hm : I m) (h1 : 0 ≤ w32 (i + 1) ∧ w32 (i + 1) < S (-1)) (h2 : 0 ≤ w32 (i + 2) ∧ w32 (i + 2) < S (-1)) (h3 : 0 ≤ w32 (i + 3) ∧ w32 (i + 3) < S (-1)) (h4 : 0 ≤ w32 (i + 4) ∧ w32 (i + 4) < S (-1)) (K : Nx I i a b A Bd) : Ev A Bd (557, lLc i z5 z6 z7, [], m, (G0, a, b)) := by
  have hD : aMd PB 197 = d_L_law := rfl
  have hmS : m (-1) = S := hI m hm
  obtain ⟨v, v2, e1, e3, e4, e6, e7⟩ := (hok.2.2.2.2.2.2.2.2.1) m hm
  try simp only at e1 e4
  have hm1 : v.2 (-1) = S := e3.trans hmS
  have hg1 : Go PB 42 9 (aEnt d_X_fault [(17, 1)] m XX) (1, (0, v.1), v.2, XX) := by
    cases e1
    exact Go.mono (tX_fault m) (by decide)
  have hg2 : Go PB 42 81 (aEnt d_M_fault [(18, 130)] v.2 XX) (1, (0, v2.1), v2.2, XX) := by
    cases e4
    exact Go.mono (tM_fault v.2 ) (by decide)
  obtain ⟨m9, a9, b9, ha, hb, hg⟩ := K v2.2 a b z5 z6 z7 e7 (by omega) (by omega)
  refine ⟨m9, a9, b9, ha, hb, ?_⟩
  refine Go.run hD 1 (c' := (558, [(44, -1), (17, 1), (18, 130), (32, 156), (0, i), z5, z6, z7], [(17, 1)], m, (G0, a, b))) rfl ?_
  refine Go.call hD (D2 := d_X_fault) (q2 := 9) (as := [(17, 1)]) (c1 := (561, [(44, -1), (17, 1), (18, 130), (32, 156), (0, i), z5, z6, z7], [], m, (G0, a, b))) (r2 := (1, (0, v.1), v.2, XX)) (c2 := (561, [(44, -1), (17, 1), (18, 130), (32, 156), (0, i), z5, z6, z7], [(0, v.1)], v.2, (G0, a, b))) rfl rfl hg1 rfl ?_
  refine Go.run hD 1 (c' := (562, [(44, -1), (17, 1), (18, 130), (32, 156), (0, i), z5, z6, z7], [(18, 130), (0, v.1)], v.2, (G0, a, b))) rfl ?_
  refine Go.call hD (D2 := d_M_fault) (q2 := 81) (as := [(18, 130)]) (c1 := (565, [(44, -1), (17, 1), (18, 130), (32, 156), (0, i), z5, z6, z7], [(0, v.1)], v.2, (G0, a, b))) (r2 := (1, (0, v2.1), v2.2, XX)) (c2 := (565, [(44, -1), (17, 1), (18, 130), (32, 156), (0, i), z5, z6, z7], [(0, v2.1), (0, v.1)], v2.2, (G0, a, b))) rfl rfl hg2 rfl ?_
  refine G_eq hD rfl e6 rfl ?_
  exact hg
theorem turn_lines (hok : OkAll I) (hS : ∀ j, i32 (S j)) (hI : ∀ m, I m → m (-1) = S) (hm : I m) (h1 : 0 ≤ w32 (i + 1) ∧ w32 (i + 1) < S (-1)) (h2 : 0 ≤ w32 (i + 2) ∧ w32 (i + 2) < S (-1)) (h3 : 0 ≤ w32 (i + 3) ∧ w32 (i + 3) < S (-1)) (h4 : 0 ≤ w32 (i + 4) ∧ w32 (i + 4) < S (-1)) (K : Nx I i a b A Bd) : Ev A Bd (570, lLc i z5 z6 z7, [], m, (G0, a, b)) := by
  have hD : aMd PB 197 = d_L_law := rfl
  have hmS : m (-1) = S := hI m hm
  obtain ⟨v, v2, e1, e3, e4, e6, e7⟩ := (hok.2.2.2.2.2.2.2.2.2.1) m hm
  try simp only at e1 e4
  have hm1 : v.2 (-1) = S := e3.trans hmS
  have hg1 : Go PB 42 10 (aEnt d_X_lines [(17, 1)] m XX) (1, (0, v.1), v.2, XX) := by
    cases e1
    exact Go.mono (tX_lines m) (by decide)
  have hg2 : Go PB 42 82 (aEnt d_M_lines [(18, 130)] v.2 XX) (1, (0, v2.1), v2.2, XX) := by
    cases e4
    exact Go.mono (tM_lines v.2 ) (by decide)
  obtain ⟨m9, a9, b9, ha, hb, hg⟩ := K v2.2 a b z5 z6 z7 e7 (by omega) (by omega)
  refine ⟨m9, a9, b9, ha, hb, ?_⟩
  refine Go.run hD 1 (c' := (571, [(44, -1), (17, 1), (18, 130), (32, 156), (0, i), z5, z6, z7], [(17, 1)], m, (G0, a, b))) rfl ?_
  refine Go.call hD (D2 := d_X_lines) (q2 := 10) (as := [(17, 1)]) (c1 := (574, [(44, -1), (17, 1), (18, 130), (32, 156), (0, i), z5, z6, z7], [], m, (G0, a, b))) (r2 := (1, (0, v.1), v.2, XX)) (c2 := (574, [(44, -1), (17, 1), (18, 130), (32, 156), (0, i), z5, z6, z7], [(0, v.1)], v.2, (G0, a, b))) rfl rfl hg1 rfl ?_
  refine Go.run hD 1 (c' := (575, [(44, -1), (17, 1), (18, 130), (32, 156), (0, i), z5, z6, z7], [(18, 130), (0, v.1)], v.2, (G0, a, b))) rfl ?_
  refine Go.call hD (D2 := d_M_lines) (q2 := 82) (as := [(18, 130)]) (c1 := (578, [(44, -1), (17, 1), (18, 130), (32, 156), (0, i), z5, z6, z7], [(0, v.1)], v.2, (G0, a, b))) (r2 := (1, (0, v2.1), v2.2, XX)) (c2 := (578, [(44, -1), (17, 1), (18, 130), (32, 156), (0, i), z5, z6, z7], [(0, v2.1), (0, v.1)], v2.2, (G0, a, b))) rfl rfl hg2 rfl ?_
  refine G_eq hD rfl e6 rfl ?_
  exact hg
theorem turn_line (hok : OkAll I) (hS : ∀ j, i32 (S j)) (hI : ∀ m, I m → m (-1) = S) (hm : I m) (h1 : 0 ≤ w32 (i + 1) ∧ w32 (i + 1) < S (-1)) (h2 : 0 ≤ w32 (i + 2) ∧ w32 (i + 2) < S (-1)) (h3 : 0 ≤ w32 (i + 3) ∧ w32 (i + 3) < S (-1)) (h4 : 0 ≤ w32 (i + 4) ∧ w32 (i + 4) < S (-1)) (K : Nx I i a b A Bd) : Ev A Bd (583, lLc i z5 z6 z7, [], m, (G0, a, b)) := by
  have hD : aMd PB 197 = d_L_law := rfl
  have hmS : m (-1) = S := hI m hm
  obtain ⟨v, v2, e1, e2, e3, e4, e5, e6, e8, e7⟩ := (hok.2.2.2.2.2.2.2.2.2.2.1) (S (w32 (i + 1))) (hS _) m hm
  try simp only at e1 e4
  have hm1 : mkN v (-1) = S := (mkN_scr v).trans (e3.trans hmS)
  have hg1 : Go PB 42 193 (aEnt d_L_line [(17, 1), (0, (S (w32 (i + 1)))), (32, 156)] m XX) (1, (0, kd_line v.1), mkN v, (G0, (mkZ v.1).1, (mkZ v.1).2)) := Go.mono (tL_line m (S (w32 (i + 1))) v e1 e2) (by decide)
  have hg2 : Go PB 42 83 (aEnt d_M_line [(18, 130), (0, (S (w32 (i + 1))))] (mkN v) XX) (1, (0, v2.1), v2.2, XX) := Go.mono (tM_line (mkN v) (S (w32 (i + 1))) v2 e4) (by decide)
  have hg3 : Go PB 42 20 (aEnt d_M_thrown [(18, 130)] v2.2 XX) (1, (0, fM_thrown v2.2), v2.2, XX) := Go.mono (tM_thrown v2.2) (by decide)
  have hz := mkZ_le v.1
  obtain ⟨m9, a9, b9, ha, hb, hg⟩ := K v2.2 (a + (mkZ v.1).1) (b + (mkZ v.1).2) (0, kd_line v.1) (0, v2.1) z7 e7 (by omega) (by omega)
  refine ⟨m9, a9, b9, ha, hb, ?_⟩
  have ho : v.1 = 1 → v2.2 156 0 = v2.1 := fun h => by
    rw [← e6 h]
    exact out_at e8 h
  refine Go.run hD 5 (c' := (589, [(44, -1), (17, 1), (18, 130), (32, 156), (0, i), z5, z6, z7], [(0, w32 (i + 1)), (44, -1), (17, 1)], m, (G0, a, b))) rfl ?_
  refine G_scr hD rfl hmS h1 ?_
  refine Go.run hD 1 (c' := (591, [(44, -1), (17, 1), (18, 130), (32, 156), (0, i), z5, z6, z7], [(32, 156), (0, S (w32 (i + 1))), (17, 1)], m, (G0, a, b))) rfl ?_
  refine Go.call hD (D2 := d_L_line) (q2 := 193) (as := [(17, 1), (0, S (w32 (i + 1))), (32, 156)]) (c1 := (594, [(44, -1), (17, 1), (18, 130), (32, 156), (0, i), z5, z6, z7], [], m, (G0, a, b))) (r2 := (1, (0, kd_line v.1), mkN v, (G0, (mkZ v.1).1, (mkZ v.1).2))) (c2 := (594, [(44, -1), (17, 1), (18, 130), (32, 156), (0, i), z5, z6, z7], [(0, kd_line v.1)], mkN v, (G0, a + (mkZ v.1).1, b + (mkZ v.1).2))) rfl rfl hg1 rfl ?_
  refine Go.run hD 6 (c' := (602, [(44, -1), (17, 1), (18, 130), (32, 156), (0, i), (0, kd_line v.1), z6, z7], [(0, w32 (i + 1)), (44, -1), (18, 130)], mkN v, (G0, a + (mkZ v.1).1, b + (mkZ v.1).2))) rfl ?_
  refine G_scr hD rfl hm1 h1 ?_
  refine Go.call hD (D2 := d_M_line) (q2 := 83) (as := [(18, 130), (0, S (w32 (i + 1)))]) (c1 := (606, [(44, -1), (17, 1), (18, 130), (32, 156), (0, i), (0, kd_line v.1), z6, z7], [], mkN v, (G0, a + (mkZ v.1).1, b + (mkZ v.1).2))) (r2 := (1, (0, v2.1), v2.2, XX)) (c2 := (606, [(44, -1), (17, 1), (18, 130), (32, 156), (0, i), (0, kd_line v.1), z6, z7], [(0, v2.1)], v2.2, (G0, a + (mkZ v.1).1, b + (mkZ v.1).2))) rfl rfl hg2 rfl ?_
  refine Go.run hD 2 (c' := (609, [(44, -1), (17, 1), (18, 130), (32, 156), (0, i), (0, kd_line v.1), (0, v2.1), z7], [(18, 130)], v2.2, (G0, a + (mkZ v.1).1, b + (mkZ v.1).2))) rfl ?_
  refine Go.call hD (D2 := d_M_thrown) (q2 := 20) (as := [(18, 130)]) (c1 := (612, [(44, -1), (17, 1), (18, 130), (32, 156), (0, i), (0, kd_line v.1), (0, v2.1), z7], [], v2.2, (G0, a + (mkZ v.1).1, b + (mkZ v.1).2))) (r2 := (1, (0, fM_thrown v2.2), v2.2, XX)) (c2 := (612, [(44, -1), (17, 1), (18, 130), (32, 156), (0, i), (0, kd_line v.1), (0, v2.1), z7], [(0, fM_thrown v2.2)], v2.2, (G0, a + (mkZ v.1).1, b + (mkZ v.1).2))) rfl rfl hg3 rfl ?_
  refine Go.run hD 1 (c' := (614, [(44, -1), (17, 1), (18, 130), (32, 156), (0, i), (0, kd_line v.1), (0, v2.1), z7], [(0, kd_line v.1), (0, fM_thrown v2.2)], v2.2, (G0, a + (mkZ v.1).1, b + (mkZ v.1).2))) rfl ?_
  refine G_eq hD rfl e5 rfl ?_
  refine Go.run hD 1 (c' := (621, [(44, -1), (17, 1), (18, 130), (32, 156), (0, i), (0, kd_line v.1), (0, v2.1), z7], [(0, kd_line v.1)], v2.2, (G0, a + (mkZ v.1).1, b + (mkZ v.1).2))) rfl ?_
  refine G_ne hD rfl rfl (fun e0 => ?_) ?_
  · have k1 : v.1 = 1 := kd1_line e2 e0
    refine Go.run hD 6 (c' := (631, [(44, -1), (17, 1), (18, 130), (32, 156), (0, i), (0, kd_line v.1), (0, v2.1), z7], [(0, cmp3 (v2.2 156 0) (v2.1))], v2.2, (G0, a + (mkZ v.1).1, b + (mkZ v.1).2))) rfl ?_
    refine G_eq0 hD rfl (cmp3_same ?_) rfl ?_
    · exact ho k1
    refine Go.run hD 1 (c' := (822, [(44, -1), (17, 1), (18, 130), (32, 156), (0, i), (0, kd_line v.1), (0, v2.1), z7], [], v2.2, (G0, a + (mkZ v.1).1, b + (mkZ v.1).2))) rfl ?_
    exact hg
  · refine Go.run hD 1 (c' := (822, lLc i (0, kd_line v.1) (0, v2.1) z7, [], v2.2, (G0, a + (mkZ v.1).1, b + (mkZ v.1).2))) rfl ?_
    exact hg
theorem turn_aggregate (hok : OkAll I) (hS : ∀ j, i32 (S j)) (hI : ∀ m, I m → m (-1) = S) (hm : I m) (h1 : 0 ≤ w32 (i + 1) ∧ w32 (i + 1) < S (-1)) (h2 : 0 ≤ w32 (i + 2) ∧ w32 (i + 2) < S (-1)) (h3 : 0 ≤ w32 (i + 3) ∧ w32 (i + 3) < S (-1)) (h4 : 0 ≤ w32 (i + 4) ∧ w32 (i + 4) < S (-1)) (K : Nx I i a b A Bd) : Ev A Bd (639, lLc i z5 z6 z7, [], m, (G0, a, b)) := by
  have hD : aMd PB 197 = d_L_law := rfl
  have hmS : m (-1) = S := hI m hm
  obtain ⟨v, v2, e1, e2, e3, e4, e5, e6, e8, e7⟩ := (hok.2.2.2.2.2.2.2.2.2.2.2.1) (S (w32 (i + 1))) (hS _) m hm
  try simp only at e1 e4
  have hm1 : mkN v (-1) = S := (mkN_scr v).trans (e3.trans hmS)
  have hg1 : Go PB 42 194 (aEnt d_L_aggregate [(17, 1), (0, (S (w32 (i + 1)))), (32, 156)] m XX) (1, (0, kd_aggregate v.1), mkN v, (G0, (mkZ v.1).1, (mkZ v.1).2)) := Go.mono (tL_aggregate m (S (w32 (i + 1))) v e1 e2) (by decide)
  have hg2 : Go PB 42 84 (aEnt d_M_aggregate [(18, 130), (0, (S (w32 (i + 1))))] (mkN v) XX) (1, (1, v2.1), v2.2, XX) := Go.mono (tM_aggregate (mkN v) (S (w32 (i + 1))) v2 e4) (by decide)
  have hg3 : Go PB 42 20 (aEnt d_M_thrown [(18, 130)] v2.2 XX) (1, (0, fM_thrown v2.2), v2.2, XX) := Go.mono (tM_thrown v2.2) (by decide)
  have hz := mkZ_le v.1
  obtain ⟨m9, a9, b9, ha, hb, hg⟩ := K v2.2 (a + (mkZ v.1).1) (b + (mkZ v.1).2) (0, kd_aggregate v.1) (1, v2.1) (99, 0) e7 (by omega) (by omega)
  refine ⟨m9, a9, b9, ha, hb, ?_⟩
  have ho : v.1 = 1 → v2.2 156 0 = v2.1 := fun h => by
    rw [← e6 h]
    exact out_at e8 h
  refine Go.run hD 5 (c' := (645, [(44, -1), (17, 1), (18, 130), (32, 156), (0, i), z5, z6, z7], [(0, w32 (i + 1)), (44, -1), (17, 1)], m, (G0, a, b))) rfl ?_
  refine G_scr hD rfl hmS h1 ?_
  refine Go.run hD 1 (c' := (647, [(44, -1), (17, 1), (18, 130), (32, 156), (0, i), z5, z6, z7], [(32, 156), (0, S (w32 (i + 1))), (17, 1)], m, (G0, a, b))) rfl ?_
  refine Go.call hD (D2 := d_L_aggregate) (q2 := 194) (as := [(17, 1), (0, S (w32 (i + 1))), (32, 156)]) (c1 := (650, [(44, -1), (17, 1), (18, 130), (32, 156), (0, i), z5, z6, z7], [], m, (G0, a, b))) (r2 := (1, (0, kd_aggregate v.1), mkN v, (G0, (mkZ v.1).1, (mkZ v.1).2))) (c2 := (650, [(44, -1), (17, 1), (18, 130), (32, 156), (0, i), z5, z6, z7], [(0, kd_aggregate v.1)], mkN v, (G0, a + (mkZ v.1).1, b + (mkZ v.1).2))) rfl rfl hg1 rfl ?_
  refine Go.run hD 6 (c' := (658, [(44, -1), (17, 1), (18, 130), (32, 156), (0, i), (0, kd_aggregate v.1), z6, z7], [(0, w32 (i + 1)), (44, -1), (18, 130)], mkN v, (G0, a + (mkZ v.1).1, b + (mkZ v.1).2))) rfl ?_
  refine G_scr hD rfl hm1 h1 ?_
  refine Go.call hD (D2 := d_M_aggregate) (q2 := 84) (as := [(18, 130), (0, S (w32 (i + 1)))]) (c1 := (662, [(44, -1), (17, 1), (18, 130), (32, 156), (0, i), (0, kd_aggregate v.1), z6, z7], [], mkN v, (G0, a + (mkZ v.1).1, b + (mkZ v.1).2))) (r2 := (1, (1, v2.1), v2.2, XX)) (c2 := (662, [(44, -1), (17, 1), (18, 130), (32, 156), (0, i), (0, kd_aggregate v.1), z6, z7], [(1, v2.1)], v2.2, (G0, a + (mkZ v.1).1, b + (mkZ v.1).2))) rfl rfl hg2 rfl ?_
  refine Go.run hD 2 (c' := (665, [(44, -1), (17, 1), (18, 130), (32, 156), (0, i), (0, kd_aggregate v.1), (1, v2.1), (99, 0)], [(18, 130)], v2.2, (G0, a + (mkZ v.1).1, b + (mkZ v.1).2))) rfl ?_
  refine Go.call hD (D2 := d_M_thrown) (q2 := 20) (as := [(18, 130)]) (c1 := (668, [(44, -1), (17, 1), (18, 130), (32, 156), (0, i), (0, kd_aggregate v.1), (1, v2.1), (99, 0)], [], v2.2, (G0, a + (mkZ v.1).1, b + (mkZ v.1).2))) (r2 := (1, (0, fM_thrown v2.2), v2.2, XX)) (c2 := (668, [(44, -1), (17, 1), (18, 130), (32, 156), (0, i), (0, kd_aggregate v.1), (1, v2.1), (99, 0)], [(0, fM_thrown v2.2)], v2.2, (G0, a + (mkZ v.1).1, b + (mkZ v.1).2))) rfl rfl hg3 rfl ?_
  refine Go.run hD 1 (c' := (670, [(44, -1), (17, 1), (18, 130), (32, 156), (0, i), (0, kd_aggregate v.1), (1, v2.1), (99, 0)], [(0, kd_aggregate v.1), (0, fM_thrown v2.2)], v2.2, (G0, a + (mkZ v.1).1, b + (mkZ v.1).2))) rfl ?_
  refine G_eq hD rfl e5 rfl ?_
  refine Go.run hD 1 (c' := (677, [(44, -1), (17, 1), (18, 130), (32, 156), (0, i), (0, kd_aggregate v.1), (1, v2.1), (99, 0)], [(0, kd_aggregate v.1)], v2.2, (G0, a + (mkZ v.1).1, b + (mkZ v.1).2))) rfl ?_
  refine G_ne hD rfl rfl (fun e0 => ?_) ?_
  · have k1 : v.1 = 1 := kd1_aggregate e2 e0
    refine Go.run hD 5 (c' := (686, [(44, -1), (17, 1), (18, 130), (32, 156), (0, i), (0, kd_aggregate v.1), (1, v2.1), (99, 0)], [(0, cmp3 (v2.2 156 0) (v2.1))], v2.2, (G0, a + (mkZ v.1).1, b + (mkZ v.1).2))) rfl ?_
    refine G_eq0 hD rfl (cmp3_same ?_) rfl ?_
    · exact ho k1
    refine Go.run hD 1 (c' := (822, [(44, -1), (17, 1), (18, 130), (32, 156), (0, i), (0, kd_aggregate v.1), (1, v2.1), (99, 0)], [], v2.2, (G0, a + (mkZ v.1).1, b + (mkZ v.1).2))) rfl ?_
    exact hg
  · refine Go.run hD 1 (c' := (822, lLc i (0, kd_aggregate v.1) (1, v2.1) (99, 0), [], v2.2, (G0, a + (mkZ v.1).1, b + (mkZ v.1).2))) rfl ?_
    exact hg
theorem turn_write (hok : OkAll I) (hS : ∀ j, i32 (S j)) (hI : ∀ m, I m → m (-1) = S) (hm : I m) (h1 : 0 ≤ w32 (i + 1) ∧ w32 (i + 1) < S (-1)) (h2 : 0 ≤ w32 (i + 2) ∧ w32 (i + 2) < S (-1)) (h3 : 0 ≤ w32 (i + 3) ∧ w32 (i + 3) < S (-1)) (h4 : 0 ≤ w32 (i + 4) ∧ w32 (i + 4) < S (-1)) (K : Nx I i a b A Bd) : Ev A Bd (694, lLc i z5 z6 z7, [], m, (G0, a, b)) := by
  have hD : aMd PB 197 = d_L_law := rfl
  have hmS : m (-1) = S := hI m hm
  obtain ⟨v, v2, e1, e2, e3, e4, e5, e6, e8, e7⟩ := (hok.2.2.2.2.2.2.2.2.2.2.2.2.1) (if S (w32 (i + 1)) = 0 then 0 else 1) (b01 _) m hm
  try simp only at e1 e4
  have hm1 : mkN v (-1) = S := (mkN_scr v).trans (e3.trans hmS)
  have hg1 : Go PB 42 195 (aEnt d_L_write [(17, 1), (0, (if S (w32 (i + 1)) = 0 then 0 else 1)), (32, 156)] m XX) (1, (0, kd_write v.1), mkN v, (G0, (mkZ v.1).1, (mkZ v.1).2)) := Go.mono (tL_write m (if S (w32 (i + 1)) = 0 then 0 else 1) v e1 e2) (by decide)
  have hg2 : Go PB 42 92 (aEnt d_M_write [(18, 130), (0, (if S (w32 (i + 1)) = 0 then 0 else 1))] (mkN v) XX) (1, (0, v2.1), v2.2, XX) := Go.mono (tM_write (mkN v) (if S (w32 (i + 1)) = 0 then 0 else 1) v2 e4) (by decide)
  have hg3 : Go PB 42 20 (aEnt d_M_thrown [(18, 130)] v2.2 XX) (1, (0, fM_thrown v2.2), v2.2, XX) := Go.mono (tM_thrown v2.2) (by decide)
  have hz := mkZ_le v.1
  obtain ⟨m9, a9, b9, ha, hb, hg⟩ := K v2.2 (a + (mkZ v.1).1) (b + (mkZ v.1).2) (0, kd_write v.1) (0, v2.1) z7 e7 (by omega) (by omega)
  refine ⟨m9, a9, b9, ha, hb, ?_⟩
  have ho : v.1 = 1 → v2.2 156 0 = v2.1 := fun h => by
    rw [← e6 h]
    exact out_at e8 h
  refine Go.run hD 5 (c' := (700, [(44, -1), (17, 1), (18, 130), (32, 156), (0, i), z5, z6, z7], [(0, w32 (i + 1)), (44, -1), (17, 1)], m, (G0, a, b))) rfl ?_
  refine G_scr hD rfl hmS h1 ?_
  refine G_bool hD rfl rfl rfl rfl ?_
  refine Go.run hD 1 (c' := (710, [(44, -1), (17, 1), (18, 130), (32, 156), (0, i), z5, z6, z7], [(32, 156), (0, if S (w32 (i + 1)) = 0 then 0 else 1), (17, 1)], m, (G0, a, b))) rfl ?_
  refine Go.call hD (D2 := d_L_write) (q2 := 195) (as := [(17, 1), (0, if S (w32 (i + 1)) = 0 then 0 else 1), (32, 156)]) (c1 := (713, [(44, -1), (17, 1), (18, 130), (32, 156), (0, i), z5, z6, z7], [], m, (G0, a, b))) (r2 := (1, (0, kd_write v.1), mkN v, (G0, (mkZ v.1).1, (mkZ v.1).2))) (c2 := (713, [(44, -1), (17, 1), (18, 130), (32, 156), (0, i), z5, z6, z7], [(0, kd_write v.1)], mkN v, (G0, a + (mkZ v.1).1, b + (mkZ v.1).2))) rfl rfl hg1 rfl ?_
  refine Go.run hD 6 (c' := (721, [(44, -1), (17, 1), (18, 130), (32, 156), (0, i), (0, kd_write v.1), z6, z7], [(0, w32 (i + 1)), (44, -1), (18, 130)], mkN v, (G0, a + (mkZ v.1).1, b + (mkZ v.1).2))) rfl ?_
  refine G_scr hD rfl hm1 h1 ?_
  refine G_bool hD rfl rfl rfl rfl ?_
  refine Go.call hD (D2 := d_M_write) (q2 := 92) (as := [(18, 130), (0, if S (w32 (i + 1)) = 0 then 0 else 1)]) (c1 := (733, [(44, -1), (17, 1), (18, 130), (32, 156), (0, i), (0, kd_write v.1), z6, z7], [], mkN v, (G0, a + (mkZ v.1).1, b + (mkZ v.1).2))) (r2 := (1, (0, v2.1), v2.2, XX)) (c2 := (733, [(44, -1), (17, 1), (18, 130), (32, 156), (0, i), (0, kd_write v.1), z6, z7], [(0, v2.1)], v2.2, (G0, a + (mkZ v.1).1, b + (mkZ v.1).2))) rfl rfl hg2 rfl ?_
  refine Go.run hD 2 (c' := (736, [(44, -1), (17, 1), (18, 130), (32, 156), (0, i), (0, kd_write v.1), (0, v2.1), z7], [(18, 130)], v2.2, (G0, a + (mkZ v.1).1, b + (mkZ v.1).2))) rfl ?_
  refine Go.call hD (D2 := d_M_thrown) (q2 := 20) (as := [(18, 130)]) (c1 := (739, [(44, -1), (17, 1), (18, 130), (32, 156), (0, i), (0, kd_write v.1), (0, v2.1), z7], [], v2.2, (G0, a + (mkZ v.1).1, b + (mkZ v.1).2))) (r2 := (1, (0, fM_thrown v2.2), v2.2, XX)) (c2 := (739, [(44, -1), (17, 1), (18, 130), (32, 156), (0, i), (0, kd_write v.1), (0, v2.1), z7], [(0, fM_thrown v2.2)], v2.2, (G0, a + (mkZ v.1).1, b + (mkZ v.1).2))) rfl rfl hg3 rfl ?_
  refine Go.run hD 1 (c' := (741, [(44, -1), (17, 1), (18, 130), (32, 156), (0, i), (0, kd_write v.1), (0, v2.1), z7], [(0, kd_write v.1), (0, fM_thrown v2.2)], v2.2, (G0, a + (mkZ v.1).1, b + (mkZ v.1).2))) rfl ?_
  refine G_eq hD rfl e5 rfl ?_
  refine Go.run hD 1 (c' := (748, [(44, -1), (17, 1), (18, 130), (32, 156), (0, i), (0, kd_write v.1), (0, v2.1), z7], [(0, kd_write v.1)], v2.2, (G0, a + (mkZ v.1).1, b + (mkZ v.1).2))) rfl ?_
  refine G_ne hD rfl rfl (fun e0 => ?_) ?_
  · have k1 : v.1 = 1 := kd1_write e2 e0
    refine Go.run hD 6 (c' := (758, [(44, -1), (17, 1), (18, 130), (32, 156), (0, i), (0, kd_write v.1), (0, v2.1), z7], [(0, cmp3 (v2.2 156 0) (v2.1))], v2.2, (G0, a + (mkZ v.1).1, b + (mkZ v.1).2))) rfl ?_
    refine G_eq0 hD rfl (cmp3_same ?_) rfl ?_
    · exact ho k1
    refine Go.run hD 1 (c' := (822, [(44, -1), (17, 1), (18, 130), (32, 156), (0, i), (0, kd_write v.1), (0, v2.1), z7], [], v2.2, (G0, a + (mkZ v.1).1, b + (mkZ v.1).2))) rfl ?_
    exact hg
  · refine Go.run hD 1 (c' := (822, lLc i (0, kd_write v.1) (0, v2.1) z7, [], v2.2, (G0, a + (mkZ v.1).1, b + (mkZ v.1).2))) rfl ?_
    exact hg
theorem turn_out (hok : OkAll I) (hS : ∀ j, i32 (S j)) (hI : ∀ m, I m → m (-1) = S) (hm : I m) (h1 : 0 ≤ w32 (i + 1) ∧ w32 (i + 1) < S (-1)) (h2 : 0 ≤ w32 (i + 2) ∧ w32 (i + 2) < S (-1)) (h3 : 0 ≤ w32 (i + 3) ∧ w32 (i + 3) < S (-1)) (h4 : 0 ≤ w32 (i + 4) ∧ w32 (i + 4) < S (-1)) (K : Nx I i a b A Bd) : Ev A Bd (766, lLc i z5 z6 z7, [], m, (G0, a, b)) := by
  have hD : aMd PB 197 = d_L_law := rfl
  have hmS : m (-1) = S := hI m hm
  obtain ⟨v, v2, e1, e2, e3, e4, e5, e6, e8, e7⟩ := (hok.2.2.2.2.2.2.2.2.2.2.2.2.2) (S (w32 (i + 1))) (hS _) m hm
  try simp only at e1 e4
  have hm1 : mkN v (-1) = S := (mkN_scr v).trans (e3.trans hmS)
  have hg1 : Go PB 42 196 (aEnt d_L_out [(17, 1), (0, (S (w32 (i + 1)))), (32, 156)] m XX) (1, (0, kd_out v.1), mkN v, (G0, (mkZ v.1).1, (mkZ v.1).2)) := Go.mono (tL_out m (S (w32 (i + 1))) v e1 e2) (by decide)
  have hg2 : Go PB 42 93 (aEnt d_M_out [(18, 130), (0, (S (w32 (i + 1))))] (mkN v) XX) (1, (0, v2.1), v2.2, XX) := Go.mono (tM_out (mkN v) (S (w32 (i + 1))) v2 e4) (by decide)
  have hg3 : Go PB 42 20 (aEnt d_M_thrown [(18, 130)] v2.2 XX) (1, (0, fM_thrown v2.2), v2.2, XX) := Go.mono (tM_thrown v2.2) (by decide)
  have hz := mkZ_le v.1
  obtain ⟨m9, a9, b9, ha, hb, hg⟩ := K v2.2 (a + (mkZ v.1).1) (b + (mkZ v.1).2) (0, kd_out v.1) (0, v2.1) z7 e7 (by omega) (by omega)
  refine ⟨m9, a9, b9, ha, hb, ?_⟩
  have ho : v.1 = 1 → v2.2 156 0 = v2.1 := fun h => by
    rw [← e6 h]
    exact out_at e8 h
  refine Go.run hD 5 (c' := (772, [(44, -1), (17, 1), (18, 130), (32, 156), (0, i), z5, z6, z7], [(0, w32 (i + 1)), (44, -1), (17, 1)], m, (G0, a, b))) rfl ?_
  refine G_scr hD rfl hmS h1 ?_
  refine Go.run hD 1 (c' := (774, [(44, -1), (17, 1), (18, 130), (32, 156), (0, i), z5, z6, z7], [(32, 156), (0, S (w32 (i + 1))), (17, 1)], m, (G0, a, b))) rfl ?_
  refine Go.call hD (D2 := d_L_out) (q2 := 196) (as := [(17, 1), (0, S (w32 (i + 1))), (32, 156)]) (c1 := (777, [(44, -1), (17, 1), (18, 130), (32, 156), (0, i), z5, z6, z7], [], m, (G0, a, b))) (r2 := (1, (0, kd_out v.1), mkN v, (G0, (mkZ v.1).1, (mkZ v.1).2))) (c2 := (777, [(44, -1), (17, 1), (18, 130), (32, 156), (0, i), z5, z6, z7], [(0, kd_out v.1)], mkN v, (G0, a + (mkZ v.1).1, b + (mkZ v.1).2))) rfl rfl hg1 rfl ?_
  refine Go.run hD 6 (c' := (785, [(44, -1), (17, 1), (18, 130), (32, 156), (0, i), (0, kd_out v.1), z6, z7], [(0, w32 (i + 1)), (44, -1), (18, 130)], mkN v, (G0, a + (mkZ v.1).1, b + (mkZ v.1).2))) rfl ?_
  refine G_scr hD rfl hm1 h1 ?_
  refine Go.call hD (D2 := d_M_out) (q2 := 93) (as := [(18, 130), (0, S (w32 (i + 1)))]) (c1 := (789, [(44, -1), (17, 1), (18, 130), (32, 156), (0, i), (0, kd_out v.1), z6, z7], [], mkN v, (G0, a + (mkZ v.1).1, b + (mkZ v.1).2))) (r2 := (1, (0, v2.1), v2.2, XX)) (c2 := (789, [(44, -1), (17, 1), (18, 130), (32, 156), (0, i), (0, kd_out v.1), z6, z7], [(0, v2.1)], v2.2, (G0, a + (mkZ v.1).1, b + (mkZ v.1).2))) rfl rfl hg2 rfl ?_
  refine Go.run hD 2 (c' := (792, [(44, -1), (17, 1), (18, 130), (32, 156), (0, i), (0, kd_out v.1), (0, v2.1), z7], [(18, 130)], v2.2, (G0, a + (mkZ v.1).1, b + (mkZ v.1).2))) rfl ?_
  refine Go.call hD (D2 := d_M_thrown) (q2 := 20) (as := [(18, 130)]) (c1 := (795, [(44, -1), (17, 1), (18, 130), (32, 156), (0, i), (0, kd_out v.1), (0, v2.1), z7], [], v2.2, (G0, a + (mkZ v.1).1, b + (mkZ v.1).2))) (r2 := (1, (0, fM_thrown v2.2), v2.2, XX)) (c2 := (795, [(44, -1), (17, 1), (18, 130), (32, 156), (0, i), (0, kd_out v.1), (0, v2.1), z7], [(0, fM_thrown v2.2)], v2.2, (G0, a + (mkZ v.1).1, b + (mkZ v.1).2))) rfl rfl hg3 rfl ?_
  refine Go.run hD 1 (c' := (797, [(44, -1), (17, 1), (18, 130), (32, 156), (0, i), (0, kd_out v.1), (0, v2.1), z7], [(0, kd_out v.1), (0, fM_thrown v2.2)], v2.2, (G0, a + (mkZ v.1).1, b + (mkZ v.1).2))) rfl ?_
  refine G_eq hD rfl e5 rfl ?_
  refine Go.run hD 1 (c' := (804, [(44, -1), (17, 1), (18, 130), (32, 156), (0, i), (0, kd_out v.1), (0, v2.1), z7], [(0, kd_out v.1)], v2.2, (G0, a + (mkZ v.1).1, b + (mkZ v.1).2))) rfl ?_
  refine G_ne hD rfl rfl (fun e0 => ?_) ?_
  · have k1 : v.1 = 1 := kd1_out e2 e0
    refine Go.run hD 6 (c' := (814, [(44, -1), (17, 1), (18, 130), (32, 156), (0, i), (0, kd_out v.1), (0, v2.1), z7], [(0, cmp3 (v2.2 156 0) (v2.1))], v2.2, (G0, a + (mkZ v.1).1, b + (mkZ v.1).2))) rfl ?_
    refine G_eq0 hD rfl (cmp3_same ?_) rfl ?_
    · exact ho k1
    refine Go.run hD 1 (c' := (822, [(44, -1), (17, 1), (18, 130), (32, 156), (0, i), (0, kd_out v.1), (0, v2.1), z7], [], v2.2, (G0, a + (mkZ v.1).1, b + (mkZ v.1).2))) rfl ?_
    exact hg
  · refine Go.run hD 1 (c' := (822, lLc i (0, kd_out v.1) (0, v2.1) z7, [], v2.2, (G0, a + (mkZ v.1).1, b + (mkZ v.1).2))) rfl ?_
    exact hg
end Turns
