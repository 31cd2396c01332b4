/-! THE LAW'S RUN out of what the pure part owes -/
set_option maxRecDepth 100000
theorem bAnd15 (x : Int) : 0 ≤ bAnd x 15 ∧ bAnd x 15 ≤ 15 := by
  unfold bAnd
  obtain ⟨y, hy⟩ : ∃ y, y = Int32.ofInt x := ⟨_, rfl⟩
  rw [← hy]
  have h1 : (y &&& Int32.ofInt 15).toBitVec.toNat ≤ 15 := by
    rw [Int32.toBitVec_and, BitVec.toNat_and]
    exact Nat.le_trans Nat.and_le_right (by decide)
  have h2 : (y &&& Int32.ofInt 15).toInt = ((y &&& Int32.ofInt 15).toBitVec.toNat : Int) := by
    show (y &&& Int32.ofInt 15).toBitVec.toInt = _
    exact BitVec.toInt_eq_toNat_of_lt (by omega)
  omega
section Law
variable {I : aM → Prop} {S : Int → Int}
theorem law_turn (hok : OkAll I) (hS : ∀ j, i32 (S j)) (hI : ∀ m, I m → m (-1) = S) (hN : 0 ≤ S (-1) ∧ S (-1) ≤ 240) {m : aM} {i : Int} {a b A Bd : Nat} {z5 z6 z7 : aV} (hm : I m) (h0 : 0 ≤ i) (h5 : i ≤ S (-1) - 5) (K : Nx I i a b A Bd) : Ev A Bd (32, lLc i z5 z6 z7, [], m, (G0, a, b)) := by
  have hD : aMd PB 197 = d_L_law := rfl
  have hmS : m (-1) = S := hI m hm
  have w (k : Int) (hk : 0 ≤ k ∧ k ≤ 4) : 0 ≤ w32 (i + k) ∧ w32 (i + k) < S (-1) := by
    rw [w32_id (by omega) (by omega)]
    omega
  have h1 := w 1 (by omega)
  have h2 := w 2 (by omega)
  have h3 := w 3 (by omega)
  have h4 := w 4 (by omega)
  have hb := bAnd15 (S i)
  have key : Ev A Bd (39, lLc i z5 z6 z7, [(0, bAnd (S i) 15)], m, (G0, a, b)) := by
    obtain ⟨u, hu⟩ : ∃ u, u = bAnd (S i) 15 := ⟨_, rfl⟩
    rw [← hu] at hb ⊢
    have st {pc : Nat} (hs : aStep d_L_law (39, lLc i z5 z6 z7, [(0, u)], m, (G0, a, b)) = some (pc, lLc i z5 z6 z7, [], m, (G0, a, b))) (hv : Ev A Bd (pc, lLc i z5 z6 z7, [], m, (G0, a, b))) : Ev A Bd (39, lLc i z5 z6 z7, [(0, u)], m, (G0, a, b)) := by
      obtain ⟨m', a', b', ha, hb', hg⟩ := hv
      exact ⟨m', a', b', ha, hb', Go.step hD hs hg⟩
    have hc : u = 0 ∨ u = 1 ∨ u = 2 ∨ u = 3 ∨ u = 4 ∨ u = 5 ∨ u = 6 ∨ u = 7 ∨ u = 8 ∨ u = 9 ∨ u = 10 ∨ u = 11 ∨ u = 12 ∨ u = 13 ∨ u = 14 ∨ u = 15 := by omega
    clear hu hb
    rcases hc with h | h | h | h | h | h | h | h | h | h | h | h | h | h | h | h <;> subst h
    · exact st (pc := 108) rfl (turn_put hok hS hI hm h1 h2 h3 h4 K)
    · exact st (pc := 205) rfl (turn_cut hok hS hI hm h1 h2 h3 h4 K)
    · exact st (pc := 258) rfl (turn_load hok hS hI hm h1 h2 h3 h4 K)
    · exact st (pc := 302) rfl (turn_columns hok hS hI hm h1 h2 h3 h4 K)
    · exact st (pc := 315) rfl (turn_type hok hS hI hm h1 h2 h3 h4 K)
    · exact st (pc := 371) rfl (turn_isMissing hok hS hI hm h1 h2 h3 h4 K)
    · exact st (pc := 446) rfl (turn_value hok hS hI hm h1 h2 h3 h4 K)
    · exact st (pc := 513) rfl (turn_ask hok hS hI hm h1 h2 h3 h4 K)
    · exact st (pc := 557) rfl (turn_fault hok hS hI hm h1 h2 h3 h4 K)
    · exact st (pc := 570) rfl (turn_lines hok hS hI hm h1 h2 h3 h4 K)
    · exact st (pc := 583) rfl (turn_line hok hS hI hm h1 h2 h3 h4 K)
    · exact st (pc := 639) rfl (turn_aggregate hok hS hI hm h1 h2 h3 h4 K)
    · exact st (pc := 694) rfl (turn_write hok hS hI hm h1 h2 h3 h4 K)
    · exact st (pc := 766) rfl (turn_out hok hS hI hm h1 h2 h3 h4 K)
    · exact st (pc := 822) rfl (K _ _ _ _ _ _ hm (by omega) (by omega))
    · exact st (pc := 822) rfl (K _ _ _ _ _ _ hm (by omega) (by omega))
  obtain ⟨m', a', b', ha, hb', hg⟩ := key
  refine ⟨m', a', b', ha, hb', ?_⟩
  refine Go.run hD 2 (c' := (35, lLc i z5 z6 z7, [(0, i), (44, -1)], m, (G0, a, b))) rfl ?_
  refine G_scr hD rfl hmS ⟨h0, by omega⟩ ?_
  exact Go.run hD 2 (c' := (39, lLc i z5 z6 z7, [(0, bAnd (S i) 15)], m, (G0, a, b))) rfl hg
theorem law_loop (hok : OkAll I) (hS : ∀ j, i32 (S j)) (hI : ∀ m, I m → m (-1) = S) (hN : 0 ≤ S (-1) ∧ S (-1) ≤ 240) : ∀ (n : Nat) (m : aM) (i : Int) (a b : Nat) (z5 z6 z7 : aV), I m → 0 ≤ i → S (-1) - i < 5 * (n : Int) + 5 → Ev (a + n) (b + 6 * n) (23, lLc i z5 z6 z7, [], m, (G0, a, b)) := by
  have hD : aMd PB 197 = d_L_law := rfl
  intro n
  induction n with
  | zero =>
    intro m i a b z5 z6 z7 hm h0 h5
    have hmS : m (-1) = S := hI m hm
    refine ⟨m, a, b, by omega, by omega, ?_⟩
    refine Go.run hD 5 (c' := (29, lLc i z5 z6 z7, [(0, w32 (m (-1) (-1) - 5)), (0, i)], m, (G0, a, b))) rfl ?_
    refine Go.step hD (c' := (828, lLc i z5 z6 z7, [], m, (G0, a, b))) ?_ ?_
    · show (if w32 (m (-1) (-1) - 5) < i then _ else _) = _
      rw [hmS, w32_id (by omega) (by omega), if_pos (by omega)]
      rfl
    exact Go.run hD 1 (c' := (829, lLc i z5 z6 z7, [(0, 1)], m, (G0, a, b))) rfl (Go.fin hD rfl)
  | succ n ih =>
    intro m i a b z5 z6 z7 hm h0 h5
    have hmS : m (-1) = S := hI m hm
    by_cases hlt : S (-1) - 5 < i
    · refine ⟨m, a, b, by omega, by omega, ?_⟩
      refine Go.run hD 5 (c' := (29, lLc i z5 z6 z7, [(0, w32 (m (-1) (-1) - 5)), (0, i)], m, (G0, a, b))) rfl ?_
      refine Go.step hD (c' := (828, lLc i z5 z6 z7, [], m, (G0, a, b))) ?_ ?_
      · show (if w32 (m (-1) (-1) - 5) < i then _ else _) = _
        rw [hmS, w32_id (by omega) (by omega), if_pos (by omega)]
        rfl
      exact Go.run hD 1 (c' := (829, lLc i z5 z6 z7, [(0, 1)], m, (G0, a, b))) rfl (Go.fin hD rfl)
    · have key : Ev (a + (n + 1)) (b + 6 * (n + 1)) (32, lLc i z5 z6 z7, [], m, (G0, a, b)) := by
        refine law_turn hok hS hI hN hm h0 (by omega) ?_
        intro m' a' b' y5 y6 y7 hm' ha' hb'
        obtain ⟨m2, a2, b2, ha2, hb2, hg2⟩ := ih m' (i + 5) a' b' y5 y6 y7 hm' (by omega) (by omega)
        refine ⟨m2, a2, b2, by omega, by omega, ?_⟩
        refine Go.run hD 2 (c' := (23, lLc (w32 (i + 5)) y5 y6 y7, [], m', (G0, a', b'))) rfl ?_
        rw [w32_id (by omega) (by omega)]
        exact hg2
      obtain ⟨m', a', b', ha, hb', hg⟩ := key
      refine ⟨m', a', b', ha, hb', ?_⟩
      refine Go.run hD 5 (c' := (29, lLc i z5 z6 z7, [(0, w32 (m (-1) (-1) - 5)), (0, i)], m, (G0, a, b))) rfl ?_
      refine Go.step hD (c' := (32, lLc i z5 z6 z7, [], m, (G0, a, b))) ?_ hg
      show (if w32 (m (-1) (-1) - 5) < i then _ else _) = _
      rw [hmS, w32_id (by omega) (by omega), if_neg (by omega)]
/-- the law answers 1 -/
theorem law_go (hok : OkAll I) (hS : ∀ j, i32 (S j)) (hI : ∀ m, I m → m (-1) = S) (hN : 0 ≤ S (-1) ∧ S (-1) ≤ 240) {m0 : aM} (h0 : I (iM (iX m0))) : Ev 2000 30000 (aEnt d_L_law [(44, -1)] m0 (GE, 0, 0)) := by
  have hD : aMd PB 197 = d_L_law := rfl
  obtain ⟨m', a', b', ha, hb, hg⟩ := law_loop hok hS hI hN 48 (iM (iX m0)) 0 XC.2.1 XC.2.2 (99, 0) (99, 0) (99, 0) h0 (by omega) (by omega)
  have hx := XC_small
  refine ⟨m', a', b', by omega, by omega, ?_⟩
  refine Go.run hD 2 (c' := (4, [(44, -1), (99, 0), (99, 0), (99, 0), (99, 0), (99, 0), (99, 0), (99, 0)], [(17, 1), (17, 1)], m0, XA)) rfl ?_
  refine Go.call hD (D2 := d_X_init) (q2 := 0) (as := [(17, 1)]) (c1 := (7, [(44, -1), (99, 0), (99, 0), (99, 0), (99, 0), (99, 0), (99, 0), (99, 0)], [(17, 1)], m0, XA)) (r2 := (0, (0, 0), iX m0, gX XA.1 1)) (c2 := (7, [(44, -1), (99, 0), (99, 0), (99, 0), (99, 0), (99, 0), (99, 0), (99, 0)], [(17, 1)], iX m0, add2 XA (gX XA.1 1))) rfl rfl (Go.mono (kX m0 _ _ _ _ _) (by decide)) rfl ?_
  have eB : ((add2 XA (gX XA.1 1)).1.1 : Nat) + 1 = 130 := by decide +kernel
  refine Go.run hD 3 (c' := (12, [(44, -1), (17, 1), (99, 0), (99, 0), (99, 0), (99, 0), (99, 0), (99, 0)], [(18, (((add2 XA (gX XA.1 1)).1.1 + 1 : Nat) : Int)), (18, (((add2 XA (gX XA.1 1)).1.1 + 1 : Nat) : Int))], iX m0, XB)) rfl ?_
  rw [eB]
  refine Go.call hD (D2 := d_M_init) (q2 := 19) (as := [(18, 130)]) (c1 := (15, [(44, -1), (17, 1), (99, 0), (99, 0), (99, 0), (99, 0), (99, 0), (99, 0)], [(18, 130)], iX m0, XB)) (r2 := (0, (0, 0), iM (iX m0), gM XB.1 130)) (c2 := (15, [(44, -1), (17, 1), (99, 0), (99, 0), (99, 0), (99, 0), (99, 0), (99, 0)], [(18, 130)], iM (iX m0), add2 XB (gM XB.1 130))) rfl rfl (Go.mono (kM (iX m0) _ _ _) (by decide)) rfl ?_
  have eC : ((add2 XB (gM XB.1 130)).1.1 : Nat) + 1 = 156 := by decide +kernel
  refine Go.run hD 6 (c' := (23, lLc 0 (99, 0) (99, 0) (99, 0) |>.set 3 (32, (((add2 XB (gM XB.1 130)).1.1 + 1 : Nat) : Int)), [], iM (iX m0), XC)) rfl ?_
  rw [eC]
  have e : XC = (G0, XC.2.1, XC.2.2) := Prod.ext XC_G0 rfl
  rw [e]
  exact hg
end Law
