/-! ASK: the tokens, as the class finds them, 2 -/
def st (c : aM) (k : Int) : Int := if k = 0 then 0 else c (24 + (k - 1)) 2
def Lx (T : Tb) (u : Int → Int) (n i : Int) (τ : Int → Int) : Prop := i ≤ τ 1 ∧ (∀ j, i ≤ j → j < τ 1 → u j = 32) ∧ Tk T u n τ
def SP (c : aM) (T : Tb) (u : Int → Int) (n N : Int) : Prop := c 22 1 = N ∧ (0 ≤ N ∧ N ≤ n) ∧ (∀ k, 0 ≤ k → k ≤ N → Lx T u n (st c k) (c (24 + k))) ∧ (∀ k, 0 ≤ k → k < N → c (24 + k) 0 ≠ 6) ∧ c (24 + N) 0 = 6
theorem Tk.to {T : Tb} {u : Int → Int} {n : Int} {τ : Int → Int} (h : Tk T u n τ) (h6 : τ 0 ≠ 6) : τ 1 < τ 2 ∧ τ 2 ≤ n := by
  obtain ⟨h1, ⟨h2, -, h | h | h | h⟩ | h⟩ := h
  · exact ⟨h.2.1, h.2.2.1⟩
  · exact ⟨h.2.1, h.2.2.1⟩
  · obtain ⟨-, -, e, e1, e2, -, -, h | h⟩ := h <;> omega
  · obtain ⟨-, -, -, -, -, h⟩ := h
    unfold sgR nx at h
    by_cases hs : τ 1 + 1 < n
    · rw [if_pos hs] at h
      omega
    · rw [if_neg hs] at h
      omega
  · exact absurd h.1 h6
theorem Tk.ne {T : Tb} {u : Int → Int} {n : Int} {τ : Int → Int} (h : TkW T u n τ ∨ TkD u n τ ∨ TkQ u n τ ∨ TkS u n τ) : τ 0 ≠ 6 := by
  rcases h with h | h | h | h
  · have := h.2.2.2.2.2.1; omega
  · obtain ⟨-, -, -, -, -, -, h | h⟩ := h <;> omega
  · obtain ⟨-, -, e, -, -, -, -, h | h⟩ := h <;> omega
  · obtain ⟨-, -, -, -, -, h⟩ := h
    unfold sgR at h
    omega
theorem c_split {c0 : aM} {T : Tb} {u : Int → Int} {n : Int} (wt : WT T) (ct0 : CT c0 T) (hq0 : QC c0 u n) : ∃ c' N, fS_split c0 4 = some c' ∧ FrS c0 c' ∧ SP c' T u n N := by
  have hn := hq0.2.2.1
  unfold fS_split fS_split_10
  obtain ⟨v, hv, N, hP⟩ := aLoop_ok (f := fS_split_10_b 4) (Inv := fun x : aM × Int × Int => FrS c0 x.1 ∧ (0 ≤ x.1 22 1 ∧ x.1 22 1 ≤ x.2.1) ∧ (0 ≤ x.2.2 ∧ x.2.2 ≤ x.2.1 ∧ x.2.1 ≤ n) ∧ (st x.1 (x.1 22 1) ≤ x.2.1 ∧ ∀ j, st x.1 (x.1 22 1) ≤ j → j < x.2.1 → u j = 32) ∧ ∀ k, 0 ≤ k → k < x.1 22 1 → Lx T u n (st x.1 k) (x.1 (24 + k)) ∧ x.1 (24 + k) 0 ≠ 6) (μ := fun x => (n - x.2.1).toNat) (Post := fun v => ∃ N, FrS c0 v ∧ SP v T u n N) (by
    rintro ⟨c, i, t⟩ ⟨fr, ⟨N0, N1⟩, ⟨t0, t1, i1⟩, ⟨s1, s2⟩, hk⟩
    simp only at fr N0 N1 t0 t1 i1 s1 s2 hk
    have hq : QC c u n := hq0.of (fr 4 (by decide)) (fr 5 (by decide))
    have ct : CT c T := ct0.row (fun y y0 y1 => fr y (by omega))
    obtain ⟨N, eN⟩ : ∃ N, N = c 22 1 := ⟨_, rfl⟩
    rw [← eN] at N0 N1 s1 s2 hk
    unfold fS_split_10_b
    simp only
    rw [hq.1]
    have stc (c' : aM) (h : ∀ y, y ≠ 24 + N → y ≠ 22 → c' y = c y) (k : Int) (k0 : 0 ≤ k) (k1 : k ≤ N) : st c' k = st c k := by
      unfold st
      by_cases e : k = 0
      · rw [if_pos e, if_pos e]
      · rw [if_neg e, if_neg e, h _ (by omega) (by omega)]
    by_cases hi : i < n
    · left
      have ha := hq.at (i := i) (by omega)
      rw [if_pos hi] at ha
      rw [if_pos (by omega), if_pos hi, ha]
      simp only [Option.bind_some]
      rw [← eN, gd_pos (by omega)]
      by_cases h32 : u i = 32
      · rw [if_pos h32, w32_id (by omega) (by omega), w32_id (by omega) (by omega)]
        refine ⟨_, rfl, ⟨fr, by simp only; omega, by simp only; omega, ⟨by simp only; rw [← eN]; omega, fun j j0 j1 => ?_⟩, by simp only; rw [← eN]; exact hk⟩, by simp only; omega⟩
        simp only at j0 j1
        rw [← eN] at j0
        by_cases e : j = i
        · rw [e]; exact h32
        · exact s2 j j0 (by omega)
      rw [if_neg h32]
      -- a token is read
      have step (c' : aM) (r : ∀ y, y ≠ 24 + N → c' y = c y) (e1 : c' (24 + N) 1 = i) (hT : TkW T u n (c' (24 + N)) ∨ TkD u n (c' (24 + N)) ∨ TkQ u n (c' (24 + N)) ∨ TkS u n (c' (24 + N))) : ∃ y, (some (Sum.inl (mup c' 22 1 (w32 (c' 22 1 + 1)), mup c' 22 1 (w32 (c' 22 1 + 1)) (24 + N) 2, w32 (t + 1))) : Option ((aM × Int × Int) ⊕ aM)) = some (.inl y) ∧ (FrS c0 y.1 ∧ (0 ≤ y.1 22 1 ∧ y.1 22 1 ≤ y.2.1) ∧ (0 ≤ y.2.2 ∧ y.2.2 ≤ y.2.1 ∧ y.2.1 ≤ n) ∧ (st y.1 (y.1 22 1) ≤ y.2.1 ∧ ∀ j, st y.1 (y.1 22 1) ≤ j → j < y.2.1 → u j = 32) ∧ ∀ k, 0 ≤ k → k < y.1 22 1 → Lx T u n (st y.1 k) (y.1 (24 + k)) ∧ y.1 (24 + k) 0 ≠ 6) ∧ (n - y.2.1).toNat < (n - i).toNat := by
        have n6 := Tk.ne hT
        have tk : Tk T u n (c' (24 + N)) := ⟨by omega, Or.inl ⟨by omega, by rw [e1]; exact h32, hT⟩⟩
        have hto := tk.to n6
        have e22 : c' 22 1 = N := by rw [r 22 (by omega), ← eN]
        rw [e22, w32_id (by omega) (by omega), w32_id (by omega) (by omega), mup_ref (by omega)]
        obtain ⟨c2, h2⟩ : ∃ c2, c2 = mup c' 22 1 (N + 1) := ⟨_, rfl⟩
        rw [← h2]
        have z22 : c2 22 1 = N + 1 := by rw [h2, mup_same]
        have zr (y : Int) (hy : y ≠ 22) : c2 y = c' y := by rw [h2, row_up hy]
        have zst (k : Int) (k0 : 0 ≤ k) (k1 : k ≤ N) : st c2 k = st c k := stc c2 (fun y a b => by rw [zr y b, r y a]) k k0 k1
        have zst1 : st c2 (N + 1) = c' (24 + N) 2 := by
          unfold st
          rw [if_neg (by omega), show 24 + (N + 1 - 1) = 24 + N by omega, zr _ (by omega)]
        refine ⟨_, rfl, ⟨fun y hy => ?_, ?_, ?_, ⟨?_, fun j j0 j1 => ?_⟩, fun k k0 k1 => ?_⟩, by simp only; omega⟩
        · show c2 y = c0 y
          rw [zr y (by omega), r y (by omega), fr y hy]
        · show 0 ≤ c2 22 1 ∧ c2 22 1 ≤ c' (24 + N) 2
          omega
        · show 0 ≤ t + 1 ∧ t + 1 ≤ c' (24 + N) 2 ∧ c' (24 + N) 2 ≤ n
          omega
        · show st c2 (c2 22 1) ≤ c' (24 + N) 2
          rw [z22, zst1]
          omega
        · change st c2 (c2 22 1) ≤ j at j0
          change j < c' (24 + N) 2 at j1
          rw [z22, zst1] at j0
          omega
        · change k < c2 22 1 at k1
          show Lx T u n (st c2 k) (c2 (24 + k)) ∧ c2 (24 + k) 0 ≠ 6
          rw [zst k k0 (by omega), zr _ (by omega)]
          by_cases e : k = N
          · subst e
            exact ⟨⟨by omega, fun j j0 j1 => s2 j j0 (by omega), tk⟩, n6⟩
          · rw [r _ (by omega)]
            exact hk k k0 (by omega)
      rw [xLet, xDig]
      by_cases hl : lo (u i) = true
      · obtain ⟨c', a1, a2, a3, a4⟩ := c_readWord (x := 24 + N) wt ct hq (by omega) hi (by omega) hl
        rw [if_pos hl, if_neg (by decide), a1]
        exact step c' a2 a3 (Or.inl a4)
      rw [if_neg hl, if_pos rfl]
      have dig (hd : dgm (u i) = true) : ∃ y, fS_split_90 c 4 i t (24 + N) = some (.inl y) ∧ (FrS c0 y.1 ∧ (0 ≤ y.1 22 1 ∧ y.1 22 1 ≤ y.2.1) ∧ (0 ≤ y.2.2 ∧ y.2.2 ≤ y.2.1 ∧ y.2.1 ≤ n) ∧ (st y.1 (y.1 22 1) ≤ y.2.1 ∧ ∀ j, st y.1 (y.1 22 1) ≤ j → j < y.2.1 → u j = 32) ∧ ∀ k, 0 ≤ k → k < y.1 22 1 → Lx T u n (st y.1 k) (y.1 (24 + k)) ∧ y.1 (24 + k) 0 ≠ 6) ∧ (n - y.2.1).toNat < (n - i).toNat := by
        obtain ⟨c', a1, a2, a3, a4⟩ := c_readDigits (x := 24 + N) hq (by omega) hi (by omega) hd
        unfold fS_split_90
        rw [a1]
        exact step c' a2 a3 (Or.inr (Or.inl a4))
      by_cases hd : dg (u i) = true
      · rw [if_pos hd, if_neg (by decide)]
        exact dig (by unfold dgm; rw [hd]; rfl)
      rw [if_neg hd, if_pos rfl]
      by_cases h45 : u i = 45
      · rw [if_pos h45]
        exact dig (by unfold dgm; rw [h45]; rfl)
      have hdm : dgm (u i) = false := by
        unfold dgm
        rw [Bool.eq_false_iff.mpr hd, decide_eq_false h45]
        rfl
      rw [if_neg h45]
      by_cases h39 : u i = 39
      · obtain ⟨c', a1, a2, a3, a4⟩ := c_readText (x := 24 + N) hq (by omega) hi (by omega) h39
        rw [if_pos h39, a1]
        exact step c' a2 a3 (Or.inr (Or.inr (Or.inl a4)))
      · obtain ⟨c', a1, a2, a3, a4⟩ := c_readSign (x := 24 + N) hq (by omega) hi (by omega) (Bool.eq_false_iff.mpr hl) hdm h39
        rw [if_neg h39, a1]
        exact step c' a2 a3 (Or.inr (Or.inr (Or.inr a4)))
    · right
      have hin : i = n := by omega
      have e146 : fS_split_146 c 4 = some (fK_become c (24 + N) 6 n n) := by
        unfold fS_split_146
        rw [← eN, gd_pos (by omega), hq.1]
      obtain ⟨b0, b1, b2, b3, b4, b5, b6, b7⟩ := bec_at (m := c) (x := 24 + N) (k := 6) (s := n) (e := n)
      have fin : ∃ v, ((fS_split_146 c 4).map Sum.inr : Option ((aM × Int × Int) ⊕ aM)) = some (.inr v) ∧ ∃ N, FrS c0 v ∧ SP v T u n N := by
        rw [e146]
        have rr (y : Int) (hy : y ≠ 24 + N) : fK_become c (24 + N) 6 n n y = c y := bec_row hy
        refine ⟨_, rfl, N, fun y hy => ?_, ?_, by omega, fun k k0 k1 => ?_, fun k k0 k1 => ?_, b0⟩
        · rw [rr y (by omega), fr y hy]
        · rw [rr 22 (by omega)]; exact eN.symm
        · rw [stc _ (fun y a _ => rr y a) k k0 k1]
          by_cases e : k = N
          · subst e
            exact ⟨by rw [b1]; omega, fun j j0 j1 => s2 j j0 (by omega), by omega, Or.inr ⟨b0, b1, b2, ⟨b3, b4⟩, b5⟩⟩
          · rw [rr _ (by omega)]
            exact (hk k k0 (by omega)).1
        · rw [rr _ (by omega)]
          exact (hk k k0 k1).2
      by_cases h96 : t < 96
      · rw [if_pos h96, if_neg hi]; exact fin
      · rw [if_neg h96]; exact fin) FU (mup c0 22 1 0, 0, 0) ⟨fun y hy => row_up (by omega), by simp only [mup_same]; omega, by simp only; omega, by simp only [mup_same]; exact ⟨by unfold st; omega, fun j j0 j1 => by unfold st at j0; omega⟩, fun k k0 k1 => by simp only [mup_same] at k1; omega⟩ (by show (n - 0).toNat < 1000000; omega)
  exact ⟨v, N, hv, hP⟩
