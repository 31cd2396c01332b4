/-! LOAD: the reference's cells, all -/
def KI (T : Tb) (m : aM) (k : Int) : Prop := ∀ r c, 0 ≤ r → r < Tr T → 0 ≤ c → c < Tn T → (r + 1) * Tn T + c < k → m 136 (6 * r + c) = Tq T r c ∧ 336 ≤ m 134 (6 * r + c) ∧ m 134 (6 * r + c) + ((Tt T r c).length : Int) ≤ 336 + m 130 8 ∧ m 135 (6 * r + c) = (if missB T r c then -1 else ((Tt T r c).length : Int)) ∧ sl m 131 (m 134 (6 * r + c)) (m 134 (6 * r + c) + ((Tt T r c).length : Int)) = Tt T r c
theorem idx_uniq {w r c r' c' : Int} (hc : 0 ≤ c ∧ c < w) (hc' : 0 ≤ c' ∧ c' < w) (h : (r + 1) * w + c = (r' + 1) * w + c') : r = r' ∧ c = c' := by
  have key (a b : Int) (h : a < b) : (a + 1) * w + w ≤ (b + 1) * w := by
    have : (a + 1 + 1) * w ≤ (b + 1) * w := Int.mul_le_mul_of_nonneg_right (by omega) (by omega)
    rw [Int.add_mul (a + 1) 1, Int.one_mul] at this
    exact this
  rcases Int.lt_trichotomy r r' with hl | hl | hl
  · have := key r r' hl; omega
  · subst hl; exact ⟨rfl, by omega⟩
  · have := key r' r hl; omega
theorem r_cells {t : Int → Int} {n : Int} {L : List (List tF)} {m0 : aM} (hg : goodL t n L) (hM : MTx m0 t n) (hR : mR m0 L) (e4 : m0 130 4 = hdw L) (e5 : m0 130 5 = (L.length : Int) - 1) (e8 : m0 130 8 = 0) : ∃ m', fM_load_130 m0 0 = fM_load_182 m' 0 ∧ KI (TL t L) m' (L.flatten.length : Int) ∧ FrK m0 m' ∧ 0 ≤ m' 130 8 ∧ m' 130 8 ≤ 240 := by
  obtain ⟨w1, w2, w3, w4⟩ := hg.w
  obtain ⟨g1, g2, g3, g4, g5, g6, g7, g8, g9, g10⟩ := id hg
  have hT1 : Tn (TL t L) = hdw L := rfl
  have hT2 : Tr (TL t L) = (L.length : Int) - 1 := rfl
  -- one more cell
  have cell (r c : Int) (m : aM) (r0 : 0 ≤ r) (r1 : r < (L.length : Int) - 1) (c0 : 0 ≤ c) (c1 : c < hdw L) (fr : FrK m0 m) (ki : KI (TL t L) m ((r + 1) * hdw L + c)) (hu : 0 ≤ m 130 8) (hs : m 130 8 + ((r + 1) * hdw L + c) ≤ wsum (L.flatten.take ((r + 1) * hdw L + c).toNat)) : ∃ m', fM_load_140_b r (m, c) = some (Sum.inl (m', c + 1)) ∧ FrK m0 m' ∧ KI (TL t L) m' ((r + 1) * hdw L + c + 1) ∧ 0 ≤ m' 130 8 ∧ m' 130 8 + ((r + 1) * hdw L + c + 1) ≤ wsum (L.flatten.take ((r + 1) * hdw L + c + 1).toNat) := by
    have hi := gidx hg r0 r1 c0 c1
    obtain ⟨k, hk⟩ : ∃ k, k = (r + 1) * hdw L + c := ⟨_, rfl⟩
    rw [← hk] at hi ki hs ⊢
    have ok := gF_ok g6 hi.1 hi.2
    have fk := mF hR hi.1 hi.2
    have hrl := raw_len (t := t) ok.2.1
    have hus := un_spec _ (rawT t (gF L k)) (Nat.le_refl _)
    have hst := wsum_step hi.1 hi.2
    have htk := wsum_take L.flatten (k.toNat + 1) g6
    have hfw : fwt (gF L k) = (gF L k).2.1 - (gF L k).1 + 1 + 2 * (gF L k).2.2 := rfl
    have hq2 := ok.2.2.2.1
    have hMm : MTx m t n := by
      obtain ⟨a1, a2, a3⟩ := hM
      refine ⟨by rw [fr.2.1 2 (by decide)]; exact a1, fun i i0 i1 => ?_, a3⟩
      rw [fr.2.2 i (by omega)]
      exact a2 i i0 i1
    have m138 : m 138 k = (gF L k).1 := by rw [fr.1 138 (by decide) (by decide) (by decide) (by decide) (by decide)]; exact fk.1
    have m139 : m 139 k = (gF L k).2.1 := by rw [fr.1 139 (by decide) (by decide) (by decide) (by decide) (by decide)]; exact fk.2.1
    have m140 : m 140 k = (gF L k).2.2 := by rw [fr.1 140 (by decide) (by decide) (by decide) (by decide) (by decide)]; exact fk.2.2
    obtain ⟨m', k1, k2, k3, k4, k5, k6, k7, k8, k9⟩ := r_keep (cell := 6 * r + c) hMm (by omega) (by omega) m138 m139 m140 ok hu (by omega)
    refine ⟨m', ?_, fr.tr k2, ?_, by omega, by rw [show (k + 1).toNat = k.toNat + 1 by omega, hst, k3]; omega⟩
    · have e141 : m 141 (r + 1) = (r + 1) * hdw L := by
        rw [fr.1 141 (by decide) (by decide) (by decide) (by decide) (by decide)]
        have := hR.2.1 (r + 1).toNat (by omega)
        rw [take_len g1 (by omega), show (((r + 1).toNat : Nat) : Int) = r + 1 by omega] at this
        exact this
      unfold fM_load_140_b
      simp only
      rw [fr.2.1 4 (by decide), e4, if_pos c1, w32_id (x := r + 1) (by omega) (by omega), gd_pos (by omega), w32_id (x := 6 * r) (by omega) (by omega), w32_id (x := 6 * r + c) (by omega) (by omega), e141, ← hk, w32_id (x := k) (by omega) (by omega), k1, w32_id (by omega) (by omega)]
      rfl
    · intro r' c' r0' r1' c0' c1' hlt
      by_cases he : (r' + 1) * Tn (TL t L) + c' = k
      · obtain ⟨er, ec⟩ := idx_uniq (w := hdw L) ⟨c0, c1⟩ ⟨c0', c1'⟩ (hk.symm.trans he.symm)
        subst er ec
        have eq1 : Tq (TL t L) r c = (gF L k).2.2 := by show (gF L ((r + 1) * hdw L + c)).2.2 = _; rw [← hk]
        have eq2 : Tt (TL t L) r c = un (rawT t (gF L k)) := by show un (rawT t (gF L ((r + 1) * hdw L + c))) = _; rw [← hk]
        rw [k5, k6, eq1, eq2, k3]
        refine ⟨rfl, by omega, by omega, ?_, k8⟩
        rw [k7]
        by_cases hm : missB (TL t L) r c = true
        · have := missB_iff.mp hm
          rw [eq1, eq2] at this
          rw [if_pos this, if_pos hm]
        · rw [if_neg hm, if_neg]
          intro h
          exact hm (missB_iff.mpr (by rw [eq1, eq2]; exact h))
      · obtain ⟨o1, o2, o3, o4, o5⟩ := ki r' c' r0' r1' c0' c1' (by omega)
        have hne : 6 * r' + c' ≠ 6 * r + c := by
          have h6 : c' < 6 := by have : c' < hdw L := c1'; omega
          intro e
          apply he
          have hrr : r' = r := by omega
          have hcc : c' = c := by omega
          rw [hrr, hcc, hk]
          rfl
        obtain ⟨z1, z2, z3⟩ := k9 _ hne
        rw [z1, z2, z3, k3]
        refine ⟨o1, o2, by omega, o4, ?_⟩
        rw [sl_congr (fun j j0 j1 => k4 j (by omega))]
        exact o5
  -- a row
  have row (r : Int) (r0 : 0 ≤ r) (r1 : r < (L.length : Int) - 1) : ∀ (j : Nat) (c : Int) (m : aM) (f : Nat), 0 ≤ c → c + (j : Int) = hdw L → j < f → FrK m0 m → KI (TL t L) m ((r + 1) * hdw L + c) → 0 ≤ m 130 8 → m 130 8 + ((r + 1) * hdw L + c) ≤ wsum (L.flatten.take ((r + 1) * hdw L + c).toNat) → ∃ m', aLoop (fM_load_140_b r) f (m, c) = some (Sum.inl (m', r + 1)) ∧ FrK m0 m' ∧ KI (TL t L) m' ((r + 1 + 1) * hdw L) ∧ 0 ≤ m' 130 8 ∧ m' 130 8 + ((r + 1 + 1) * hdw L) ≤ wsum (L.flatten.take ((r + 1 + 1) * hdw L).toNat) := by
    intro j
    induction j with
    | zero =>
      intro c m f c0 hc hf fr ki hu hs
      obtain ⟨f, rfl⟩ : ∃ g, f = g + 1 := ⟨f - 1, by omega⟩
      have ec : c = hdw L := by omega
      subst ec
      have eidx : (r + 1) * hdw L + hdw L = (r + 1 + 1) * hdw L := by rw [Int.add_mul (r + 1) 1, Int.one_mul]
      rw [eidx] at ki hs
      refine ⟨m, aL_end ?_, fr, ki, hu, hs⟩
      unfold fM_load_140_b
      simp only
      rw [fr.2.1 4 (by decide), e4, if_neg (by omega), w32_id (by omega) (by omega)]
    | succ j ih =>
      intro c m f c0 hc hf fr ki hu hs
      obtain ⟨f, rfl⟩ : ∃ g, f = g + 1 := ⟨f - 1, by omega⟩
      obtain ⟨m1, e1, f1, k1, u1, s1⟩ := cell r c m r0 r1 c0 (by omega) fr ki hu hs
      rw [aL_go e1]
      rw [show (r + 1) * hdw L + c + 1 = (r + 1) * hdw L + (c + 1) by omega] at k1 s1
      exact ih (c + 1) m1 f (by omega) (by omega) (by omega) f1 k1 u1 s1
  -- all rows
  have rows : ∀ (j : Nat) (r : Int) (m : aM) (f : Nat), 0 ≤ r → r + (j : Int) = (L.length : Int) - 1 → j < f → FrK m0 m → KI (TL t L) m ((r + 1) * hdw L) → 0 ≤ m 130 8 → m 130 8 + ((r + 1) * hdw L) ≤ wsum (L.flatten.take ((r + 1) * hdw L).toNat) → ∃ m', aLoop fM_load_130_b f (m, r) = fM_load_182 m' 0 ∧ KI (TL t L) m' (L.flatten.length : Int) ∧ FrK m0 m' ∧ 0 ≤ m' 130 8 ∧ m' 130 8 ≤ 240 := by
    intro j
    induction j with
    | zero =>
      intro r m f r0 hr hf fr ki hu hs
      obtain ⟨f, rfl⟩ : ∃ g, f = g + 1 := ⟨f - 1, by omega⟩
      have ei : (r + 1) * hdw L = (L.flatten.length : Int) := by rw [w3, show r + 1 = (L.length : Int) by omega]
      rw [ei] at ki hs
      rw [show ((L.flatten.length : Int)).toNat = L.flatten.length by omega, List.take_length] at hs
      have hfl1 := hdw_le (L := L)
      refine ⟨m, ?_, ki, fr, hu, by omega⟩
      have eb : fM_load_130_b (m, r) = (fM_load_182 m 0).map Sum.inr := by
        unfold fM_load_130_b
        simp only
        rw [fr.2.1 5 (by decide), e5, if_neg (by omega)]
      cases hp : fM_load_182 m 0 with
      | none =>
        rw [hp] at eb
        unfold aLoop
        rw [eb]
        rfl
      | some v =>
        rw [hp] at eb
        exact aL_end eb
    | succ j ih =>
      intro r m f r0 hr hf fr ki hu hs
      obtain ⟨f, rfl⟩ : ∃ g, f = g + 1 := ⟨f - 1, by omega⟩
      obtain ⟨m1, e1, f1, k1, u1, s1⟩ := row r r0 (by omega) (hdw L).toNat 0 m FU (by omega) (by omega) (by show _ < 1000000; omega) fr (by rw [Int.add_zero]; exact ki) hu (by rw [Int.add_zero]; exact hs)
      have eb : fM_load_130_b (m, r) = some (Sum.inl (m1, r + 1)) := by
        unfold fM_load_130_b fM_load_140
        simp only
        rw [fr.2.1 5 (by decide), e5, if_pos (by omega)]
        exact e1
      rw [aL_go eb]
      exact ih (r + 1) m1 f (by omega) (by omega) (by omega) f1 k1 u1 s1
  unfold fM_load_130
  have hw0 : hdw L ≤ wsum (L.flatten.take (hdw L).toNat) := by
    have h1 : fOk t n (L.flatten.take (hdw L).toNat) := fun x hx => g6 x (List.mem_of_mem_take hx)
    have h2 := fOk_w h1
    rw [List.length_take] at h2
    have := hdw_le (L := L)
    omega
  refine rows (L.length - 1) 0 m0 FU (by omega) (by omega) (by show _ < 1000000; omega) ⟨fun _ _ _ _ _ _ => rfl, fun _ _ => rfl, fun _ _ => rfl⟩ ?_ (by omega) ?_
  · intro r c r0 r1 c0 c1 hlt
    have a1 : 1 * hdw L ≤ (r + 1) * hdw L := Int.mul_le_mul_of_nonneg_right (by omega) (by omega)
    have hlt : (r + 1) * hdw L + c < (0 + 1) * hdw L := hlt
    omega
  · rw [show ((0 : Int) + 1) * hdw L = hdw L by rw [Int.zero_add, Int.one_mul], e8]
    omega
