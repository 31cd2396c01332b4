/-! LOAD: fields and records -/
/-- the class's loop goes from x to y in d turns -/
def CSt (d : Nat) (x y : aM × Int × Int) : Prop := ∀ F, aLoop (fR_find_34_b 2) (F + d) x = aLoop (fR_find_34_b 2) F y
theorem CSt.rf {x : aM × Int × Int} : CSt 0 x x := fun _ => rfl
theorem CSt.tr {d e : Nat} {x y z : aM × Int × Int} (h1 : CSt d x y) (h2 : CSt e y z) : CSt (d + e) x z := fun F => by
  rw [show F + (d + e) = (F + e) + d by omega, h1, h2]
theorem CSt.one {x y : aM × Int × Int} (h : fR_find_34_b 2 x = some (.inl y)) : CSt 1 x y := fun _ => aL_go h
/-- the text in the class's memory -/
def CTx (c : aM) (t : Int → Int) (n : Int) : Prop := c 2 1 = n ∧ (∀ i, 0 ≤ i → i < n → c 3 i = t i) ∧ 0 ≤ n ∧ n ≤ 240
theorem CTx.at {c : aM} {t : Int → Int} {n i : Int} (h : CTx c t n) (h0 : 0 ≤ i) (h1 : i < n) : fC_at c 2 i = some (t i) := by
  obtain ⟨e1, e2, e3, e4⟩ := h
  have hR : ChR c 2 := ⟨by omega, by rw [e1]; exact e4, by decide⟩
  rw [at_eq hR, ca_in h0 (by omega)]
  show some (c 3 i) = _
  rw [e2 i h0 h1]
theorem c_step {c : aM} {t : Int → Int} {n i s : Int} {v : Int × aM} (h : CTx c t n) (h0 : 0 ≤ i) (h1 : i < n) (hs : fR_stateBehind c s (t i) i = some v) : CSt 1 (c, s, i) (v.2, v.1, i + 1) := by
  refine CSt.one ?_
  unfold fR_find_34_b
  simp only
  have := h.2.2.2
  rw [h.1, if_pos h1, h.at h0 h1]
  simp only [Option.bind_some]
  rw [hs]
  simp only [Option.bind_some]
  rw [w32_id (by omega) (by omega)]
/-- what is wrong stays wrong -/
theorem c_wrong {c : aM} {t : Int → Int} {n : Int} (h : CTx c t n) : ∀ (k : Nat) (i : Int) (F : Nat), 0 ≤ i → i + (k : Int) = n → k < F → aLoop (fR_find_34_b 2) F (c, 6, i) = some (0, c) := by
  intro k
  induction k with
  | zero =>
    intro i F h0 hi hF
    obtain ⟨F, rfl⟩ : ∃ g, F = g + 1 := ⟨F - 1, by omega⟩
    refine aL_end ?_
    unfold fR_find_34_b
    simp only
    rw [h.1, if_neg (by omega)]
    rfl
  | succ k ih =>
    intro i F h0 hi hF
    obtain ⟨F, rfl⟩ : ∃ g, F = g + 1 := ⟨F - 1, by omega⟩
    have := c_step (s := 6) (v := (6, c)) h h0 (by omega) rfl
    rw [this F]
    exact ih (i + 1) F (by omega) (by omega) (by omega)
theorem c_open {c : aM} {t : Int → Int} {n : Int} (h : CTx c t n) {F : Nat} : aLoop (fR_find_34_b 2) (F + 1) (c, 3, n) = some (0, c) := by
  refine aL_end ?_
  unfold fR_find_34_b
  simp only
  rw [h.1, if_neg (by omega)]
  rfl
/-- the reference's row holds the text -/
def MTx (m : aM) (t : Int → Int) (n : Int) : Prop := m 130 2 = n ∧ (∀ i, 0 ≤ i → i < n → m 131 i = t i) ∧ 0 ≤ n ∧ n ≤ 240
/-- between marks -/
theorem scan_q {m : aM} {t : Int → Int} {n a : Int} (hM : MTx m t n) : ∀ (j : Nat) (k : Int) (f : Nat), 0 ≤ k → k ≤ n → (n - k).toNat ≤ j → (n - k).toNat < f →
    (aLoop (fM_passField_24_b m a) f k = some (-1, m) ∧ ∀ c, CTx c t n → ∀ F, (n - k).toNat < F → aLoop (fR_find_34_b 2) F (c, 3, k) = some (0, c)) ∨
    ∃ k0, k ≤ k0 ∧ k0 < n ∧ (k0 + 1 < n → t (k0 + 1) ≠ 34) ∧ aLoop (fM_passField_24_b m a) f k = fM_passField_90 m a k0 ∧ ∀ c, CTx c t n → CSt (k0 + 1 - k).toNat (c, 3, k) (c, 4, k0 + 1) := by
  obtain ⟨e1, e2, e3, e4⟩ := hM
  intro j
  induction j with
  | zero =>
    intro k f h0 hk hj hf
    obtain ⟨f, rfl⟩ : ∃ g, f = g + 1 := ⟨f - 1, by omega⟩
    have hkn : k = n := by omega
    subst hkn
    left
    refine ⟨aL_end ?_, fun c hc F hF => ?_⟩
    · unfold fM_passField_24_b fM_passField_90
      rw [e1, if_neg (by omega), if_neg (by omega)]
      rfl
    · obtain ⟨F, rfl⟩ : ∃ g, F = g + 1 := ⟨F - 1, by omega⟩
      exact c_open hc
  | succ j ih =>
    intro k f h0 hk hj hf
    obtain ⟨f, rfl⟩ : ∃ g, f = g + 1 := ⟨f - 1, by omega⟩
    by_cases hkn : k < n
    · by_cases h34 : t k = 34
      · by_cases hd : k + 1 < n ∧ t (k + 1) = 34
        · -- a doubled mark
          have eb : fM_passField_24_b m a k = some (Sum.inl (k + 2)) := by
            unfold fM_passField_24_b fM_passField_66
            rw [e1, if_pos hkn, gd_pos (by omega), e2 k h0 hkn, if_pos h34, w32_id (by omega) (by omega), if_pos hd.1, gd_pos (by omega), e2 (k + 1) (by omega) hd.1, if_pos hd.2, gd_pos (by omega), if_pos h34, w32_id (by omega) (by omega)]
          have two (c : aM) (hc : CTx c t n) : CSt 2 (c, 3, k) (c, 3, k + 2) := by
            have s1 := c_step (s := 3) (v := (4, c)) hc h0 hkn (by unfold fR_stateBehind; rw [if_neg (by decide), if_pos rfl, if_pos h34])
            have s2 := c_step (s := 4) (i := k + 1) (v := (3, c)) hc (by omega) hd.1 (by unfold fR_stateBehind; rw [if_neg (by decide), if_neg (by decide), if_neg (by decide), if_pos hd.2, if_neg (by decide)])
            have := s1.tr s2
            rw [show k + 1 + 1 = k + 2 by omega] at this
            exact this
          rw [aL_go eb]
          rcases ih (k + 2) f (by omega) (by omega) (by omega) (by omega) with ⟨r1, r2⟩ | ⟨k0, q1, q2, q34, q3, q4⟩
          · left
            refine ⟨r1, fun c hc F hF => ?_⟩
            obtain ⟨G, rfl⟩ : ∃ g, F = g + 2 := ⟨F - 2, by omega⟩
            rw [two c hc G]
            exact r2 c hc G (by omega)
          · right
            refine ⟨k0, by omega, q2, q34, q3, fun c hc => ?_⟩
            have := (two c hc).tr (q4 c hc)
            rw [show 2 + (k0 + 1 - (k + 2)).toNat = (k0 + 1 - k).toNat by omega] at this
            exact this
        · -- the closing one
          right
          refine ⟨k, by omega, hkn, fun h e => hd ⟨h, e⟩, ?_, fun c hc => ?_⟩
          · have eb : fM_passField_24_b m a k = (fM_passField_90 m a k).map Sum.inr := by
              unfold fM_passField_24_b
              rw [e1, if_pos hkn, gd_pos (by omega), e2 k h0 hkn, if_pos h34, w32_id (by omega) (by omega)]
              by_cases hlt : k + 1 < n
              · rw [if_pos hlt, gd_pos (by omega), e2 (k + 1) (by omega) hlt, if_neg (fun e => hd ⟨hlt, e⟩)]
              · rw [if_neg hlt]
            cases hp : fM_passField_90 m a k with
            | none =>
              rw [hp] at eb
              unfold aLoop
              rw [eb]
              rfl
            | some v =>
              rw [hp] at eb
              exact aL_end eb
          · have s1 := c_step (s := 3) (v := (4, c)) hc h0 hkn (by unfold fR_stateBehind; rw [if_neg (by decide), if_pos rfl, if_pos h34])
            rw [show (k + 1 - k).toNat = 1 by omega]
            exact s1
      · have eb : fM_passField_24_b m a k = some (Sum.inl (k + 1)) := by
          unfold fM_passField_24_b fM_passField_66
          rw [e1, if_pos hkn, gd_pos (by omega), e2 k h0 hkn, if_neg h34, gd_pos (by omega), if_neg h34, w32_id (by omega) (by omega)]
        have one (c : aM) (hc : CTx c t n) : CSt 1 (c, 3, k) (c, 3, k + 1) := c_step (s := 3) (v := (3, c)) hc h0 hkn (by unfold fR_stateBehind; rw [if_neg (by decide), if_pos rfl, if_neg h34])
        rw [aL_go eb]
        rcases ih (k + 1) f (by omega) (by omega) (by omega) (by omega) with ⟨r1, r2⟩ | ⟨k0, q1, q2, q34, q3, q4⟩
        · left
          refine ⟨r1, fun c hc F hF => ?_⟩
          obtain ⟨G, rfl⟩ : ∃ g, F = g + 1 := ⟨F - 1, by omega⟩
          rw [one c hc G]
          exact r2 c hc G (by omega)
        · right
          refine ⟨k0, by omega, q2, q34, q3, fun c hc => ?_⟩
          have := (one c hc).tr (q4 c hc)
          rw [show 1 + (k0 + 1 - (k + 1)).toNat = (k0 + 1 - k).toNat by omega] at this
          exact this
    · have hkn : k = n := by omega
      subst hkn
      left
      refine ⟨aL_end ?_, fun c hc F hF => ?_⟩
      · unfold fM_passField_24_b fM_passField_90
        rw [e1, if_neg (by omega), if_neg (by omega)]
        rfl
      · obtain ⟨F, rfl⟩ : ∃ g, F = g + 1 := ⟨F - 1, by omega⟩
        exact c_open hc
/-- a comma, a line's end, a return -/
def stp (c : Int) : Prop := c = 44 ∨ c = 10 ∨ c = 13
/-- without marks -/
theorem scan_p {m : aM} {t : Int → Int} {n a : Int} (hM : MTx m t n) : ∀ (j : Nat) (k s : Int) (f : Nat), 0 ≤ k → k ≤ n → (n - k).toNat ≤ j → (n - k).toNat < f → (s = 0 ∨ s = 1 ∨ s = 2) → (s ≠ 2 → k < n → t k ≠ 34) →
    (aLoop (fM_passField_113_b m a) f k = some (-1, m) ∧ ∀ c, CTx c t n → ∀ F, (n - k).toNat < F → aLoop (fR_find_34_b 2) F (c, s, k) = some (0, c)) ∨
    ∃ k0 s', k ≤ k0 ∧ k0 ≤ n ∧ (k0 < n → stp (t k0)) ∧ (∀ i, k ≤ i → i < k0 → t i ≠ 34) ∧ aLoop (fM_passField_113_b m a) f k = fM_passField_173 m a k0 ∧ (s' = if k0 = k then s else 2) ∧ ∀ c, CTx c t n → CSt (k0 - k).toNat (c, s, k) (c, s', k0) := by
  obtain ⟨e1, e2, e3, e4⟩ := hM
  have fin (k : Int) (f : Nat) (hb : fM_passField_113_b m a k = (fM_passField_173 m a k).map Sum.inr) : aLoop (fM_passField_113_b m a) (f + 1) k = fM_passField_173 m a k := by
    cases hp : fM_passField_173 m a k with
    | none =>
      rw [hp] at hb
      unfold aLoop
      rw [hb]
      rfl
    | some v =>
      rw [hp] at hb
      exact aL_end hb
  intro j
  induction j with
  | zero =>
    intro k s f h0 hk hj hf hs h34
    obtain ⟨f, rfl⟩ : ∃ g, f = g + 1 := ⟨f - 1, by omega⟩
    right
    refine ⟨k, s, by omega, hk, fun h => by omega, fun i i0 i1 => by omega, fin k f ?_, by rw [if_pos rfl], fun c _ => ?_⟩
    · unfold fM_passField_113_b
      rw [e1, if_neg (by omega)]
    · rw [show (k - k).toNat = 0 by omega]
      exact CSt.rf
  | succ j ih =>
    intro k s f h0 hk hj hf hs h34
    obtain ⟨f, rfl⟩ : ∃ g, f = g + 1 := ⟨f - 1, by omega⟩
    by_cases hkn : k < n
    · by_cases hst : t k = 44 ∨ t k = 10 ∨ t k = 13
      · right
        refine ⟨k, s, by omega, hk, fun _ => hst, fun i i0 i1 => by omega, fin k f ?_, by rw [if_pos rfl], fun c _ => ?_⟩
        · unfold fM_passField_113_b
          rw [e1, if_pos hkn, gd_pos (by omega), e2 k h0 hkn]
          rcases hst with h | h | h
          · rw [if_pos h]
          · rw [if_neg (by omega), if_pos h]
          · rw [if_neg (by omega), if_neg (by omega), if_pos h]
        · rw [show (k - k).toNat = 0 by omega]
          exact CSt.rf
      · by_cases hq : t k = 34
        · have hs2 : s = 2 := by
            apply Classical.byContradiction
            intro hne
            exact h34 hne hkn hq
          subst hs2
          left
          refine ⟨aL_end ?_, fun c hc F hF => ?_⟩
          · unfold fM_passField_113_b
            rw [e1, if_pos hkn, gd_pos (by omega), e2 k h0 hkn, if_neg (by omega), if_neg (by omega), if_neg (by omega), if_pos hq]
          · obtain ⟨G, rfl⟩ : ∃ g, F = g + 1 := ⟨F - 1, by omega⟩
            have s1 := c_step (s := 2) (v := (6, c)) hc h0 hkn (by unfold fR_stateBehind; rw [if_neg (by decide), if_neg (by decide), if_neg (by decide), if_pos hq, if_pos rfl])
            rw [s1 G]
            exact c_wrong hc (n - (k + 1)).toNat (k + 1) G (by omega) (by omega) (by omega)
        · have eb : fM_passField_113_b m a k = some (Sum.inl (k + 1)) := by
            unfold fM_passField_113_b
            rw [e1, if_pos hkn, gd_pos (by omega), e2 k h0 hkn, if_neg (by omega), if_neg (by omega), if_neg (by omega), if_neg hq, w32_id (by omega) (by omega)]
          have one (c : aM) (hc : CTx c t n) : CSt 1 (c, s, k) (c, 2, k + 1) := c_step (v := (2, c)) hc h0 hkn (by
            unfold fR_stateBehind
            rw [if_neg (by omega), if_neg (by omega), if_neg (by omega), if_neg hq, if_neg (by omega), if_neg (by omega), if_neg (by omega), if_neg (by omega)])
          rw [aL_go eb]
          rcases ih (k + 1) 2 f (by omega) (by omega) (by omega) (by omega) (Or.inr (Or.inr rfl)) (fun h => absurd rfl h) with ⟨r1, r2⟩ | ⟨k0, s', q1, q2, q3, q34, q4, q5, q6⟩
          · left
            refine ⟨r1, fun c hc F hF => ?_⟩
            obtain ⟨G, rfl⟩ : ∃ g, F = g + 1 := ⟨F - 1, by omega⟩
            rw [one c hc G]
            exact r2 c hc G (by omega)
          · right
            refine ⟨k0, s', by omega, q2, q3, fun i i0 i1 => ?_, q4, ?_, fun c hc => ?_⟩
            · by_cases e : i = k
              · rw [e]; exact hq
              · exact q34 i (by omega) i1
            · rw [if_neg (by omega), q5]
              split <;> rfl
            · have := (one c hc).tr (q6 c hc)
              rw [show 1 + (k0 - (k + 1)).toNat = (k0 - k).toNat by omega] at this
              exact this
    · right
      refine ⟨k, s, by omega, hk, fun h => by omega, fun i i0 i1 => by omega, fin k f ?_, by rw [if_pos rfl], fun c _ => ?_⟩
      · unfold fM_passField_113_b
        rw [e1, if_neg hkn]
      · rw [show (k - k).toNat = 0 by omega]
        exact CSt.rf
/-- a field: from a, where it ends, what it is, in which state the class is behind it -/
theorem scan_field {m : aM} {t : Int → Int} {n a s : Int} (hM : MTx m t n) (h0 : 0 ≤ a) (han : a ≤ n) (hs : s = 0 ∨ s = 1) :
    (fM_passField m a = some (-1, m) ∧ ∀ c, CTx c t n → ∀ F, (n - a).toNat + 1 < F → aLoop (fR_find_34_b 2) F (c, s, a) = some (0, c)) ∨
    ∃ k f e q s', a ≤ k ∧ k ≤ n ∧ fM_passField m a = (fM_field m f e q).bind (fun v => some (k, v)) ∧ (q = 0 ∨ q = 1) ∧ 0 ≤ f ∧ f ≤ e ∧ e ≤ n ∧ e - f + 2 * q = k - a ∧ (q = 1 → s' = 4 ∧ f = a + 1 ∧ e = k - 1 ∧ (k < n → t k ≠ 34)) ∧ (q = 0 → (s' = if k = a then s else 2) ∧ f = a ∧ e = k ∧ (k < n → stp (t k)) ∧ ∀ i, a ≤ i → i < k → t i ≠ 34) ∧ ∀ c, CTx c t n → CSt (k - a).toNat (c, s, a) (c, s', k) := by
  obtain ⟨e1, e2, e3, e4⟩ := id hM
  by_cases hq : a < n ∧ t a = 34
  · have step (c : aM) (hc : CTx c t n) : CSt 1 (c, s, a) (c, 3, a + 1) := c_step (v := (3, c)) hc h0 hq.1 (by
      unfold fR_stateBehind
      rw [if_neg (by omega), if_neg (by omega), if_neg (by omega), if_pos hq.2, if_neg (by omega)])
    have ep : fM_passField m a = aLoop (fM_passField_24_b m a) FU (a + 1) := by
      unfold fM_passField fM_passField_24
      rw [e1, if_pos hq.1, gd_pos (by omega), e2 a h0 hq.1, if_pos hq.2, w32_id (by omega) (by omega)]
    rw [ep]
    rcases scan_q (a := a) hM (n - (a + 1)).toNat (a + 1) FU (by omega) (by omega) (Nat.le_refl _) (by show (n - (a + 1)).toNat < 1000000; omega) with ⟨r1, r2⟩ | ⟨k0, q1, q2, q34, q3, q4⟩
    · left
      refine ⟨r1, fun c hc F hF => ?_⟩
      obtain ⟨G, rfl⟩ : ∃ g, F = g + 1 := ⟨F - 1, by omega⟩
      rw [step c hc G]
      exact r2 c hc G (by omega)
    · right
      refine ⟨k0 + 1, a + 1, k0, 1, 4, by omega, by omega, ?_, Or.inr rfl, by omega, by omega, by omega, by omega, fun _ => ⟨rfl, rfl, by omega, q34⟩, fun h => absurd h (by decide), fun c hc => ?_⟩
      · rw [q3]
        unfold fM_passField_90
        rw [e1, if_pos q2, w32_id (by omega) (by omega), w32_id (by omega) (by omega)]
      · have := (step c hc).tr (q4 c hc)
        rw [show 1 + (k0 + 1 - (a + 1)).toNat = (k0 + 1 - a).toNat by omega] at this
        exact this
  · have ep : fM_passField m a = aLoop (fM_passField_113_b m a) FU a := by
      unfold fM_passField fM_passField_113
      rw [e1]
      by_cases hl : a < n
      · rw [if_pos hl, gd_pos (by omega), e2 a h0 hl, if_neg (fun e => hq ⟨hl, e⟩)]
      · rw [if_neg hl]
    rw [ep]
    rcases scan_p (a := a) hM (n - a).toNat a s FU h0 han (Nat.le_refl _) (by show (n - a).toNat < 1000000; omega) (by omega) (fun _ hl e => hq ⟨hl, e⟩) with ⟨r1, r2⟩ | ⟨k0, s', q1, q2, q3, q34, q4, q5, q6⟩
    · left
      exact ⟨r1, fun c hc F hF => r2 c hc F (by omega)⟩
    · right
      refine ⟨k0, a, k0, 0, s', q1, q2, ?_, Or.inl rfl, h0, q1, q2, by omega, fun h => absurd h (by decide), fun _ => ⟨q5, rfl, rfl, q3, q34⟩, q6⟩
      rw [q4]
      unfold fM_passField_173
      rfl
