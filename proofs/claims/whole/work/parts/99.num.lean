/-! WRITING: numbers -/
/-- the digits of a from place k down -/
def dl (a : Int) : Nat → List Int
  | 0 => [48 + a % 10]
  | k + 1 => (48 + a / 10 ^ (k + 1) % 10) :: dl a k
def klen (a : Int) : Nat → Nat
  | 0 => 0
  | k + 1 => if a / 10 ^ (k + 1) = 0 then klen a k else k + 1
def absI (v : Int) : Int := if v < 0 then -v else v
def numS (v : Int) : List Int := (if v < 0 then [45] else []) ++ dl (absI v) (klen (absI v) 18)
theorem dl_len {a : Int} : ∀ k, (dl a k).length = k + 1 := by
  intro k
  induction k with
  | zero => rfl
  | succ k ih => show (dl a k).length + 1 = _; rw [ih]
theorem klen_le {a : Int} : ∀ k, klen a k ≤ k := by
  intro k
  induction k with
  | zero => exact Nat.le_refl _
  | succ k ih =>
    show (if a / 10 ^ (k + 1) = 0 then klen a k else k + 1) ≤ k + 1
    split
    · omega
    · omega
theorem p10_pos (k : Nat) : (0 : Int) < 10 ^ k := Int.pow_pos (by decide)
theorem p10_le18 {k : Nat} (h : k ≤ 18) : (10 : Int) ^ k ≤ 1000000000000000000 := by
  have := p10_mono h
  have e : (10 : Int) ^ 18 = 1000000000000000000 := by decide
  omega
theorem p10_div (k : Nat) : Int.tdiv ((10 : Int) ^ (k + 1)) 10 = 10 ^ k := by
  rw [Int.pow_succ, Int.tdiv_eq_ediv_of_nonneg (by have := p10_pos k; omega)]
  omega
theorem div0_lt {a : Int} {k : Nat} (h0 : 0 ≤ a) : a / 10 ^ k = 0 ↔ a < 10 ^ k := by
  have hp := p10_pos k
  constructor
  · intro h
    have := Int.lt_ediv_add_one_mul_self a hp
    rw [h] at this
    omega
  · intro h
    exact Int.ediv_eq_zero_of_lt h0 h
theorem div_step {a : Int} {k : Nat} : a / 10 ^ (k + 1) = a / 10 ^ k / 10 := by
  rw [Int.pow_succ, Int.ediv_ediv_of_nonneg (by have := p10_pos k; omega)]
theorem klen_spec {a : Int} (h0 : 0 ≤ a) : ∀ k, a < 10 ^ (k + 1) → (klen a k = 0 ∨ 10 ^ (klen a k) ≤ a) ∧ a < 10 ^ (klen a k + 1) := by
  intro k
  induction k with
  | zero => intro h; exact ⟨Or.inl rfl, h⟩
  | succ k ih =>
    intro h
    show ((if a / 10 ^ (k + 1) = 0 then klen a k else k + 1) = 0 ∨ 10 ^ (if a / 10 ^ (k + 1) = 0 then klen a k else k + 1) ≤ a) ∧ a < 10 ^ ((if a / 10 ^ (k + 1) = 0 then klen a k else k + 1) + 1)
    by_cases hz : a / 10 ^ (k + 1) = 0
    · rw [if_pos hz]
      exact ih ((div0_lt h0).mp hz)
    · rw [if_neg hz]
      refine ⟨Or.inr ?_, h⟩
      have : ¬ a < 10 ^ (k + 1) := fun q => hz ((div0_lt h0).mpr q)
      omega
theorem klen_uniq {a : Int} {j k : Nat} (h1 : j = 0 ∨ 10 ^ j ≤ a) (h2 : a < 10 ^ (j + 1)) (h3 : k = 0 ∨ 10 ^ k ≤ a) (h4 : a < 10 ^ (k + 1)) : j = k := by
  rcases Nat.lt_trichotomy j k with h | h | h
  · have : (10 : Int) ^ (j + 1) ≤ 10 ^ k := p10_mono (by omega)
    rcases h3 with h3 | h3 <;> omega
  · exact h
  · have : (10 : Int) ^ (k + 1) ≤ 10 ^ j := p10_mono (by omega)
    rcases h1 with h1 | h1 <;> omega
theorem tdm {a : Int} {k : Nat} (h0 : 0 ≤ a) (h1 : a ≤ 9223372036854775808) : Int.tmod (w64 (Int.tdiv (-a) (10 ^ k))) 10 = -(a / 10 ^ k % 10) ∧ 0 ≤ a / 10 ^ k ∧ a / 10 ^ k ≤ a := by
  have hp := p10_pos k
  have hq : 0 ≤ a / 10 ^ k := Int.ediv_nonneg h0 (by omega)
  have hle : a / 10 ^ k ≤ a := by
    have := Int.ediv_mul_le a (show (10 : Int) ^ k ≠ 0 by omega)
    have h2 : a / 10 ^ k * 1 ≤ a / 10 ^ k * 10 ^ k := Int.mul_le_mul_of_nonneg_left (by omega) hq
    omega
  refine ⟨?_, hq, hle⟩
  rw [Int.neg_tdiv, Int.tdiv_eq_ediv_of_nonneg h0, w64_id (by omega) (by omega), Int.neg_tmod, Int.tmod_eq_emod_of_nonneg hq]
/-- the class's digit -/
theorem c_digit {a : Int} {k : Nat} (h0 : 0 ≤ a) (h1 : a ≤ 9223372036854775808) : w32 (w64 (-(Int.tmod (w64 (Int.tdiv (-a) (10 ^ k))) 10))) = a / 10 ^ k % 10 := by
  rw [(tdm h0 h1).1, Int.neg_neg, w64_id (by omega) (by omega), w32_id (by omega) (by omega)]
theorem c_num_on {m0 : aM} {a : Int} (h0 : 0 ≤ a) (h1 : a ≤ 9223372036854775808) : ∀ (k : Nat), k ≤ 18 → ∀ f, k + 1 < f → ∀ m, Ag oC m0 m → 0 ≤ m 6 1 → m 6 1 + ((dl a k).length : Int) ≤ 700 → ∃ m', aLoop (fC_addNumber_33_b 6 (-a)) f (m, 1, 10 ^ k) = some m' ∧ App oC m m' (dl a k) := by
  have body (k : Nat) (hk : k ≤ 18) (m : aM) (ha : Ag oC m0 m) (hm : 0 ≤ m 6 1) (hr : m 6 1 + 1 ≤ 700) : ∃ m1, fC_addNumber_33_b 6 (-a) (m, 1, 10 ^ k) = some (Sum.inl (m1, 1, w64 (Int.tdiv (10 ^ k) 10))) ∧ App oC m m1 [48 + a / 10 ^ k % 10] := by
    have hp := p10_pos k
    obtain ⟨m1, e, p⟩ := wC_add (m0 := m0) (c := 48 + a / 10 ^ k % 10) (by omega) m ha hm hr
    have e : fC_add m 6 (48 + a / 10 ^ k % 10) = some m1 := e
    refine ⟨m1, ?_, p⟩
    unfold fC_addNumber_33_b
    simp only
    rw [if_pos (cmp3_gt0.mpr hp), if_neg (by omega), if_neg (by decide)]
    unfold fC_addNumber_74
    rw [if_neg (by decide), c_digit h0 h1, w32_id (by omega) (by omega), e]
    rfl
  intro k
  induction k with
  | zero =>
    intro hk f hf m ha hm hr
    obtain ⟨f, rfl⟩ : ∃ g, f = g + 1 + 1 := ⟨f - 2, by omega⟩
    obtain ⟨m1, e, p⟩ := body 0 hk m ha hm hr
    refine ⟨m1, (aL_go e).trans (aL_end ?_), ?_⟩
    · rfl
    · show App oC m m1 [48 + a % 10]
      have : a / 10 ^ 0 = a := by rw [Int.pow_zero, Int.ediv_one]
      rw [this] at p
      exact p
  | succ k ih =>
    intro hk f hf m ha hm hr
    obtain ⟨f, rfl⟩ : ∃ g, f = g + 1 := ⟨f - 1, by omega⟩
    have hr : m 6 1 + (((dl a k).length + 1 : Nat) : Int) ≤ 700 := hr
    obtain ⟨m1, e, p⟩ := body (k + 1) hk m ha hm (by omega)
    rw [p10_div, w64_id (by have := p10_pos k; omega) (by have := p10_le18 (k := k) (by omega); omega)] at e
    have p1 : m1 6 1 = m 6 1 + 1 := p.1
    obtain ⟨m2, e2, p2⟩ := ih (by omega) f (by omega) m1 (ha.tr p.2.2.2) (by omega) (by omega)
    exact ⟨m2, (aL_go e).trans e2, p.app p2⟩
theorem c_num_off {m0 : aM} {a : Int} (h0 : 0 ≤ a) (h1 : a ≤ 9223372036854775808) : ∀ (k : Nat), k ≤ 18 → ∀ f, k + 1 < f → ∀ m, Ag oC m0 m → 0 ≤ m 6 1 → m 6 1 + ((dl a (klen a k)).length : Int) ≤ 700 → a < 10 ^ (k + 1) → ∃ m', aLoop (fC_addNumber_33_b 6 (-a)) f (m, 0, 10 ^ k) = some m' ∧ App oC m m' (dl a (klen a k)) := by
  have start (k : Nat) (hk : k ≤ 18) (f : Nat) (m : aM) (hd : a / 10 ^ k % 10 ≠ 0 ∨ k = 0) : aLoop (fC_addNumber_33_b 6 (-a)) f (m, 0, 10 ^ k) = aLoop (fC_addNumber_33_b 6 (-a)) f (m, 1, 10 ^ k) := by
    cases f with
    | zero => rfl
    | succ f =>
      have hp := p10_pos k
      have e1 : fC_addNumber_33_b 6 (-a) (m, 1, 10 ^ k) = fC_addNumber_74 m 6 (-a) (10 ^ k) (a / 10 ^ k % 10) 1 := by
        unfold fC_addNumber_33_b
        simp only
        rw [if_pos (cmp3_gt0.mpr hp), if_neg (by omega), if_neg (by decide), c_digit h0 h1]
      have e0 : fC_addNumber_33_b 6 (-a) (m, 0, 10 ^ k) = fC_addNumber_74 m 6 (-a) (10 ^ k) (a / 10 ^ k % 10) 1 := by
        unfold fC_addNumber_33_b
        simp only
        rw [if_pos (cmp3_gt0.mpr hp), if_neg (by omega), if_pos trivial, c_digit h0 h1]
        by_cases hz : a / 10 ^ k % 10 = 0
        · rw [if_pos hz]
          rcases hd with hd | hd
          · exact absurd hz hd
          · subst hd
            rfl
        · rw [if_neg hz]
      unfold aLoop
      rw [e0, e1]
  intro k
  induction k with
  | zero =>
    intro hk f hf m ha hm hr _
    rw [start 0 hk f m (Or.inr rfl)]
    exact c_num_on h0 h1 0 hk f hf m ha hm hr
  | succ k ih =>
    intro hk f hf m ha hm hr hlt
    have hr' : m 6 1 + ((dl a (if a / 10 ^ (k + 1) = 0 then klen a k else k + 1)).length : Int) ≤ 700 := hr
    show ∃ m', _ ∧ App oC m m' (dl a (if a / 10 ^ (k + 1) = 0 then klen a k else k + 1))
    by_cases hz : a / 10 ^ (k + 1) = 0
    · rw [if_pos hz] at hr' ⊢
      obtain ⟨f, rfl⟩ : ∃ g, f = g + 1 := ⟨f - 1, by omega⟩
      have hp := p10_pos (k + 1)
      have hp1 : (10 : Int) ^ (k + 1) ≠ 1 := by
        rw [Int.pow_succ]
        have := p10_pos k
        omega
      have e : fC_addNumber_33_b 6 (-a) (m, 0, 10 ^ (k + 1)) = some (Sum.inl (m, 0, 10 ^ k)) := by
        unfold fC_addNumber_33_b
        simp only
        rw [if_pos (cmp3_gt0.mpr hp), if_neg (by omega), if_pos trivial, c_digit h0 h1, hz, if_pos (by decide), if_neg (fun h => hp1 (cmp3_eq0.mp h))]
        unfold fC_addNumber_74
        rw [if_pos rfl, p10_div, w64_id (by have := p10_pos k; omega) (by have := p10_le18 (k := k) (by omega); omega)]
      rw [aL_go e]
      exact ih (by omega) f (by omega) m ha hm hr' ((div0_lt h0).mp hz)
    · rw [if_neg hz] at hr' ⊢
      have hdig : a / 10 ^ (k + 1) % 10 ≠ 0 := by
        have h2 : a / 10 ^ (k + 1 + 1) = 0 := (div0_lt h0).mpr hlt
        rw [div_step] at h2
        have := (tdm (k := k + 1) h0 h1).2.1
        omega
      rw [start (k + 1) hk f m (Or.inl hdig)]
      exact c_num_on h0 h1 (k + 1) hk f hf m ha hm hr'
theorem abs_rng {v : Int} (hv : i64 v) : 0 ≤ absI v ∧ absI v ≤ 9223372036854775808 ∧ absI v < 10 ^ 19 := by
  have h19 : (10 : Int) ^ 19 = 10000000000000000000 := by decide
  obtain ⟨h1, h2⟩ := hv
  unfold absI
  split <;> omega
theorem wC_num {m0 : aM} {v : Int} (hv : i64 v) : Wr oC m0 (fun m => fC_addNumber m 6 v) (numS v) := by
  obtain ⟨a0, a1, a2⟩ := abs_rng hv
  have hcore : Wr oC m0 (fun m => fC_addNumber_12 m 6 v) (dl (absI v) (klen (absI v) 18)) := by
    intro m ha hm hr
    have h18 : (1000000000000000000 : Int) = 10 ^ 18 := by decide
    have e : fC_addNumber_12 m 6 v = aLoop (fC_addNumber_33_b 6 (-(absI v))) FU (m, 0, 10 ^ 18) := by
      unfold fC_addNumber_12 fC_addNumber_33 absI
      obtain ⟨h1, h2⟩ := hv
      by_cases hn : v < 0
      · rw [if_pos (cmp3_lt0.mpr hn), if_pos hn, Int.neg_neg, h18]
      · rw [if_neg (fun h => hn (cmp3_lt0.mp h)), if_neg hn, w64_id (by omega) (by omega), h18]
    show ∃ m', fC_addNumber_12 m 6 v = some m' ∧ _
    rw [e]
    exact c_num_off a0 a1 18 (by omega) FU (by decide) m ha hm hr a2
  unfold numS
  by_cases hn : v < 0
  · rw [if_pos hn]
    exact ((wC_add (m0 := m0) (c := 45) (by decide)).seq hcore).congr (fun m _ => by unfold fC_addNumber; rw [if_pos (cmp3_lt0.mpr hn)])
  · rw [if_neg hn]
    exact hcore.congr (fun m _ => by unfold fC_addNumber; rw [if_neg (fun h => hn (cmp3_lt0.mp h))])
/-- the reference's digit -/
theorem r_digit {v : Int} {k : Nat} (hv : i64 v) : Int.tmod (w64 (Int.tdiv v (10 ^ k))) 10 = (if v < 0 then -(absI v / 10 ^ k % 10) else absI v / 10 ^ k % 10) := by
  obtain ⟨a0, a1, a2⟩ := abs_rng hv
  have ht := tdm (k := k) a0 a1
  by_cases hn : v < 0
  · rw [if_pos hn]
    have e : v = -(absI v) := by unfold absI; rw [if_pos hn]; omega
    have := ht.1
    rw [← e] at this
    exact this
  · rw [if_neg hn]
    have e : absI v = v := by unfold absI; rw [if_neg hn]
    rw [e] at ht ⊢
    obtain ⟨h1, h2⟩ := hv
    rw [Int.tdiv_eq_ediv_of_nonneg (by omega), w64_id (by omega) (by omega), Int.tmod_eq_emod_of_nonneg ht.2.1]
theorem r_num_on {m0 : aM} {v : Int} (hv : i64 v) : ∀ (k : Nat), k ≤ 18 → ∀ f, k + 1 < f → ∀ m, Ag oM m0 m → 0 ≤ m 130 45 → m 130 45 + ((dl (absI v) k).length : Int) ≤ 2000 → ∃ m', aLoop (fM_sayNumber_43_b v) f (m, 10 ^ k) = some m' ∧ App oM m m' (dl (absI v) k) := by
  obtain ⟨a0, a1, a2⟩ := abs_rng hv
  have body (k : Nat) (hk : k ≤ 18) (m : aM) (ha : Ag oM m0 m) (hm : 0 ≤ m 130 45) (hr : m 130 45 + 1 ≤ 2000) : ∃ m1, fM_sayNumber_43_b v (m, 10 ^ k) = some (Sum.inl (m1, w64 (Int.tdiv (10 ^ k) 10))) ∧ App oM m m1 [48 + absI v / 10 ^ k % 10] := by
    have hp := p10_pos k
    obtain ⟨m1, e, p⟩ := wM_say (m0 := m0) (c := 48 + absI v / 10 ^ k % 10) m ha hm hr
    have e : fM_say m (48 + absI v / 10 ^ k % 10) = some m1 := e
    refine ⟨m1, ?_, p⟩
    have e77 (d : Int) (hd : d = absI v / 10 ^ k % 10) : fM_sayNumber_77 m v (10 ^ k) 48 d = some (Sum.inl (m1, w64 (Int.tdiv (10 ^ k) 10))) := by
      unfold fM_sayNumber_77
      rw [hd, w64_id (x := 48 + absI v / 10 ^ k % 10) (by omega) (by omega), w32_id (by omega) (by omega), e]
      rfl
    unfold fM_sayNumber_43_b
    simp only
    rw [if_pos (cmp3_gt0.mpr hp), if_neg (by omega), r_digit hv]
    by_cases hn : v < 0
    · rw [if_pos hn]
      by_cases hz : absI v / 10 ^ k % 10 = 0
      · rw [hz, if_neg (by decide)]
        exact e77 (-0) (by rw [hz]; rfl)
      · rw [if_pos (cmp3_lt0.mpr (by omega)), Int.neg_neg, w64_id (by omega) (by omega)]
        exact e77 _ rfl
    · rw [if_neg hn, if_neg (fun h => by have := cmp3_lt0.mp h; omega)]
      exact e77 _ rfl
  intro k
  induction k with
  | zero =>
    intro hk f hf m ha hm hr
    obtain ⟨f, rfl⟩ : ∃ g, f = g + 1 + 1 := ⟨f - 2, by omega⟩
    obtain ⟨m1, e, p⟩ := body 0 hk m ha hm hr
    refine ⟨m1, (aL_go e).trans (aL_end ?_), ?_⟩
    · rfl
    · show App oM m m1 [48 + absI v % 10]
      have : absI v / 10 ^ 0 = absI v := by rw [Int.pow_zero, Int.ediv_one]
      rw [this] at p
      exact p
  | succ k ih =>
    intro hk f hf m ha hm hr
    obtain ⟨f, rfl⟩ : ∃ g, f = g + 1 := ⟨f - 1, by omega⟩
    have hr : m 130 45 + (((dl (absI v) k).length + 1 : Nat) : Int) ≤ 2000 := hr
    obtain ⟨m1, e, p⟩ := body (k + 1) hk m ha hm (by omega)
    rw [p10_div, w64_id (by have := p10_pos k; omega) (by have := p10_le18 (k := k) (by omega); omega)] at e
    have p1 : m1 130 45 = m 130 45 + 1 := p.1
    obtain ⟨m2, e2, p2⟩ := ih (by omega) f (by omega) m1 (ha.tr p.2.2.2) (by omega) (by omega)
    exact ⟨m2, (aL_go e).trans e2, p.app p2⟩
theorem wM_num {m0 : aM} {v : Int} (hv : i64 v) : Wr oM m0 (fun m => fM_sayNumber m v) (numS v) := by
  obtain ⟨a0, a1, a2⟩ := abs_rng hv
  have hK := klen_spec a0 18 a2
  have hq (k : Nat) : w64 (Int.tdiv v (10 ^ k)) = if v < 0 then -(absI v / 10 ^ k) else absI v / 10 ^ k := by
    have ht := tdm (k := k) a0 a1
    by_cases hn : v < 0
    · rw [if_pos hn]
      have e : v = -(absI v) := by unfold absI; rw [if_pos hn]; omega
      rw [show Int.tdiv v (10 ^ k) = -(absI v / 10 ^ k) by conv => lhs; rw [e]
                                                           rw [Int.neg_tdiv, Int.tdiv_eq_ediv_of_nonneg a0]]
      exact w64_id (by omega) (by omega)
    · rw [if_neg hn]
      have e : absI v = v := by unfold absI; rw [if_neg hn]
      rw [e] at ht ⊢
      obtain ⟨h1, h2⟩ := hv
      rw [Int.tdiv_eq_ediv_of_nonneg (by omega)]
      exact w64_id (by omega) (by omega)
  have hcore : Wr oM m0 (fun m => fM_sayNumber_14 m v 1) (dl (absI v) (klen (absI v) 18)) := by
    intro m ha hm hr
    obtain ⟨m', e', p'⟩ := r_num_on (m0 := m0) hv (klen (absI v) 18) (klen_le 18) FU (Nat.lt_of_le_of_lt (Nat.succ_le_succ (klen_le 18)) (by decide)) m ha hm hr
    refine ⟨m', ?_, p'⟩
    show fM_sayNumber_14 m v 1 = some m'
    unfold fM_sayNumber_14
    have key : ∀ (j : Nat) (k f : Nat), k + j = 18 → j < f → (k = 0 ∨ 10 ^ k ≤ absI v) → aLoop (fM_sayNumber_14_b m v) f (10 ^ k) = some m' := by
      intro j
      induction j with
      | zero =>
        intro k f hk hf hle
        obtain ⟨f, rfl⟩ : ∃ g, f = g + 1 := ⟨f - 1, by omega⟩
        obtain rfl : k = 18 := by omega
        have hd : absI v / 10 ^ 18 ≤ 9 := by
          have h3 : absI v / 10 ^ 18 / 10 = 0 := by rw [← div_step]; exact (div0_lt a0).mpr a2
          omega
        have hd0 := (tdm (k := 18) a0 a1).2.1
        refine aL_end ?_
        unfold fM_sayNumber_14_b
        rw [if_neg (by have := p10_pos 18; omega), hq]
        have h1 : ¬ 0 < cmp3 (if v < 0 then -(absI v / 10 ^ 18) else absI v / 10 ^ 18) 9 := fun h => by
          have := cmp3_gt0.mp h
          split at this <;> omega
        have h2 : ¬ cmp3 (if v < 0 then -(absI v / 10 ^ 18) else absI v / 10 ^ 18) (-9) < 0 := fun h => by
          have := cmp3_lt0.mp h
          split at this <;> omega
        rw [if_neg h1, if_neg h2]
        have : klen (absI v) 18 = 18 := klen_uniq hK.1 hK.2 hle a2
        rw [this] at e'
        unfold fM_sayNumber_43
        rw [e']
        rfl
      | succ j ih =>
        intro k f hk hf hle
        obtain ⟨f, rfl⟩ : ∃ g, f = g + 1 := ⟨f - 1, by omega⟩
        have hp := p10_pos k
        have hd0 := (tdm (k := k) a0 a1).2.1
        have hp18 := p10_le18 (k := k) (by omega)
        by_cases hbig : 9 < absI v / 10 ^ k
        · have hge : 10 ^ (k + 1) ≤ absI v := by
            have h3 : absI v / 10 ^ (k + 1) ≠ 0 := by rw [div_step]; omega
            have : ¬ absI v < 10 ^ (k + 1) := fun q => h3 ((div0_lt a0).mpr q)
            omega
          have e10 : w64 (10 * 10 ^ k) = 10 ^ (k + 1) := by
            rw [Int.pow_succ, Int.mul_comm]
            rw [Int.pow_succ] at hge
            exact w64_id (by omega) (by omega)
          have eb : fM_sayNumber_14_b m v (10 ^ k) = some (Sum.inl (10 ^ (k + 1))) := by
            unfold fM_sayNumber_14_b
            rw [if_neg (by omega), hq, e10]
            by_cases hn : v < 0
            · rw [if_pos hn, if_neg (fun h => by have := cmp3_gt0.mp h; omega), if_pos (cmp3_lt0.mpr (by omega))]
            · rw [if_neg hn, if_pos (cmp3_gt0.mpr (by omega))]
          rw [aL_go eb]
          exact ih (k + 1) f (by omega) (by omega) (Or.inr hge)
        · have hlt : absI v < 10 ^ (k + 1) := by
            refine (div0_lt a0).mp ?_
            rw [div_step]
            omega
          refine aL_end ?_
          unfold fM_sayNumber_14_b
          rw [if_neg (by omega), hq]
          have h1 : ¬ 0 < cmp3 (if v < 0 then -(absI v / 10 ^ k) else absI v / 10 ^ k) 9 := fun h => by
            have := cmp3_gt0.mp h
            split at this <;> omega
          have h2 : ¬ cmp3 (if v < 0 then -(absI v / 10 ^ k) else absI v / 10 ^ k) (-9) < 0 := fun h => by
            have := cmp3_lt0.mp h
            split at this <;> omega
          rw [if_neg h1, if_neg h2]
          have : klen (absI v) 18 = k := klen_uniq hK.1 hK.2 hle hlt
          rw [this] at e'
          unfold fM_sayNumber_43
          rw [e']
          rfl
    exact key 18 0 FU rfl (by decide) (Or.inl rfl)
  unfold numS
  by_cases hn : v < 0
  · rw [if_pos hn]
    exact ((wM_say (m0 := m0) (c := 45)).seq hcore).congr (fun m _ => by unfold fM_sayNumber; rw [if_pos (cmp3_lt0.mpr hn)])
  · rw [if_neg hn]
    exact hcore.congr (fun m _ => by unfold fM_sayNumber; rw [if_neg (fun h => hn (cmp3_lt0.mp h))])
theorem numS_len {v : Int} : ((numS v).length : Int) ≤ 20 := by
  unfold numS
  rw [List.length_append, dl_len]
  have := klen_le (a := absI v) 18
  split <;> simp <;> omega
