/-! dates, as the table reads them -/
def leapB (y : Int) : Bool := decide (Int.tmod y 4 = 0 ∧ (Int.tmod y 100 ≠ 0 ∨ Int.tmod y 400 = 0))
def mdays (l : Bool) (m : Int) : Int := if m = 2 then (if l then 29 else 28) else if m = 4 ∨ m = 6 ∨ m = 9 ∨ m = 11 then 30 else 31
def dayOK (y m d : Int) : Bool := decide (1 ≤ y ∧ 1 ≤ m ∧ m ≤ 12 ∧ 1 ≤ d ∧ d ≤ mdays (leapB y) m)
def dateS (s : List Int) : Bool := match s with
  | [a, b, c, d, h, e, f, g, i, j] => decide (h = 45 ∧ g = 45) && [a, b, c, d, e, f, i, j].all dg && dayOK (mg 0 [a, b, c, d]) (mg 0 [e, f]) (mg 0 [i, j])
  | _ => false
theorem sl2 {m : aM} {y a : Int} : sl m y a (a + 2) = [m y a, m y (a + 1)] := by
  rw [sl_cons (by omega), sl_cons (by omega), sl_nil (by omega)]
theorem sl4 {m : aM} {y a : Int} : sl m y a (a + 4) = [m y a, m y (a + 1), m y (a + 2), m y (a + 3)] := by
  rw [sl_cons (by omega), sl_cons (by omega), sl_cons (by omega), sl_cons (by omega), sl_nil (by omega), show a + 1 + 1 = a + 2 by omega, show a + 2 + 1 = a + 3 by omega]
theorem sl10 {m : aM} {y a : Int} : sl m y a (a + 10) = [m y a, m y (a + 1), m y (a + 2), m y (a + 3), m y (a + 4), m y (a + 5), m y (a + 6), m y (a + 7), m y (a + 8), m y (a + 9)] := by
  rw [sl_cons (by omega), sl_cons (by omega), sl_cons (by omega), sl_cons (by omega), sl_cons (by omega), sl_cons (by omega), sl_cons (by omega), sl_cons (by omega), sl_cons (by omega), sl_cons (by omega), sl_nil (by omega), show a + 1 + 1 = a + 2 by omega, show a + 2 + 1 = a + 3 by omega, show a + 3 + 1 = a + 4 by omega, show a + 4 + 1 = a + 5 by omega, show a + 5 + 1 = a + 6 by omega, show a + 6 + 1 = a + 7 by omega, show a + 7 + 1 = a + 8 by omega, show a + 8 + 1 = a + 9 by omega]
theorem valS_dg {l : List Int} (h : l.all dg = true) (hb : mg 0 l ≤ 9223372036854775807) : valS l = mg 0 l := by
  have e : nv 0 l = -(mg 0 l) := nv_mg (a := 0) h
  have hr := mg_rng h
  unfold valS
  rw [if_neg, e, Int.neg_neg, w64_id (by omega) (by omega)]
  intro h45
  cases l with
  | nil => cases h45
  | cons c r =>
    rw [List.all_cons, Bool.and_eq_true] at h
    cases h45
    exact absurd h.1 (by decide)
theorem dDay_at : ∀ k : Fin 12, dDay (k.val : Int) = mdays false ((k.val : Int) + 1) := by decide +kernel
theorem c_isDay {y m d : Int} (hy : 0 ≤ y ∧ y < 100000) (hm : 0 ≤ m ∧ m < 100000) (hd : 0 ≤ d ∧ d < 100000) : fC_isDay y m d = some (if dayOK y m d then 1 else 0) := by
  unfold fC_isDay dayOK
  by_cases h1 : y < 1
  · rw [if_pos h1, if_neg (by simp; omega)]
  rw [if_neg h1]
  by_cases h2 : m < 1
  · rw [if_pos h2, if_neg (by simp; omega)]
  rw [if_neg h2]
  by_cases h3 : 12 < m
  · rw [if_pos h3, if_neg (by simp; omega)]
  rw [if_neg h3]
  by_cases h4 : d < 1
  · rw [if_pos h4, if_neg (by simp; omega)]
  rw [if_neg h4]
  have hD : dDay (m - 1) = mdays false m := by
    have := dDay_at ⟨(m - 1).toNat, by omega⟩
    rw [show (((⟨(m - 1).toNat, by omega⟩ : Fin 12).val : Nat) : Int) = m - 1 by show (((m - 1).toNat : Nat) : Int) = m - 1; omega] at this
    rw [this]
    congr 1
    omega
  have hmd : 28 ≤ mdays false m ∧ mdays false m ≤ 31 := by
    unfold mdays
    by_cases e1 : m = 2
    · rw [if_pos e1]; decide
    · rw [if_neg e1]
      by_cases e2 : m = 4 ∨ m = 6 ∨ m = 9 ∨ m = 11
      · rw [if_pos e2]; decide
      · rw [if_neg e2]; decide
  have h74 (k : Int) (hk : k = 0 ∨ k = 1) : fC_isDay_74 d (dDay (w32 (m - 1))) k = some (if d ≤ mdays false m + k then 1 else 0) := by
    unfold fC_isDay_74
    rw [w32_id (x := m - 1) (by omega) (by omega), hD, w32_id (by omega) (by omega)]
    by_cases e : mdays false m + k < d
    · rw [if_pos e, if_neg (by omega)]
    · rw [if_neg e, if_pos (by omega)]
  have h51 (l : Bool) : fC_isDay_51 m d (if l then 1 else 0) = some (if decide (1 ≤ y ∧ 1 ≤ m ∧ m ≤ 12 ∧ 1 ≤ d ∧ d ≤ mdays l m) = true then 1 else 0) := by
    unfold fC_isDay_51
    rw [gd_pos (by rw [w32_id (x := m - 1) (by omega) (by omega)]; omega), h74 0 (Or.inl rfl), h74 1 (Or.inr rfl)]
    cases l with
    | false =>
      rw [if_pos (by rfl)]
      congr 1
      by_cases e : d ≤ mdays false m
      · rw [if_pos (by omega), if_pos (by simp; omega)]
      · rw [if_neg (by omega), if_neg (by simp; omega)]
    | true =>
      rw [if_neg (by decide)]
      by_cases e2 : m = 2
      · subst e2
        rw [if_pos rfl]
        congr 1
        show (if d ≤ 28 + 1 then (1 : Int) else 0) = if decide (1 ≤ y ∧ 1 ≤ (2 : Int) ∧ (2 : Int) ≤ 12 ∧ 1 ≤ d ∧ d ≤ 29) = true then 1 else 0
        by_cases e : d ≤ 29
        · rw [if_pos (by omega), if_pos (by simp; omega)]
        · rw [if_neg (by omega), if_neg (by simp; omega)]
      · rw [if_neg e2]
        have hmt : mdays true m = mdays false m := by unfold mdays; rw [if_neg e2, if_neg e2]
        rw [hmt]
        congr 1
        by_cases e : d ≤ mdays false m
        · rw [if_pos (by omega), if_pos (by simp; omega)]
        · rw [if_neg (by omega), if_neg (by simp; omega)]
  have ht := h51 true
  have hf := h51 false
  rw [if_pos rfl] at ht
  rw [if_neg (by decide)] at hf
  by_cases l1 : Int.tmod y 4 = 0
  · rw [if_pos l1]
    by_cases l2 : Int.tmod y 100 = 0
    · rw [if_pos l2]
      by_cases l3 : Int.tmod y 400 = 0
      · rw [if_pos l3, ht, show leapB y = true from decide_eq_true ⟨l1, Or.inr l3⟩]
      · rw [if_neg l3, hf, show leapB y = false from decide_eq_false (fun h => h.2.elim (fun q => q l2) l3)]
    · rw [if_neg l2, ht, show leapB y = true from decide_eq_true ⟨l1, Or.inl l2⟩]
  · rw [if_neg l1, hf, show leapB y = false from decide_eq_false (fun h => l1 h.1)]
/-- the places of a date -/
def fitL : Int → List Int → Bool
  | _, [] => true
  | k, c :: r => (if k = 4 ∨ k = 7 then decide (c = 45) else dg c) && fitL (k + 1) r
theorem mg_small {l : List Int} (h : l.all dg = true) (hl : l.length ≤ 4) : 0 ≤ mg 0 l ∧ mg 0 l < 100000 := by
  have h1 := mg_rng h
  have h2 := p10_mono hl
  have h3 : (10 : Int) ^ 4 = 10000 := by decide
  omega
theorem c_isDate {m : aM} {x a b : Int} (hc : ChR m x) (ha : 0 ≤ a) (hab : a ≤ b) (hb : b ≤ m x 1) : fC_isDate m x a b = some (if dateS (sl m (x + 1) a b) then 1 else 0) := by
  have h7 := hc.2.2
  have h6 := hc.2.1
  unfold fC_isDate
  rw [w32_id (x := b - a) (by omega) (by omega)]
  by_cases hl : b - a = 10
  · obtain rfl : b = a + 10 := by omega
    rw [if_pos hl]
    unfold fC_isDate_12
    refine (aLoop_eq (Inv := fun k : Int => 0 ≤ k ∧ k ≤ 10 ∧ fitL 0 (sl m (x + 1) a (a + 10)) = fitL k (sl m (x + 1) (a + k) (a + 10))) (μ := fun k => (10 - k).toNat) (F := fun k => if dateS (sl m (x + 1) a (a + 10)) = true then 1 else 0) ?_ FU 0 ⟨by omega, by omega, by rw [show a + 0 = a by omega]⟩ (by decide)).trans rfl
    rintro k ⟨g1, g2, g3⟩
    unfold fC_isDate_12_b
    simp only
    by_cases hk : k < 10
    · rw [sl_cons (show a + k < a + 10 by omega), show a + k + 1 = a + (k + 1) by omega] at g3
      have g3 : fitL 0 (sl m (x + 1) a (a + 10)) = ((if k = 4 ∨ k = 7 then decide (m (x + 1) (a + k) = 45) else dg (m (x + 1) (a + k))) && fitL (k + 1) (sl m (x + 1) (a + (k + 1)) (a + 10))) := g3
      have bad (h : fitL 0 (sl m (x + 1) a (a + 10)) = false) : dateS (sl m (x + 1) a (a + 10)) = false := by
        rw [sl10] at h ⊢
        simp only [fitL] at h
        unfold dateS
        simp at h
        simp
        intro e1 e2 e3 e4 e5 e6 e7 e8 e9 e10
        exact absurd e10 (by
          have := h e3 e4 e5 e6 e1 e7 e8 e2 e9
          simp_all)
      have e59 (v : Int) : fC_isDate_59 m x a (a + 10) k v = if v = 0 then some (Sum.inr 0) else some (Sum.inl (k + 1)) := by
        unfold fC_isDate_59
        rw [w32_id (by omega) (by omega)]
      rw [if_pos hk]
      by_cases h47 : k = 4 ∨ k = 7
      · rw [if_pos h47] at g3
        have e29 : fC_isDate_29 m x a (a + 10) k = if m (x + 1) (a + k) = 45 then some (Sum.inl (k + 1)) else some (Sum.inr 0) := by
          unfold fC_isDate_29
          rw [w32_id (by omega) (by omega), at_eq hc, ca_in (by omega) (by omega), e59, e59]
          rfl
        have e0 : (if k = 4 then fC_isDate_29 m x a (a + 10) k else if k = 7 then fC_isDate_29 m x a (a + 10) k else (fC_at m x (w32 (a + k))).bind fun v2 => fC_isDate_59 m x a (a + 10) k (fX_isDigit v2)) = fC_isDate_29 m x a (a + 10) k := by
          rcases h47 with h | h
          · rw [if_pos h]
          · rw [if_neg (by omega), if_pos h]
        rw [e0, e29]
        by_cases h45 : m (x + 1) (a + k) = 45
        · left
          rw [if_pos h45]
          rw [decide_eq_true h45, Bool.true_and] at g3
          exact ⟨_, rfl, ⟨by omega, by omega, g3⟩, by omega, trivial⟩
        · right
          rw [if_neg h45]
          rw [decide_eq_false h45, Bool.false_and] at g3
          rw [bad g3]
          rfl
      · rw [if_neg h47] at g3
        rw [if_neg (by omega), if_neg (by omega), w32_id (by omega) (by omega), at_eq hc, ca_in (by omega) (by omega)]
        simp only [Option.bind_some]
        rw [xDig, e59]
        by_cases hd : dg (m (x + 1) (a + k)) = true
        · left
          rw [if_pos hd, if_neg (by decide)]
          rw [hd, Bool.true_and] at g3
          exact ⟨_, rfl, ⟨by omega, by omega, g3⟩, by omega, trivial⟩
        · right
          rw [if_neg hd, if_pos rfl]
          rw [Bool.not_eq_true] at hd
          rw [hd, Bool.false_and] at g3
          rw [bad g3]
          rfl
    · right
      rw [sl_nil (by omega : a + 10 ≤ a + k)] at g3
      have g3 : fitL 0 (sl m (x + 1) a (a + 10)) = true := g3
      rw [sl10] at g3 ⊢
      simp only [fitL] at g3
      simp at g3
      obtain ⟨d0, d1, d2, d3, d4, d5, d6, d7, d8, d9⟩ := g3
      have q1 : [m (x + 1) a, m (x + 1) (a + 1), m (x + 1) (a + 2), m (x + 1) (a + 3)].all dg = true := by simp [d0, d1, d2, d3]
      have q2 : [m (x + 1) (a + 5), m (x + 1) (a + 6)].all dg = true := by simp [d5, d6]
      have q3 : [m (x + 1) (a + 8), m (x + 1) (a + 9)].all dg = true := by simp [d8, d9]
      have s1 := mg_small q1 (by simp)
      have s2 := mg_small q2 (by simp)
      have s3 := mg_small q3 (by simp)
      rw [if_neg hk, w32_id (x := a + 4) (by omega) (by omega), w32_id (x := a + 5) (by omega) (by omega), w32_id (x := a + 7) (by omega) (by omega), w32_id (x := a + 8) (by omega) (by omega)]
      have f5 : sl m (x + 1) (a + 5) (a + 7) = [m (x + 1) (a + 5), m (x + 1) (a + 6)] := by
        have := sl2 (m := m) (y := x + 1) (a := a + 5)
        rw [show a + 5 + 2 = a + 7 by omega, show a + 5 + 1 = a + 6 by omega] at this
        exact this
      have f8 : sl m (x + 1) (a + 8) (a + 10) = [m (x + 1) (a + 8), m (x + 1) (a + 9)] := by
        have := sl2 (m := m) (y := x + 1) (a := a + 8)
        rw [show a + 8 + 2 = a + 10 by omega, show a + 8 + 1 = a + 9 by omega] at this
        exact this
      have n1 := nv_mg (a := 0) q1
      have n2 := nv_mg (a := 0) q2
      have n3 := nv_mg (a := 0) q3
      rw [Int.neg_zero] at n1 n2 n3
      rw [c_digitsOf hc ha (by omega) (by omega) (by rw [sl4, n1]; omega), c_digitsOf hc (by omega) (by omega) (by omega) (by rw [f5, n2]; omega), c_digitsOf hc (by omega) (by omega) (by omega) (by rw [f8, n3]; omega), sl4, f5, f8, valS_dg q1 (by omega), valS_dg q2 (by omega), valS_dg q3 (by omega)]
      simp only [Option.bind_some]
      rw [w32_id (by omega) (by omega), w32_id (by omega) (by omega), w32_id (by omega) (by omega), c_isDay s1 s2 s3]
      simp only [Option.bind_some]
      rw [gd_pos (by split <;> simp)]
      congr 2
      unfold dateS
      simp [d0, d1, d2, d3, d4, d5, d6, d7, d8, d9]
  · rw [if_neg hl]
    have : dateS (sl m (x + 1) a b) = false := by
      have hlen := sl_len m (x + 1) a b
      unfold dateS
      split
      · rename_i heq
        rw [heq] at hlen
        simp at hlen
        omega
      · rfl
    rw [this]
    rfl
