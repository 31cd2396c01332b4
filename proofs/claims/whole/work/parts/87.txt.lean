/-! TEXTS AS LISTS: what a stretch of characters is; the table's side -/
theorem gd_pos {V : Type} {P : Prop} [Decidable P] {o : Option V} (h : P) : gd P o = o := if_pos h
theorem aL_go {X V : Type} {f : X → Option (X ⊕ V)} {n : Nat} {x y : X} (h : f x = some (.inl y)) : aLoop f (n + 1) x = aLoop f n y := by
  show (match f x with | none => none | some (.inl y) => aLoop f n y | some (.inr v) => some v) = _
  rw [h]
theorem aL_end {X V : Type} {f : X → Option (X ⊕ V)} {n : Nat} {x : X} {v : V} (h : f x = some (.inr v)) : aLoop f (n + 1) x = some v := by
  show (match f x with | none => none | some (.inl y) => aLoop f n y | some (.inr v) => some v) = _
  rw [h]
/-- a row of characters stands right -/
def ChR (m : aM) (x : Int) : Prop := 0 ≤ m x 1 ∧ m x 1 ≤ LEN (x + 1) ∧ LEN (x + 1) ≤ 700
/-- a character, -1 where there is none -/
def ca (m : aM) (x i : Int) : Int := if 0 ≤ i ∧ i < m x 1 then m (x + 1) i else -1
theorem ca_in {m : aM} {x i : Int} (h0 : 0 ≤ i) (h1 : i < m x 1) : ca m x i = m (x + 1) i := if_pos ⟨h0, h1⟩
theorem ca_out {m : aM} {x i : Int} (h : i < 0 ∨ m x 1 ≤ i) : ca m x i = -1 := if_neg (by omega)
theorem at_eq {m : aM} {x i : Int} (h : ChR m x) : fC_at m x i = some (ca m x i) := by
  unfold fC_at
  have := h.2.1
  by_cases h0 : i < 0
  · rw [if_pos h0, ca_out (Or.inl h0)]
  · rw [if_neg h0]
    by_cases h1 : i < m x 1
    · rw [if_pos h1, if_pos (by omega), gd_pos ⟨by omega, by omega⟩, ca_in (by omega) h1]
    · rw [if_neg h1, ca_out (Or.inr (by omega))]
def dg (c : Int) : Bool := decide (48 ≤ c ∧ c ≤ 57)
def lo (c : Int) : Bool := decide (97 ≤ c ∧ c ≤ 122)
theorem dg_iff {c : Int} : dg c = true ↔ 48 ≤ c ∧ c ≤ 57 := decide_eq_true_iff
theorem lo_iff {c : Int} : lo c = true ↔ 97 ≤ c ∧ c ≤ 122 := decide_eq_true_iff
theorem xDig {c : Int} : fX_isDigit c = if dg c then 1 else 0 := by
  unfold fX_isDigit dg
  by_cases h1 : c < 48
  · rw [if_pos h1, if_neg (by simp; omega)]
  · rw [if_neg h1]
    by_cases h2 : 57 < c
    · rw [if_pos h2, if_neg (by simp; omega)]
    · rw [if_neg h2, if_pos (by simp; omega)]
theorem xLet {c : Int} : fX_isLetter c = if lo c then 1 else 0 := by
  unfold fX_isLetter lo
  by_cases h1 : c < 97
  · rw [if_pos h1, if_neg (by simp; omega)]
  · rw [if_neg h1]
    by_cases h2 : 122 < c
    · rw [if_pos h2, if_neg (by simp; omega)]
    · rw [if_neg h2, if_pos (by simp; omega)]
theorem mDig {c : Int} : fM_isDigit c = if dg c then 1 else 0 := xDig
theorem mLet {c : Int} : fM_isLetter c = if lo c then 1 else 0 := xLet
/-- the digits of a text, below zero, behind a -/
def nv : Int → List Int → Int
  | a, [] => a
  | a, c :: r => nv (if dg c then a * 10 - (c - 48) else a) r
theorem nv_le {a : Int} {s : List Int} (h : a ≤ 0) : nv a s ≤ a := by
  induction s generalizing a with
  | nil => exact Int.le_refl _
  | cons c r ih =>
    show nv (if dg c then a * 10 - (c - 48) else a) r ≤ a
    by_cases hc : dg c = true
    · rw [if_pos hc]
      have := dg_iff.mp hc
      exact Int.le_trans (ih (by omega)) (by omega)
    · rw [if_neg hc]
      exact ih h
/-- the value of a number's or a date's characters -/
def valS (s : List Int) : Int := if s.head? = some 45 then nv 0 s else w64 (-(nv 0 s))
theorem sl_head {m : aM} {x a b : Int} (h : a < b) : (sl m x a b).head? = some (m x a) := by
  rw [sl_cons h]
  rfl
theorem c_digitsOf {m : aM} {x a b : Int} (hc : ChR m x) (ha : 0 ≤ a) (hab : a ≤ b) (hb : b ≤ m x 1) (hv : -9223372036854775808 ≤ nv 0 (sl m (x + 1) a b)) : fC_digitsOf m x a b = some (valS (sl m (x + 1) a b)) := by
  unfold fC_digitsOf fC_digitsOf_5
  have h7 := hc.2.2
  have h6 := hc.2.1
  refine (aLoop_eq (Inv := fun y : Int × Int => a ≤ y.2 ∧ y.2 ≤ b ∧ y.1 ≤ 0 ∧ -9223372036854775808 ≤ nv y.1 (sl m (x + 1) y.2 b) ∧ (y.2 = a → y.1 = 0)) (μ := fun y => (b - y.2).toNat) (F := fun y => if (sl m (x + 1) a b).head? = some 45 then nv y.1 (sl m (x + 1) y.2 b) else w64 (-(nv y.1 (sl m (x + 1) y.2 b)))) ?_ FU (0, a) ⟨by omega, hab, by omega, hv, fun _ => rfl⟩ (by show (b - a).toNat < 1000000; omega)).trans rfl
  rintro ⟨y, i⟩ ⟨h1, h2, h3, h4, h5⟩
  simp only at h1 h2 h3 h4 h5
  by_cases hi : i < b
  · left
    rw [sl_cons hi] at h4
    have e : fC_at m x i = some (m (x + 1) i) := (at_eq hc).trans (by rw [ca_in (by omega) (by omega)])
    show ∃ z, fC_digitsOf_5_b m x a b (y, i) = _ ∧ _
    unfold fC_digitsOf_5_b
    simp only
    rw [if_pos hi, e]
    simp only [Option.bind_some]
    rw [xDig, w32_id (x := i + 1) (by omega) (by omega)]
    have h4 : -9223372036854775808 ≤ nv (if dg (m (x + 1) i) then y * 10 - (m (x + 1) i - 48) else y) (sl m (x + 1) (i + 1) b) := h4
    by_cases hd : dg (m (x + 1) i) = true
    · rw [if_pos hd, if_neg (by decide)]
      rw [if_pos hd] at h4
      have hr := dg_iff.mp hd
      have hle := nv_le (a := y * 10 - (m (x + 1) i - 48)) (s := sl m (x + 1) (i + 1) b) (by omega)
      rw [w64_id (x := y * 10) (by omega) (by omega), w32_id (x := m (x + 1) i - 48) (by omega) (by omega), w64_id (by omega) (by omega)]
      refine ⟨_, rfl, ⟨by simp only; omega, by simp only; omega, by simp only; omega, h4, fun h => absurd h (by simp only; omega)⟩, by simp only; omega, ?_⟩
      simp only
      rw [sl_cons hi]
      show _ = if _ then nv (if dg (m (x + 1) i) then y * 10 - (m (x + 1) i - 48) else y) (sl m (x + 1) (i + 1) b) else w64 (-(nv (if dg (m (x + 1) i) then y * 10 - (m (x + 1) i - 48) else y) (sl m (x + 1) (i + 1) b)))
      rw [if_pos hd]
    · rw [if_neg hd, if_pos rfl]
      rw [if_neg hd] at h4
      refine ⟨_, rfl, ⟨by simp only; omega, by simp only; omega, by simp only; omega, h4, fun h => absurd h (by simp only; omega)⟩, by simp only; omega, ?_⟩
      simp only
      rw [sl_cons hi]
      show _ = if _ then nv (if dg (m (x + 1) i) then y * 10 - (m (x + 1) i - 48) else y) (sl m (x + 1) (i + 1) b) else w64 (-(nv (if dg (m (x + 1) i) then y * 10 - (m (x + 1) i - 48) else y) (sl m (x + 1) (i + 1) b)))
      rw [if_neg hd]
  · right
    have ei : i = b := by omega
    subst ei
    show fC_digitsOf_5_b m x a i (y, i) = _
    unfold fC_digitsOf_5_b
    simp only
    rw [if_neg hi, at_eq hc, sl_nil (Int.le_refl i)]
    simp only [Option.bind_some]
    by_cases hai : a < i
    · rw [sl_head hai, ca_in (by omega) (by omega)]
      by_cases h45 : m (x + 1) a = 45
      · rw [if_pos h45, if_pos (by rw [h45])]
        rfl
      · rw [if_neg h45, if_neg (by simpa using h45)]
        rfl
    · have : a = i := by omega
      subst this
      have y0 := h5 rfl
      subst y0
      rw [sl_nil (Int.le_refl a)]
      by_cases h45 : ca m x a = 45
      · rw [if_pos h45]
        rfl
      · rw [if_neg h45]
        rfl
/-! whole numbers -/
/-- the digits of a text, above zero -/
def mg : Int → List Int → Int
  | a, [] => a
  | a, c :: r => mg (a * 10 + (c - 48)) r
theorem nv_mg {a : Int} {s : List Int} (h : s.all dg = true) : nv (-a) s = -(mg a s) := by
  induction s generalizing a with
  | nil => rfl
  | cons c r ih =>
    rw [List.all_cons, Bool.and_eq_true] at h
    show nv (if dg c then -a * 10 - (c - 48) else -a) r = -(mg (a * 10 + (c - 48)) r)
    rw [if_pos h.1, ← ih h.2]
    congr 1
    omega
theorem mg_add {a : Int} {s : List Int} : mg a s = a * 10 ^ s.length + mg 0 s := by
  induction s generalizing a with
  | nil => show a = a * 1 + 0; omega
  | cons c r ih =>
    show mg (a * 10 + (c - 48)) r = a * 10 ^ (r.length + 1) + mg (0 * 10 + (c - 48)) r
    rw [ih, ih (a := 0 * 10 + (c - 48)), Int.pow_succ]
    have e : (a * 10 + (c - 48)) * 10 ^ r.length = a * (10 ^ r.length * 10) + (0 * 10 + (c - 48)) * 10 ^ r.length := by
      rw [Int.add_mul, Int.mul_assoc, Int.mul_comm 10 (10 ^ r.length)]
      congr 2
      omega
    rw [e]
    omega
theorem mg_rng {s : List Int} (h : s.all dg = true) : 0 ≤ mg 0 s ∧ mg 0 s < 10 ^ s.length := by
  induction s with
  | nil => exact ⟨Int.le_refl _, by decide⟩
  | cons c r ih =>
    rw [List.all_cons, Bool.and_eq_true] at h
    have hc := dg_iff.mp h.1
    have hr := ih h.2
    show 0 ≤ mg (0 * 10 + (c - 48)) r ∧ mg (0 * 10 + (c - 48)) r < 10 ^ (r.length + 1)
    rw [mg_add, Int.pow_succ]
    have hp : (0 : Int) < 10 ^ r.length := Int.pow_pos (by decide)
    have h1 : (0 * 10 + (c - 48)) * 10 ^ r.length ≤ 9 * 10 ^ r.length := Int.mul_le_mul_of_nonneg_right (by omega) (by omega)
    have h2 : 0 ≤ (0 * 10 + (c - 48)) * 10 ^ r.length := Int.mul_nonneg (by omega) (by omega)
    omega
/-- the first difference of two texts -/
def lc : List Int → List Int → Int
  | a :: r, b :: t => if a - b = 0 then lc r t else a - b
  | _, _ => 0
theorem lc_mg {s t : List Int} (hs : s.all dg = true) (ht : t.all dg = true) (hl : s.length = t.length) : (lc s t ≤ 0 ↔ mg 0 s ≤ mg 0 t) := by
  induction s generalizing t with
  | nil =>
    cases t with
    | nil => exact ⟨fun _ => Int.le_refl _, fun _ => Int.le_refl _⟩
    | cons b t => cases hl
  | cons c r ih =>
    cases t with
    | nil => cases hl
    | cons b t =>
      rw [List.all_cons, Bool.and_eq_true] at hs ht
      have hl' : r.length = t.length := Nat.succ.inj hl
      have hr := mg_rng hs.2
      have htr := mg_rng ht.2
      show ((if c - b = 0 then lc r t else c - b) ≤ 0 ↔ mg (0 * 10 + (c - 48)) r ≤ mg (0 * 10 + (b - 48)) t)
      rw [mg_add, mg_add (a := 0 * 10 + (b - 48)), hl']
      rw [hl'] at hr
      have hp : (0 : Int) < 10 ^ t.length := Int.pow_pos (by decide)
      by_cases h0 : c - b = 0
      · rw [if_pos h0, ih hs.2 ht.2 hl', show c = b by omega]
        omega
      · rw [if_neg h0]
        rcases Int.lt_or_gt_of_ne h0 with h | h
        · have : (0 * 10 + (c - 48) + 1) * 10 ^ t.length ≤ (0 * 10 + (b - 48)) * 10 ^ t.length := Int.mul_le_mul_of_nonneg_right (by omega) (by omega)
          rw [Int.add_mul, Int.one_mul] at this
          constructor <;> intro _ <;> omega
        · have : (0 * 10 + (b - 48) + 1) * 10 ^ t.length ≤ (0 * 10 + (c - 48)) * 10 ^ t.length := Int.mul_le_mul_of_nonneg_right (by omega) (by omega)
          rw [Int.add_mul, Int.one_mul] at this
          constructor <;> intro _ <;> omega
