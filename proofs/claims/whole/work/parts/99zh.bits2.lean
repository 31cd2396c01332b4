/-! ASK: truth as bits -/
def bI (z : Int) (i : Nat) : Bool := bt (Int32.ofInt z) i
theorem bI_back (x : Int32) : Int32.ofInt x.toInt = x := Int32.ofInt_toInt x
theorem bI_or (a b : Int) (i : Nat) : bI (bOr a b) i = (bI a i || bI b i) := by
  unfold bI bOr
  rw [bI_back, b_or]
theorem bI_and (a b : Int) (i : Nat) : bI (bAnd a b) i = (bI a i && bI b i) := by
  unfold bI bAnd
  rw [bI_back, b_and]
theorem nI32 : ∀ k : Fin 32, Int32.ofInt ((k.val : Nat) : Int) = nI k.val := by decide +kernel
theorem bI_shl (a : Int) {k i : Nat} (hk : k < 32) (hi : i < 32) : bI (bShl a (k : Int)) i = (decide (k ≤ i) && bI a (i - k)) := by
  unfold bI bShl
  have := nI32 ⟨k, hk⟩
  simp only at this
  rw [bI_back, this, b_shl k hk _ hi]
theorem bI_ushr (a : Int) (i : Nat) : bI (bUshr a 16) i = bI a (16 + i) := by
  unfold bI bUshr
  have h := nI32 ⟨16, by decide⟩
  have h2 : Int32.ofInt 16 = nI 16 := h
  rw [bI_back, h2, b_ushr 16 (by decide)]
theorem bI_1 : ∀ i : Fin 32, bI 1 i.val = decide (i.val = 0) := by decide +kernel
theorem bI_lo : ∀ i : Fin 32, bI 65535 i.val = decide (i.val < 16) := by decide +kernel
theorem bI_hi : ∀ i : Fin 32, bI (-65536) i.val = decide (16 ≤ i.val) := by decide +kernel
theorem bI_0 (i : Nat) : bI 0 i = false := b_0 i
theorem bI_all : ∀ k : Fin 17, ∀ r : Fin 16, bI (w32 (bShl 1 ((k.val : Nat) : Int) - 1)) r.val = decide (r.val < k.val) := by decide +kernel
theorem bI_one {k i : Nat} (hk : k < 32) (hi : i < 32) : bI (bShl 1 (k : Int)) i = decide (i = k) := by
  rw [bI_shl 1 hk hi]
  by_cases h : k ≤ i
  · have := bI_1 ⟨i - k, by omega⟩
    simp only at this
    rw [this, decide_eq_true h, Bool.true_and]
    by_cases e : i = k
    · rw [decide_eq_true e, decide_eq_true (by omega)]
    · rw [decide_eq_false e, decide_eq_false (by omega)]
  · rw [decide_eq_false h, decide_eq_false (by omega)]
    rfl
theorem bI_test {B : Int} {r : Nat} (hr : r < 32) : bAnd B (bShl 1 (r : Int)) = 0 ↔ bI B r = false := by
  constructor
  · intro h
    have h2 := bI_and B (bShl 1 (r : Int)) r
    rw [h, bI_0, bI_one hr hr, decide_eq_true rfl, Bool.and_true] at h2
    exact h2.symm
  · intro h
    have e : Int32.ofInt B &&& Int32.ofInt (bShl 1 (r : Int)) = 0 := by
      apply b_ext
      intro i hi
      rw [b_and, b_0]
      have h1 := bI_one (k := r) (i := i) hr hi
      unfold bI at h1 h
      rw [h1]
      by_cases e : i = r
      · rw [e, h]; rfl
      · rw [decide_eq_false e, Bool.and_false]
    unfold bAnd
    rw [e]
    rfl
/-- a word of bits stands for a truth in each row -/
def BW (B : Int) (f : Nat → Int) : Prop := ∀ r : Nat, r < 16 → bI B r = decide (f r = 2) ∧ bI B (16 + r) = decide (f r = 0)
def TV (f : Nat → Int) : Prop := ∀ r, 0 ≤ f r ∧ f r ≤ 2
theorem BW.turn {x : Int} {f : Nat → Int} (h : BW x f) (hv : TV f) : BW (fQ_turned x) (fun r => 2 - f r) := by
  intro r hr
  obtain ⟨h1, h2⟩ := h r hr
  have v := hv r
  unfold fQ_turned
  have s1 := bI_shl x (k := 16) (i := r) (by decide) (by omega)
  have s2 := bI_shl x (k := 16) (i := 16 + r) (by decide) (by omega)
  have e16 : ((16 : Nat) : Int) = 16 := rfl
  rw [e16] at s1 s2
  rw [bI_or, bI_or, s1, s2, bI_ushr, bI_ushr, decide_eq_false (show ¬ 16 ≤ r by omega), decide_eq_true (show 16 ≤ 16 + r by omega), show 16 + r - 16 = r by omega, h1, h2]
  have big : bI x (16 + (16 + r)) = false := b_big (by omega)
  rw [big]
  simp only [Bool.false_and, Bool.false_or, Bool.true_and, Bool.or_false]
  constructor
  · by_cases e : f r = 0
    · rw [decide_eq_true e, decide_eq_true (show 2 - f r = 2 by omega)]
    · rw [decide_eq_false e, decide_eq_false (show ¬ 2 - f r = 2 by omega)]
  · by_cases e : f r = 2
    · rw [decide_eq_true e, decide_eq_true (show 2 - f r = 0 by omega)]
    · rw [decide_eq_false e, decide_eq_false (show ¬ 2 - f r = 0 by omega)]
def t3a (a b : Int) : Int := if a ≤ b then a else b
def t3o (a b : Int) : Int := if a ≤ b then b else a
theorem BW.and {x y : Int} {f g : Nat → Int} (h : BW x f) (h' : BW y g) (hv : TV f) (hv' : TV g) : BW (fQ_join (-1) x y) (fun r => t3a (f r) (g r)) := by
  intro r hr
  obtain ⟨h1, h2⟩ := h r hr
  obtain ⟨h3, h4⟩ := h' r hr
  have v := hv r
  have v' := hv' r
  unfold fQ_join
  have l1 := bI_lo ⟨r, by omega⟩
  have l2 := bI_lo ⟨16 + r, by omega⟩
  have l3 := bI_hi ⟨r, by omega⟩
  have l4 := bI_hi ⟨16 + r, by omega⟩
  simp only at l1 l2 l3 l4
  rw [if_pos rfl, bI_or, bI_or, bI_and, bI_and, bI_and, bI_and, bI_and, bI_and, bI_or, bI_or, l1, l2, l3, l4, h1, h2, h3, h4, decide_eq_true (show r < 16 by omega), decide_eq_false (show ¬ 16 + r < 16 by omega), decide_eq_false (show ¬ 16 ≤ r by omega), decide_eq_true (show 16 ≤ 16 + r by omega)]
  simp only [Bool.and_true, Bool.and_false, Bool.or_false, Bool.false_or]
  unfold t3a
  constructor
  · rw [← Bool.decide_and]
    congr 1
    split <;> simp only [eq_iff_iff] <;> omega
  · rw [← Bool.decide_or]
    congr 1
    split <;> simp only [eq_iff_iff] <;> omega
theorem BW.or {x y : Int} {f g : Nat → Int} (h : BW x f) (h' : BW y g) (hv : TV f) (hv' : TV g) : BW (fQ_join (-2) x y) (fun r => t3o (f r) (g r)) := by
  intro r hr
  obtain ⟨h1, h2⟩ := h r hr
  obtain ⟨h3, h4⟩ := h' r hr
  have v := hv r
  have v' := hv' r
  unfold fQ_join
  have l1 := bI_lo ⟨r, by omega⟩
  have l2 := bI_lo ⟨16 + r, by omega⟩
  have l3 := bI_hi ⟨r, by omega⟩
  have l4 := bI_hi ⟨16 + r, by omega⟩
  simp only at l1 l2 l3 l4
  rw [if_neg (by decide), bI_or, bI_or, bI_and, bI_and, bI_and, bI_and, bI_and, bI_and, bI_or, bI_or, l1, l2, l3, l4, h1, h2, h3, h4, decide_eq_true (show r < 16 by omega), decide_eq_false (show ¬ 16 + r < 16 by omega), decide_eq_false (show ¬ 16 ≤ r by omega), decide_eq_true (show 16 ≤ 16 + r by omega)]
  simp only [Bool.and_true, Bool.and_false, Bool.or_false, Bool.false_or]
  unfold t3o
  constructor
  · rw [← Bool.decide_or]
    congr 1
    split <;> simp only [eq_iff_iff] <;> omega
  · rw [← Bool.decide_and]
    congr 1
    split <;> simp only [eq_iff_iff] <;> omega
/-- the bits of one row -/
def one (k : Nat) (v : Int) : Int := if v = 2 then bShl 1 (k : Int) else if v = 0 then bShl 1 ((16 + k : Nat) : Int) else 0
theorem BW.add {B : Int} {f g : Nat → Int} {k : Nat} {v : Int} (hk : k < 16) (h : BW B f) (hf : f k = 1) (hg : ∀ r, g r = if r = k then v else f r) : BW (bOr B (one k v)) g := by
  intro r hr
  obtain ⟨h1, h2⟩ := h r hr
  rw [bI_or, bI_or, h1, h2, hg r]
  have o1 : bI (one k v) r = decide (v = 2 ∧ r = k) := by
    unfold one
    by_cases v2 : v = 2
    · rw [if_pos v2, bI_one (by omega) (by omega)]
      by_cases e : r = k
      · rw [decide_eq_true e, decide_eq_true ⟨v2, e⟩]
      · rw [decide_eq_false e, decide_eq_false (fun g => e g.2)]
    · rw [if_neg v2, decide_eq_false (fun g => v2 g.1)]
      by_cases v0 : v = 0
      · rw [if_pos v0, bI_one (by omega) (by omega), decide_eq_false (by omega)]
      · rw [if_neg v0, bI_0]
  have o2 : bI (one k v) (16 + r) = decide (v = 0 ∧ r = k) := by
    unfold one
    by_cases v2 : v = 2
    · rw [if_pos v2, bI_one (by omega) (by omega), decide_eq_false (by omega), decide_eq_false (by omega)]
    · rw [if_neg v2]
      by_cases v0 : v = 0
      · rw [if_pos v0, bI_one (by omega) (by omega)]
        by_cases e : r = k
        · rw [decide_eq_true (by omega), decide_eq_true ⟨v0, e⟩]
        · rw [decide_eq_false (by omega), decide_eq_false (fun g => e g.2)]
      · rw [if_neg v0, bI_0, decide_eq_false (fun g => v0 g.1)]
  rw [o1, o2]
  by_cases e : r = k
  · rw [if_pos e, e, hf]
    constructor
    · rw [decide_eq_false (by decide), Bool.false_or]
      congr 1
      simp only [and_true]
    · rw [decide_eq_false (by decide), Bool.false_or]
      congr 1
      simp only [and_true]
  · rw [if_neg e, decide_eq_false (show ¬ (v = 2 ∧ r = k) from fun g => e g.2), decide_eq_false (show ¬ (v = 0 ∧ r = k) from fun g => e g.2), Bool.or_false, Bool.or_false]
    exact ⟨rfl, rfl⟩
theorem BW.zero : BW 0 (fun _ => 1) := fun r _ => by
  rw [bI_0, bI_0]
  exact ⟨rfl, rfl⟩
theorem one_bitOf {k : Nat} (hk : k < 16) {v : Int} : fQ_bitOf (k : Int) v = one k (if v = 0 then 0 else 2) := by
  unfold fQ_bitOf one
  by_cases h : v = 0
  · rw [if_pos h, if_pos h, if_neg (by decide), if_pos rfl, w32_id (by omega) (by omega)]
    rfl
  · rw [if_neg h, if_neg h, if_pos rfl]
