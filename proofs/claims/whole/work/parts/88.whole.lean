/-! whole numbers, as the table reads them -/
def wbody (neg : Bool) (r : List Int) : Bool := match r with
  | [] => false
  | c :: t => if c = 48 then (!neg && t.isEmpty) else ((c :: t).all dg && decide (mg 0 (c :: t) ≤ if neg then 9223372036854775808 else 9223372036854775807))
def wholeS (s : List Int) : Bool := if s.head? = some 45 then wbody true s.tail else wbody false s
def kS (k : Int) : List Int := kStr.getD k.toNat []
theorem jlen : ∀ k : Fin 18, fJS_length (k.val : Int) = sLen (k.val : Int) := by decide +kernel
theorem jchar : ∀ k : Fin 18, ∀ i : Fin 20, (i.val : Int) < sLen (k.val : Int) → fJS_charAt (k.val : Int) (i.val : Int) = some (sAt (k.val : Int) (i.val : Int)) := by decide +kernel
theorem jlen' {k : Int} (h0 : 0 ≤ k) (h1 : k < 18) : fJS_length k = (kS k).length := by
  have := jlen ⟨k.toNat, by omega⟩
  rw [show (((⟨k.toNat, by omega⟩ : Fin 18).val : Nat) : Int) = k by show ((k.toNat : Nat) : Int) = k; omega] at this
  exact this
theorem kS_short : ∀ k : Fin 18, (kS (k.val : Int)).length < 20 := by decide +kernel
theorem kS_short' {k : Int} (h0 : 0 ≤ k) (h1 : k < 18) : (kS k).length < 20 := by
  have := kS_short ⟨k.toNat, by omega⟩
  rw [show (((⟨k.toNat, by omega⟩ : Fin 18).val : Nat) : Int) = k by show ((k.toNat : Nat) : Int) = k; omega] at this
  exact this
theorem jchar' {k i : Int} (h0 : 0 ≤ k) (h1 : k < 18) (h2 : 0 ≤ i) (h3 : i < (kS k).length) : fJS_charAt k i = some ((kS k).getD i.toNat 0) := by
  have hs := kS_short' h0 h1
  have := jchar ⟨k.toNat, by omega⟩ ⟨i.toNat, by omega⟩
  rw [show (((⟨k.toNat, by omega⟩ : Fin 18).val : Nat) : Int) = k by show ((k.toNat : Nat) : Int) = k; omega, show (((⟨i.toNat, by omega⟩ : Fin 20).val : Nat) : Int) = i by show ((i.toNat : Nat) : Int) = i; omega] at this
  exact this h3
theorem drop_cons {l : List Int} {i : Nat} (h : i < l.length) : l.drop i = l.getD i 0 :: l.drop (i + 1) := by
  rw [List.drop_eq_getElem_cons h, List.getD_eq_getElem?_getD, List.getElem?_eq_getElem h]
  rfl
theorem kS16 : kS 16 = [57, 50, 50, 51, 51, 55, 50, 48, 51, 54, 56, 53, 52, 55, 55, 53, 56, 48, 55] := rfl
theorem kS17 : kS 17 = [57, 50, 50, 51, 51, 55, 50, 48, 51, 54, 56, 53, 52, 55, 55, 53, 56, 48, 56] := rfl
theorem p10_mono {a b : Nat} (h : a ≤ b) : (10 : Int) ^ a ≤ 10 ^ b := by
  induction h with
  | refl => exact Int.le_refl _
  | step _ ih =>
    rw [Int.pow_succ]
    have : (0 : Int) < 10 ^ a := Int.pow_pos (by decide)
    omega
/-- the comparison with the bound -/
theorem c_beyond {m : aM} {x f b k : Int} (hc : ChR m x) (hf : 0 ≤ f) (hfb : f < b) (hb : b ≤ m x 1) (hk : k = 16 ∨ k = 17) (hd : (sl m (x + 1) f b).all dg = true) (h1 : m (x + 1) f ≠ 48) :
    fC_isWhole_94 m x b f k = some (if mg 0 (sl m (x + 1) f b) ≤ mg 0 (kS k) then 1 else 0) := by
  have h7 := hc.2.2
  have h6 := hc.2.1
  have hk0 : 0 ≤ k ∧ k < 18 := by omega
  have hl : (kS k).length = 19 := by rcases hk with rfl | rfl <;> rfl
  have hkd : (kS k).all dg = true := by rcases hk with rfl | rfl <;> decide
  have hkb : 1000000000000000000 ≤ mg 0 (kS k) ∧ mg 0 (kS k) < 10000000000000000000 := by rcases hk with rfl | rfl <;> decide
  unfold fC_isWhole_94 fC_isWhole_110
  rw [jlen' hk0.1 hk0.2, hl, w32_id (x := b - f) (by omega) (by omega), w32_id (x := b - f - ((19 : Nat) : Int)) (by omega) (by omega)]
  have fin (y : Int) : fC_isWhole_149 m y = some (if 0 < y then 0 else 1) := by
    unfold fC_isWhole_149
    by_cases h : 0 < y
    · rw [if_pos h, if_pos h]
    · rw [if_neg h, if_neg h]
  have key := aLoop_eq (f := fC_isWhole_110_b m x f k) (Inv := fun y : Int × Int => 0 ≤ y.2 ∧ y.2 ≤ 19 ∧ -100000 ≤ y.1 ∧ y.1 ≤ 100000 ∧ (y.1 = 0 → b - f = 19)) (μ := fun y => (19 - y.2).toNat) (F := fun y => if y.1 = 0 then (if 0 < lc (sl m (x + 1) (f + y.2) b) ((kS k).drop y.2.toNat) then 0 else 1) else (if 0 < y.1 then 0 else 1)) ?_ FU (b - f - ((19 : Nat) : Int), 0) ⟨by simp only; omega, by simp only; omega, by simp only; omega, by simp only; omega, by simp only; omega⟩ (by show (19 - 0 : Int).toNat < 1000000; decide)
  · rw [key]
    simp only
    have hlen := sl_len m (x + 1) f b
    have hrg := mg_rng hd
    congr 1
    by_cases he : b - f - ((19 : Nat) : Int) = 0
    · rw [if_pos he, show f + 0 = f by omega, show (0 : Int).toNat = 0 from rfl, List.drop_zero]
      have hlm := lc_mg hd hkd (by rw [hlen, hl]; omega)
      by_cases h0 : 0 < lc (sl m (x + 1) f b) (kS k)
      · rw [if_pos h0, if_neg (fun h => absurd (hlm.mpr h) (by omega))]
      · rw [if_neg h0, if_pos (hlm.mp (by omega))]
    · rw [if_neg he]
      by_cases h0 : 0 < b - f - ((19 : Nat) : Int)
      · rw [if_pos h0, if_neg]
        rw [sl_cons hfb] at hd ⊢
        rw [List.all_cons, Bool.and_eq_true] at hd
        have hc0 := dg_iff.mp hd.1
        have hr := mg_rng hd.2
        show ¬ mg (0 * 10 + (m (x + 1) f - 48)) (sl m (x + 1) (f + 1) b) ≤ mg 0 (kS k)
        rw [mg_add]
        have hp : (10 : Int) ^ 19 ≤ 10 ^ (sl m (x + 1) (f + 1) b).length := p10_mono (by rw [sl_len]; omega)
        have h2 : 1 * 10 ^ (sl m (x + 1) (f + 1) b).length ≤ (0 * 10 + (m (x + 1) f - 48)) * 10 ^ (sl m (x + 1) (f + 1) b).length := Int.mul_le_mul_of_nonneg_right (by omega) (by omega)
        have h3 : (10 : Int) ^ 19 = 10000000000000000000 := by decide
        omega
      · rw [if_neg h0, if_pos]
        have hp : (10 : Int) ^ (sl m (x + 1) f b).length ≤ 10 ^ 18 := p10_mono (by rw [sl_len]; omega)
        have h3 : (10 : Int) ^ 18 = 1000000000000000000 := by decide
        omega
  · rintro ⟨y, i⟩ ⟨g1, g2, g3, g4, g5⟩
    simp only at g1 g2 g3 g4 g5
    show (∃ z, fC_isWhole_110_b m x f k (y, i) = _ ∧ _) ∨ fC_isWhole_110_b m x f k (y, i) = _
    unfold fC_isWhole_110_b
    simp only
    rw [jlen' hk0.1 hk0.2, hl]
    by_cases hi : i < ((19 : Nat) : Int)
    · rw [if_pos hi]
      by_cases hy : y = 0
      · left
        have hbf := g5 hy
        subst hy
        rw [if_pos rfl, w32_id (x := f + i) (by omega) (by omega), at_eq hc, ca_in (by omega) (by omega), jchar' hk0.1 hk0.2 g1 (by rw [hl]; omega), w32_id (x := i + 1) (by omega) (by omega)]
        simp only [Option.bind_some]
        have hdi : dg (m (x + 1) (f + i)) = true := by
          refine List.all_eq_true.mp hd _ ?_
          have := sl_at (m := m) (x := x + 1) (a := f) (b := b) (k := i.toNat) (by omega)
          rw [show f + ((i.toNat : Nat) : Int) = f + i by omega] at this
          exact List.mem_of_getElem? this
        have hbi : dg ((kS k).getD i.toNat 0) = true := by
          refine List.all_eq_true.mp hkd _ ?_
          rw [List.getD_eq_getElem?_getD, List.getElem?_eq_getElem (show i.toNat < (kS k).length by rw [hl]; omega)]
          exact List.getElem_mem _
        have r1 := dg_iff.mp hdi
        have r2 := dg_iff.mp hbi
        rw [w32_id (x := m (x + 1) (f + i) - (kS k).getD i.toNat 0) (by omega) (by omega)]
        refine ⟨_, rfl, ⟨by simp only; omega, by simp only; omega, by simp only; omega, by simp only; omega, fun _ => hbf⟩, by simp only; omega, ?_⟩
        simp only
        rw [if_pos trivial, sl_cons (show f + i < b by omega), drop_cons (show i.toNat < (kS k).length by rw [hl]; omega), show f + i + 1 = f + (i + 1) by omega, show (i + 1).toNat = i.toNat + 1 by omega]
        show _ = if 0 < (if m (x + 1) (f + i) - (kS k).getD i.toNat 0 = 0 then lc (sl m (x + 1) (f + (i + 1)) b) ((kS k).drop (i.toNat + 1)) else m (x + 1) (f + i) - (kS k).getD i.toNat 0) then 0 else 1
        by_cases hz : m (x + 1) (f + i) - (kS k).getD i.toNat 0 = 0
        · rw [if_pos hz, if_pos hz]
        · rw [if_neg hz, if_neg hz]
      · right
        rw [if_neg hy, fin, if_neg hy]
        rfl
    · right
      rw [if_neg hi, fin]
      by_cases hy : y = 0
      · subst hy
        rw [if_pos rfl, show i.toNat = 19 by omega, List.drop_eq_nil_of_le (by rw [hl]; omega)]
        have : lc (sl m (x + 1) (f + i) b) [] = 0 := by
          cases sl m (x + 1) (f + i) b <;> rfl
        rw [this]
        rfl
      · rw [if_neg hy]
        rfl
theorem sl_empty {m : aM} {x a b : Int} : (sl m x a b).isEmpty = decide (b ≤ a) := by
  by_cases h : b ≤ a
  · rw [sl_nil h, decide_eq_true h]; rfl
  · rw [sl_cons (by omega), decide_eq_false h]; rfl
theorem mg16 : mg 0 (kS 16) = 9223372036854775807 := by decide
theorem mg17 : mg 0 (kS 17) = 9223372036854775808 := by decide
theorem c_isWhole_17 {m : aM} {x a b f : Int} (hc : ChR m x) (ha : 0 ≤ a) (hb : b ≤ m x 1) (haf : f = a ∨ f = a + 1) (hab : a ≤ b) : fC_isWhole_17 m x a b f = some (if wbody (decide (a < f)) (sl m (x + 1) f b) then 1 else 0) := by
  have h7 := hc.2.2
  have h6 := hc.2.1
  unfold fC_isWhole_17
  by_cases hfb : f < b
  · rw [if_pos hfb, at_eq hc, ca_in (by omega) (by omega), sl_cons hfb]
    simp only [Option.bind_some]
    by_cases h48 : m (x + 1) f = 48
    · rw [if_pos h48]
      show _ = some (if (if m (x + 1) f = 48 then (!decide (a < f) && (sl m (x + 1) (f + 1) b).isEmpty) else _) = true then 1 else 0)
      rw [if_pos h48, sl_empty, w32_id (x := a + 1) (by omega) (by omega)]
      by_cases hfa : f = a
      · rw [if_pos hfa]
        by_cases hba : b = a + 1
        · rw [if_pos hba, decide_eq_false (by omega), decide_eq_true (by omega)]; rfl
        · rw [if_neg hba, decide_eq_false (by omega), decide_eq_false (by omega)]; rfl
      · rw [if_neg hfa, decide_eq_true (show a < f by omega)]; rfl
    · rw [if_neg h48]
      show _ = some (if (if m (x + 1) f = 48 then _ else ((m (x + 1) f :: sl m (x + 1) (f + 1) b).all dg && decide (mg 0 (m (x + 1) f :: sl m (x + 1) (f + 1) b) ≤ if decide (a < f) = true then 9223372036854775808 else 9223372036854775807))) = true then 1 else 0)
      rw [if_neg h48, ← sl_cons hfb]
      unfold fC_isWhole_56
      refine (aLoop_eq (Inv := fun i : Int => f ≤ i ∧ i ≤ b ∧ (sl m (x + 1) f b).all dg = (sl m (x + 1) i b).all dg) (μ := fun i => (b - i).toNat) (F := fun i => if ((sl m (x + 1) f b).all dg && decide (mg 0 (sl m (x + 1) f b) ≤ if decide (a < f) = true then 9223372036854775808 else 9223372036854775807)) = true then 1 else 0) ?_ FU f ⟨by omega, by omega, rfl⟩ (by show (b - f).toNat < 1000000; omega)).trans rfl
      rintro i ⟨g1, g2, g3⟩
      unfold fC_isWhole_56_b
      simp only
      by_cases hi : i < b
      · rw [if_pos hi, at_eq hc, ca_in (by omega) (by omega)]
        simp only [Option.bind_some]
        rw [xDig, w32_id (x := i + 1) (by omega) (by omega)]
        rw [sl_cons hi, List.all_cons] at g3
        by_cases hd : dg (m (x + 1) i) = true
        · left
          rw [if_pos hd, if_neg (by decide)]
          rw [hd, Bool.true_and] at g3
          exact ⟨_, rfl, ⟨by omega, by omega, g3⟩, by omega, trivial⟩
        · right
          rw [if_neg hd, if_pos rfl]
          rw [Bool.not_eq_true] at hd
          rw [g3, hd]
          rfl
      · right
        rw [if_neg hi]
        rw [sl_nil (by omega : b ≤ i)] at g3
        have hall : (sl m (x + 1) f b).all dg = true := g3.trans rfl
        rw [hall, Bool.true_and]
        by_cases haf' : a < f
        · rw [if_pos haf', c_beyond hc (by omega) hfb hb (Or.inr rfl) hall h48, mg17, if_pos (decide_eq_true haf')]
          show some (Sum.inr _) = _
          congr 2
          by_cases hm : mg 0 (sl m (x + 1) f b) ≤ 9223372036854775808
          · rw [if_pos hm, if_pos (decide_eq_true hm)]
          · rw [if_neg hm, if_neg (by simpa using hm)]
        · rw [if_neg haf', c_beyond hc (by omega) hfb hb (Or.inl rfl) hall h48, mg16, if_neg (show ¬ decide (a < f) = true by simpa using haf')]
          show some (Sum.inr _) = _
          congr 2
          by_cases hm : mg 0 (sl m (x + 1) f b) ≤ 9223372036854775807
          · rw [if_pos hm, if_pos (decide_eq_true hm)]
          · rw [if_neg hm, if_neg (by simpa using hm)]
  · rw [if_neg hfb, sl_nil (by omega)]
    rfl
theorem wholeS_neg {r : List Int} : wholeS (45 :: r) = wbody true r := rfl
theorem wholeS_pos {s : List Int} (h : s.head? ≠ some 45) : wholeS s = wbody false s := by
  unfold wholeS
  rw [if_neg h]
theorem c_isWhole {m : aM} {x a b : Int} (hc : ChR m x) (ha : 0 ≤ a) (hab : a ≤ b) (hb : b ≤ m x 1) : fC_isWhole m x a b = some (if wholeS (sl m (x + 1) a b) then 1 else 0) := by
  have h7 := hc.2.2
  have h6 := hc.2.1
  unfold fC_isWhole
  rw [at_eq hc]
  simp only [Option.bind_some]
  by_cases hlt : a < b
  · rw [ca_in ha (by omega)]
    by_cases h45 : m (x + 1) a = 45
    · rw [if_pos h45, w32_id (by omega) (by omega), c_isWhole_17 hc ha hb (Or.inr rfl) hab, decide_eq_true (by omega), sl_cons hlt, h45, wholeS_neg]
    · rw [if_neg h45, c_isWhole_17 hc ha hb (Or.inl rfl) hab, decide_eq_false (by omega), wholeS_pos (by rw [sl_head hlt]; simpa using h45)]
  · have : a = b := by omega
    subst this
    rw [sl_nil (Int.le_refl a)]
    by_cases h45 : ca m x a = 45
    · rw [if_pos h45, w32_id (by omega) (by omega), c_isWhole_17 hc ha hb (Or.inr rfl) hab, sl_nil (by omega)]
      rfl
    · rw [if_neg h45, c_isWhole_17 hc ha hb (Or.inl rfl) hab, sl_nil (by omega)]
      rfl
