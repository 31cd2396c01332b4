/-! whole numbers and dates, as the reference reads them -/
/-- what is changed lies in P -/
def Fr (P : Int → Int → Prop) (m m' : aM) : Prop := ∀ y j, ¬ P y j → m' y j = m y j
theorem Fr.rf {P : Int → Int → Prop} {m : aM} : Fr P m m := fun _ _ _ => rfl
theorem Fr.tr {P : Int → Int → Prop} {m m1 m2 : aM} (h1 : Fr P m m1) (h2 : Fr P m1 m2) : Fr P m m2 := fun y j h => (h2 y j h).trans (h1 y j h)
theorem Fr.up {P : Int → Int → Prop} {m m1 : aM} {x i v : Int} (h1 : Fr P m m1) (h : P x i) : Fr P m (mup m1 x i v) := fun y j hn => by
  have : ¬ (y = x ∧ j = i) := fun e => hn (by rw [e.1, e.2]; exact h)
  exact (if_neg this).trans (h1 y j hn)
theorem Fr.wk {P Q : Int → Int → Prop} {m m1 : aM} (h1 : Fr P m m1) (h : ∀ y j, P y j → Q y j) : Fr Q m m1 := fun y j hn => h1 y j (fun hp => hn (h y j hp))
theorem mup_up {m : aM} {x i v w : Int} : mup (mup m x i v) x i w = mup m x i w := by
  funext y j
  show (if y = x ∧ j = i then w else if y = x ∧ j = i then v else m y j) = if y = x ∧ j = i then w else m y j
  by_cases h : y = x ∧ j = i
  · rw [if_pos h, if_pos h]
  · rw [if_neg h, if_neg h, if_neg h]
theorem mg_mono {s : List Int} {a : Int} (h : s.all dg = true) (ha : 0 ≤ a) : a ≤ mg a s := by
  induction s generalizing a with
  | nil => exact Int.le_refl _
  | cons c r ih =>
    rw [List.all_cons, Bool.and_eq_true] at h
    have := dg_iff.mp h.1
    have := ih (a := a * 10 + (c - 48)) h.2 (by omega)
    show a ≤ mg (a * 10 + (c - 48)) r
    omega
/-- the reference's loop over the digits, which it keeps below zero -/
theorem r_loop {m : aM} {b : Int} {neg : Int} (hb : b ≤ 600) : ∀ (n : Nat) (i v : Int), 0 ≤ i → i ≤ b → (b - i).toNat < n → 0 ≤ v → v ≤ 9223372036854775808 →
    aLoop (fM_isWhole_70_b m b neg) n (i, -v) = some (if (sl m 131 i b).all dg && decide (mg v (sl m 131 i b) ≤ 9223372036854775808) then (if neg = 0 then (if mg v (sl m 131 i b) = 9223372036854775808 then (0, m) else (1, mup m 130 20 (w64 (mg v (sl m 131 i b))))) else (1, mup m 130 20 (-(mg v (sl m 131 i b))))) else (0, m)) := by
  intro n
  induction n with
  | zero => intro i v _ _ h; omega
  | succ n ih =>
    intro i v h0 hib hn hv0 hv1
    by_cases hi : i < b
    · rw [sl_cons hi, List.all_cons]
      show aLoop _ (n + 1) (i, -v) = some (if (dg (m 131 i) && (sl m 131 (i + 1) b).all dg) && decide (mg (v * 10 + (m 131 i - 48)) (sl m 131 (i + 1) b) ≤ 9223372036854775808) then (if neg = 0 then (if mg (v * 10 + (m 131 i - 48)) (sl m 131 (i + 1) b) = 9223372036854775808 then (0, m) else (1, mup m 130 20 (w64 (mg (v * 10 + (m 131 i - 48)) (sl m 131 (i + 1) b))))) else (1, mup m 130 20 (-(mg (v * 10 + (m 131 i - 48)) (sl m 131 (i + 1) b))))) else (0, m))
      by_cases hd : dg (m 131 i) = true
      · have hr := dg_iff.mp hd
        have et : Int.tdiv (-9223372036854775808 + (m 131 i - 48)) 10 = -((9223372036854775808 - (m 131 i - 48)) / 10) := by
          rw [show -9223372036854775808 + (m 131 i - 48) = -(9223372036854775808 - (m 131 i - 48)) by omega, Int.neg_tdiv, Int.tdiv_eq_ediv_of_nonneg (by omega)]
        have estep : fM_isWhole_70_b m b neg (i, -v) = if -v < -((9223372036854775808 - (m 131 i - 48)) / 10) then some (Sum.inr (0, m)) else some (Sum.inl (i + 1, -(v * 10 + (m 131 i - 48)))) := by
          unfold fM_isWhole_70_b
          simp only
          rw [if_pos hi, gd_pos (by omega), mDig, if_pos hd, if_neg (by decide), w32_id (x := m 131 i - 48) (by omega) (by omega), w64_id (x := -9223372036854775808 + (m 131 i - 48)) (by omega) (by omega), et, w64_id (x := -((9223372036854775808 - (m 131 i - 48)) / 10)) (by omega) (by omega), w32_id (x := i + 1) (by omega) (by omega)]
          unfold cmp3
          by_cases hlt : -v < -((9223372036854775808 - (m 131 i - 48)) / 10)
          · rw [if_pos hlt, if_pos (by decide), if_pos hlt]
          · rw [if_neg hlt, if_neg hlt]
            have e1 : ¬ (if -v = -((9223372036854775808 - (m 131 i - 48)) / 10) then (0 : Int) else 1) < 0 := by split <;> decide
            rw [if_neg e1, w64_id (x := 10 * -v) (by omega) (by omega), w64_id (x := 10 * -v - (m 131 i - 48)) (by omega) (by omega)]
            congr 3
            omega
        rw [hd, Bool.true_and]
        by_cases hlt : -v < -((9223372036854775808 - (m 131 i - 48)) / 10)
        · rw [if_pos hlt] at estep
          rw [aL_end estep]
          by_cases hall : (sl m 131 (i + 1) b).all dg = true
          · have := mg_mono (a := v * 10 + (m 131 i - 48)) hall (by omega)
            rw [hall, Bool.true_and, if_neg (by simp; omega)]
          · rw [Bool.not_eq_true] at hall
            rw [hall, Bool.false_and]
            rfl
        · rw [if_neg hlt] at estep
          rw [aL_go estep, ih (i + 1) (v * 10 + (m 131 i - 48)) (by omega) (by omega) (by omega) (by omega) (by omega)]
      · have estep : fM_isWhole_70_b m b neg (i, -v) = some (Sum.inr (0, m)) := by
          unfold fM_isWhole_70_b
          simp only
          rw [if_pos hi, gd_pos (by omega), mDig, if_neg hd, if_pos rfl]
        rw [Bool.not_eq_true] at hd
        rw [aL_end estep, hd, Bool.false_and, Bool.false_and]
        rfl
    · rw [sl_nil (by omega)]
      show _ = some (if (true && decide (v ≤ 9223372036854775808)) = true then (if neg = 0 then (if v = 9223372036854775808 then (0, m) else (1, mup m 130 20 (w64 v))) else (1, mup m 130 20 (-v))) else (0, m))
      rw [Bool.true_and, if_pos (decide_eq_true hv1)]
      refine aL_end ?_
      unfold fM_isWhole_70_b
      simp only
      rw [if_neg hi]
      by_cases hn0 : neg = 0
      · rw [if_pos hn0, if_pos hn0]
        unfold cmp3
        by_cases he : v = 9223372036854775808
        · subst he
          rfl
        · rw [if_neg (show ¬ -v < -9223372036854775808 by omega), if_neg (show ¬ -v = -9223372036854775808 by omega), if_neg (by decide), if_neg he]
          unfold fM_isWhole_153
          rw [if_pos hn0, Int.neg_neg]
          rfl
      · rw [if_neg hn0, if_neg hn0]
        unfold fM_isWhole_153
        rw [if_neg hn0]
        rfl
theorem valS_neg {r : List Int} (h : r.all dg = true) : valS (45 :: r) = -(mg 0 r) := by
  show nv (if dg 45 then _ else 0) r = _
  rw [if_neg (by decide)]
  exact nv_mg (a := 0) h
theorem wbody_dg {neg : Bool} {r : List Int} (h : wbody neg r = true) : r.all dg = true ∧ mg 0 r ≤ (if neg then 9223372036854775808 else 9223372036854775807) := by
  cases r with
  | nil => cases h
  | cons c t =>
    unfold wbody at h
    by_cases hc : c = 48
    · simp only [if_pos hc, Bool.and_eq_true] at h
      have ht : t = [] := by cases t with | nil => rfl | cons _ _ => exact absurd h.2 (by simp)
      subst hc ht
      cases neg <;> decide
    · simp only [if_neg hc, Bool.and_eq_true, decide_eq_true_eq] at h
      exact h
theorem r_isWhole {m : aM} {a b : Int} (ha : 0 ≤ a) (hab : a ≤ b) (hb : b ≤ 600) : fM_isWhole m a b = some (if wholeS (sl m 131 a b) then (1, mup m 130 20 (valS (sl m 131 a b))) else (0, m)) := by
  have h33 (neg f : Int) (hn : neg = 0 ∨ neg = 1) (hf : f = a ∨ f = a + 1) : fM_isWhole_33 m b neg f = some (if wbody (decide (neg = 1)) (sl m 131 f b) then (1, mup m 130 20 (if neg = 1 then -(mg 0 (sl m 131 f b)) else mg 0 (sl m 131 f b))) else (0, m)) := by
    unfold fM_isWhole_33
    by_cases hfb : f < b
    · have lp := r_loop (m := m) (b := b) (neg := neg) hb FU f 0 (by omega) (by omega) (by show (b - f).toNat < 1000000; omega) (by decide) (by decide)
      rw [Int.neg_zero] at lp
      have h70 : fM_isWhole_70 m b neg f 0 = some (if (sl m 131 f b).all dg && decide (mg 0 (sl m 131 f b) ≤ (if neg = 1 then 9223372036854775808 else 9223372036854775807)) then (1, mup m 130 20 (if neg = 1 then -(mg 0 (sl m 131 f b)) else mg 0 (sl m 131 f b))) else (0, m)) := by
        unfold fM_isWhole_70
        rw [lp]
        congr 1
        by_cases hall : (sl m 131 f b).all dg = true
        · have hr := mg_rng hall
          rw [hall, Bool.true_and, Bool.true_and]
          rcases hn with hn | hn
          · subst hn
            rw [if_neg (show ¬ (0 : Int) = 1 by decide), if_neg (show ¬ (0 : Int) = 1 by decide), if_pos (show (0 : Int) = 0 from rfl)]
            by_cases h1 : mg 0 (sl m 131 f b) ≤ 9223372036854775807
            · rw [if_pos (decide_eq_true (by omega)), if_neg (by omega), if_pos (decide_eq_true h1), w64_id (by omega) (by omega)]
            · rw [if_neg (show ¬ decide (mg 0 (sl m 131 f b) ≤ 9223372036854775807) = true by simp; omega)]
              by_cases h2 : mg 0 (sl m 131 f b) ≤ 9223372036854775808
              · rw [if_pos (decide_eq_true h2), if_pos (by omega)]
              · rw [if_neg (by simp; omega)]
          · subst hn
            rw [if_pos (show (1 : Int) = 1 from rfl), if_pos (show (1 : Int) = 1 from rfl), if_neg (show ¬ (1 : Int) = 0 by decide)]
        · rw [Bool.not_eq_true] at hall
          rw [hall, Bool.false_and, Bool.false_and]
          rfl
      rw [if_pos hfb, gd_pos (by omega), h70]
      by_cases h48 : m 131 f = 48
      · rw [if_pos h48, w32_id (x := b - f) (by omega) (by omega), sl_cons hfb]
        show _ = some (if (if m 131 f = 48 then (!decide (neg = 1) && (sl m 131 (f + 1) b).isEmpty) else _) = true then _ else _)
        rw [if_pos h48, sl_empty]
        rcases hn with hn | hn
        · subst hn
          rw [if_pos rfl]
          by_cases hl : 1 < b - f
          · rw [if_pos hl, decide_eq_false (show ¬ b ≤ f + 1 by omega)]
            rfl
          · rw [if_neg hl, decide_eq_true (show b ≤ f + 1 by omega), sl_nil (show b ≤ f + 1 by omega), h48]
            rfl
        · subst hn
          rw [if_neg (by decide)]
          rfl
      · rw [if_neg h48, sl_cons hfb]
        show _ = some (if (if m 131 f = 48 then _ else ((m 131 f :: sl m 131 (f + 1) b).all dg && decide (mg 0 (m 131 f :: sl m 131 (f + 1) b) ≤ if decide (neg = 1) = true then 9223372036854775808 else 9223372036854775807))) = true then _ else _)
        rw [if_neg h48]
        congr 2
        rcases hn with hn | hn <;> subst hn <;> rfl
    · rw [if_neg hfb, sl_nil (by omega)]
      rfl
  unfold fM_isWhole
  by_cases hlt : a < b
  · rw [if_pos hlt, gd_pos (by omega)]
    by_cases h45 : m 131 a = 45
    · rw [if_pos h45]
      unfold fM_isWhole_21
      rw [if_neg (by decide), w32_id (by omega) (by omega), h33 1 (a + 1) (Or.inr rfl) (Or.inr rfl), sl_cons hlt, h45, wholeS_neg]
      congr 1
      show (if wbody true (sl m 131 (a + 1) b) = true then ((1 : Int), mup m 130 20 (-mg 0 (sl m 131 (a + 1) b))) else (0, m)) = _
      by_cases hw : wbody true (sl m 131 (a + 1) b) = true
      · rw [if_pos hw, if_pos hw, valS_neg (wbody_dg hw).1]
      · rw [if_neg hw, if_neg hw]
    · rw [if_neg h45]
      unfold fM_isWhole_21
      have hh : (sl m 131 a b).head? ≠ some 45 := by rw [sl_head hlt]; simpa using h45
      rw [if_pos rfl, h33 0 a (Or.inl rfl) (Or.inl rfl), wholeS_pos hh]
      congr 1
      show (if wbody false (sl m 131 a b) = true then ((1 : Int), mup m 130 20 (mg 0 (sl m 131 a b))) else (0, m)) = _
      by_cases hw : wbody false (sl m 131 a b) = true
      · rw [if_pos hw, if_pos hw, valS_dg (wbody_dg hw).1 (wbody_dg hw).2]
      · rw [if_neg hw, if_neg hw]
  · rw [if_neg hlt]
    unfold fM_isWhole_21
    rw [if_pos rfl, h33 0 a (Or.inl rfl) (Or.inl rfl), sl_nil (by omega)]
    rfl
/-- characters as the texts hold them -/
def chOK (c : Int) : Prop := 0 ≤ c ∧ c ≤ 255
theorem r_digits {m : aM} {a n : Int} (ha : 0 ≤ a) (hn : 1 ≤ n ∧ n ≤ 4) (hb : a + n ≤ 600) (hch : ∀ j, a ≤ j → j < a + n → chOK (m 131 j)) (hg : m 130 19 = 0 ∨ m 130 19 = 1) : fM_digits m a n = some (mg 0 (sl m 131 a (a + n)), mup m 130 19 (if m 130 19 = 1 ∧ (sl m 131 a (a + n)).all dg = true then 1 else 0)) := by
  unfold fM_digits fM_digits_5
  have key : ∀ (k : Nat) (q : aM) (v i g : Int), q = mup m 130 19 g → (g = 0 ∨ g = 1) → a ≤ i → i ≤ a + n → (a + n - i).toNat < k → (i - a = 0 → v = 0) → (i - a = 1 → -48 ≤ v ∧ v ≤ 207) → (i - a = 2 → -528 ≤ v ∧ v ≤ 2277) → (i - a = 3 → -5328 ≤ v ∧ v ≤ 22977) → aLoop (fM_digits_5_b a n) k (q, v, i) = some (mg v (sl m 131 i (a + n)), mup m 130 19 (if g = 1 ∧ (sl m 131 i (a + n)).all dg = true then 1 else 0)) := by
    intro k
    induction k with
    | zero => intro q v i g _ _ _ _ h; omega
    | succ k ih =>
      intro q v i g hq hg1 h1 h2 h3 v0 v1 v2 v3
      have e131 : q 131 i = m 131 i := by rw [hq]; exact mup_ref (by decide)
      have e19 : q 130 19 = g := by rw [hq]; exact mup_same _ _ _ _
      by_cases hi : i < a + n
      · have hc := hch i h1 hi
        have hc' : 0 ≤ m 131 i ∧ m 131 i ≤ 255 := hc
        have step (s1 : Int) (hs : s1 = 0 ∨ s1 = 1) : fM_digits_39 q a n v i s1 = some (Sum.inl (mup q 130 19 s1, v * 10 + (m 131 i - 48), i + 1)) := by
          unfold fM_digits_39
          rw [gd_pos hs, gd_pos (by omega), e131]
          have hvv : -5328 ≤ v ∧ v ≤ 22977 := by
            have : i - a = 0 ∨ i - a = 1 ∨ i - a = 2 ∨ i - a = 3 := by omega
            rcases this with h | h | h | h
            · have := v0 h; omega
            · have := v1 h; omega
            · have := v2 h; omega
            · exact v3 h
          rw [w32_id (x := 10 * v) (by omega) (by omega), w32_id (x := 10 * v + m 131 i) (by omega) (by omega), w32_id (x := 10 * v + m 131 i - 48) (by omega) (by omega), w32_id (x := i + 1) (by omega) (by omega), show 10 * v + m 131 i - 48 = v * 10 + (m 131 i - 48) by omega]
        have body : fM_digits_5_b a n (q, v, i) = some (Sum.inl (mup q 130 19 (if g = 1 ∧ dg (m 131 i) = true then 1 else 0), v * 10 + (m 131 i - 48), i + 1)) := by
          unfold fM_digits_5_b
          simp only
          rw [w32_id (x := a + n) (by omega) (by omega), if_pos hi, e19, e131, mDig]
          rcases hg1 with hg1 | hg1
          · subst hg1
            rw [if_pos rfl, step 0 (Or.inl rfl), if_neg (show ¬ ((0 : Int) = 1 ∧ dg (m 131 i) = true) from fun h => absurd h.1 (by decide))]
          · subst hg1
            rw [if_neg (by decide), gd_pos (by omega)]
            by_cases hd : dg (m 131 i) = true
            · rw [if_pos hd, if_neg (by decide), step 1 (Or.inr rfl), if_pos ⟨rfl, hd⟩]
            · rw [if_neg hd, if_pos rfl, step 0 (Or.inl rfl), if_neg (fun h => hd h.2)]
        rw [aL_go body, sl_cons hi]
        rw [ih _ _ (i + 1) (if g = 1 ∧ dg (m 131 i) = true then 1 else 0) (by rw [hq, mup_up]) (by split <;> simp) (by omega) (by omega) (by omega) (by omega) (by intro h; have := v0 (by omega); omega) (by intro h; have := v1 (by omega); omega) (by intro h; have := v2 (by omega); omega)]
        congr 2
        rw [List.all_cons]
        by_cases hg2 : g = 1
        · by_cases hd : dg (m 131 i) = true
          · rw [if_pos (show g = 1 ∧ dg (m 131 i) = true from ⟨hg2, hd⟩), hd, Bool.true_and]
            by_cases hr : (sl m 131 (i + 1) (a + n)).all dg = true
            · rw [if_pos ⟨rfl, hr⟩, if_pos ⟨hg2, hr⟩]
            · rw [if_neg (fun h => hr h.2), if_neg (fun h => hr h.2)]
          · rw [if_neg (show ¬ (g = 1 ∧ dg (m 131 i) = true) from fun h => hd h.2), if_neg (fun h => absurd h.1 (by decide)), if_neg (fun h => hd (by have := h.2; rw [Bool.and_eq_true] at this; exact this.1))]
        · rw [if_neg (show ¬ (g = 1 ∧ dg (m 131 i) = true) from fun h => hg2 h.1), if_neg (fun h => absurd h.1 (by decide)), if_neg (fun h => hg2 h.1)]
      · have hie : i = a + n := by omega
        have body : fM_digits_5_b a n (q, v, i) = some (Sum.inr (v, q)) := by
          unfold fM_digits_5_b
          simp only
          rw [w32_id (x := a + n) (by omega) (by omega), if_neg hi]
        rw [aL_end body, sl_nil (by omega), hq]
        show some (v, mup m 130 19 g) = some (v, mup m 130 19 (if g = 1 ∧ true = true then 1 else 0))
        rcases hg1 with hg1 | hg1 <;> subst hg1 <;> rfl
  have e0 : m = mup m 130 19 (m 130 19) := by
    funext y j
    show _ = if y = 130 ∧ j = 19 then m 130 19 else m y j
    by_cases h : y = 130 ∧ j = 19
    · rw [if_pos h, h.1, h.2]
    · rw [if_neg h]
  exact key FU m 0 a (m 130 19) e0 hg (by omega) (by omega) (by show (a + n - a).toNat < 1000000; omega) (fun _ => rfl) (by omega) (by omega) (by omega)
