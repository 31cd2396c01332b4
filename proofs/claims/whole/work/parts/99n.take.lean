/-! LOAD: the class's table -/
/-- each mark once -/
def un : List Int → List Int
  | [] => []
  | [c] => [c]
  | c :: d :: r => c :: (if c = 34 then un r else un (d :: r))
theorem un_cons {c : Int} {r : List Int} : un (c :: r) = c :: un (if c = 34 then r.tail else r) := by
  cases r with
  | nil => show [c] = c :: un (if c = 34 then [] else []); split <;> rfl
  | cons d r =>
    show c :: (if c = 34 then un r else un (d :: r)) = c :: un (if c = 34 then r else d :: r)
    by_cases h : c = 34
    · rw [if_pos h, if_pos h]
    · rw [if_neg h, if_neg h]
theorem un_plain {s : List Int} (h : ∀ c ∈ s, c ≠ 34) : un s = s := by
  induction s with
  | nil => rfl
  | cons c r ih => rw [un_cons, if_neg (h c List.mem_cons_self), ih (fun c hc => h c (List.mem_cons_of_mem _ hc))]
theorem un_spec : ∀ (k : Nat) (s : List Int), s.length ≤ k → (un s).length ≤ s.length ∧ Lw (un s) ≤ (s.length : Int) + 1 ∧ ∀ c ∈ un s, c ∈ s := by
  intro k
  induction k with
  | zero =>
    intro s hs
    have : s = [] := List.length_eq_zero_iff.mp (by omega)
    subst this
    exact ⟨Nat.le_refl _, by decide, fun c hc => hc⟩
  | succ k ih =>
    intro s hs
    cases s with
    | nil => exact ⟨Nat.le_refl _, by decide, fun c hc => hc⟩
    | cons c r =>
      rw [List.length_cons] at hs
      rw [un_cons]
      by_cases h : c = 34
      · rw [if_pos h]
        cases r with
        | nil =>
          subst h
          exact ⟨by decide, by decide, fun c hc => hc⟩
        | cons d r =>
          rw [List.tail_cons]
          rw [List.length_cons] at hs
          obtain ⟨a1, a2, a3⟩ := ih r (by omega)
          refine ⟨?_, ?_, ?_⟩
          · rw [List.length_cons, List.length_cons, List.length_cons]; omega
          · unfold Lw at a2 ⊢
            rw [List.length_cons, List.length_cons, List.length_cons, List.count_cons, if_pos (by simp [h])]
            omega
          · intro x hx
            rcases List.mem_cons.mp hx with rfl | hx
            · exact List.mem_cons_self
            · exact List.mem_cons_of_mem _ (List.mem_cons_of_mem _ (a3 x hx))
      · rw [if_neg h]
        obtain ⟨a1, a2, a3⟩ := ih r (by omega)
        refine ⟨?_, ?_, ?_⟩
        · rw [List.length_cons, List.length_cons]; omega
        · unfold Lw at a2 ⊢
          rw [List.length_cons, List.length_cons, List.count_cons, if_neg (by simpa using h)]
          omega
        · intro x hx
          rcases List.mem_cons.mp hx with rfl | hx
          · exact List.mem_cons_self
          · exact List.mem_cons_of_mem _ (a3 x hx)
def oT : wO := (13, 1, 14, 240, fun _ _ => False)
theorem AgT.row {m0 m : aM} (h : Ag oT m0 m) (y : Int) (h1 : y ≠ 13) (h2 : y ≠ 14) : m y = m0 y := by
  funext j
  exact h y j (fun e => h1 e.1) h2 (fun e => e)
theorem wT_add {m : aM} {c : Int} (h0 : 0 ≤ m 13 1) (h1 : m 13 1 + 1 ≤ 240) (hc : 0 ≤ c ∧ c ≤ 255) : ∃ m', fC_add m 13 c = some m' ∧ App oT m m' [c] := by
  refine ⟨_, c_add (m := m) (x := 13) (c := c) h0 (show m 13 1 < 240 by omega) (by decide) hc, ?_⟩
  refine ⟨?_, fun j hj => ?_, fun i hi => ?_, fun y j a b _ => ?_⟩
  · show mup (mup m 14 (m 13 1) c) 13 1 (m 13 1 + 1) 13 1 = m 13 1 + 1
    exact mup_same _ _ _ _
  · have hj : j < m 13 1 := hj
    show mup (mup m 14 (m 13 1) c) 13 1 (m 13 1 + 1) 14 j = m 14 j
    rw [mup_ref (by decide), mup_idx (by omega)]
  · have hi : i < 1 := hi
    obtain rfl : i = 0 := by omega
    show mup (mup m 14 (m 13 1) c) 13 1 (m 13 1 + 1) 14 (m 13 1 + ((0 : Nat) : Int)) = c
    rw [mup_ref (by decide), show m 13 1 + ((0 : Nat) : Int) = m 13 1 by omega, mup_same]
  · have a : ¬ (y = 13 ∧ j = 1) := a
    have b : y ≠ 14 := b
    show mup (mup m 14 (m 13 1) c) 13 1 (m 13 1 + 1) y j = m y j
    exact (if_neg a).trans (mup_ref b)
theorem AgT.tx {m m' : aM} {t : Int → Int} {n : Int} (h : Ag oT m m') (hc : CTx m t n) : CTx m' t n := by
  obtain ⟨e1, e2, e3⟩ := hc
  refine ⟨by rw [AgT.row h 2 (by decide) (by decide)]; exact e1, fun i h0 h1 => ?_, e3⟩
  rw [AgT.row h 3 (by decide) (by decide)]
  exact e2 i h0 h1
theorem c_undouble {t : Int → Int} {n b : Int} (ht : ∀ i, 0 ≤ i → i < n → okT (t i)) (hb : b ≤ n) : ∀ (j : Nat) (a : Int) (m : aM) (f : Nat), CTx m t n → 0 ≤ a → a ≤ b + 1 → (b - a).toNat < j → (b - a).toNat < f → 0 ≤ m 13 1 → m 13 1 + ((un (sl (fun _ => t) 0 a b)).length : Int) ≤ 240 → ∃ m', aLoop (fT_addUndoubled_3_b 2 b) f (m, a) = some m' ∧ App oT m m' (un (sl (fun _ => t) 0 a b)) := by
  intro j
  induction j with
  | zero => intro a m f _ _ _ hj; omega
  | succ j ih =>
    intro a m f hC h0 hab hj hf hm hr
    obtain ⟨f, rfl⟩ : ∃ g, f = g + 1 := ⟨f - 1, by omega⟩
    have hn := hC.2.2.2
    by_cases hlt : a < b
    · rw [sl_cons hlt, un_cons] at hr ⊢
      rw [List.length_cons] at hr
      have hch := (ht a h0 (by omega)).ch
      obtain ⟨m1, e1, p1⟩ := wT_add (m := m) (c := t a) hm (by omega) hch
      have hC1 := AgT.tx p1.2.2.2 hC
      have q1 : m1 13 1 = m 13 1 + 1 := p1.1
      have eb (w : Int) (hw : w = if t a = 34 then a + 2 else a + 1) : fT_addUndoubled_3_b 2 b (m, a) = some (Sum.inl (m1, w)) := by
        unfold fT_addUndoubled_3_b
        simp only
        rw [if_pos hlt, hC.at h0 (by omega)]
        simp only [Option.bind_some]
        rw [e1]
        simp only [Option.bind_some]
        rw [hC1.at h0 (by omega)]
        simp only [Option.bind_some]
        rw [w32_id (x := a + 2) (by omega) (by omega), w32_id (x := a + 1) (by omega) (by omega), hw]
        split <;> rfl
      by_cases h34 : t a = 34
      · have et : (sl (fun _ => t) 0 (a + 1) b).tail = sl (fun _ => t) 0 (a + 2) b := by
          by_cases hl2 : a + 1 < b
          · rw [sl_cons hl2, List.tail_cons, show a + 1 + 1 = a + 2 by omega]
          · rw [sl_nil (by omega), sl_nil (by omega)]; rfl
        rw [if_pos h34, et] at hr ⊢
        obtain ⟨m2, e2, p2⟩ := ih (a + 2) m1 f hC1 (by omega) (by omega) (by omega) (by omega) (by omega) (by omega)
        exact ⟨m2, (aL_go (eb (a + 2) (by rw [if_pos h34]))).trans e2, p1.app p2⟩
      · rw [if_neg h34] at hr ⊢
        obtain ⟨m2, e2, p2⟩ := ih (a + 1) m1 f hC1 (by omega) (by omega) (by omega) (by omega) (by omega) (by omega)
        exact ⟨m2, (aL_go (eb (a + 1) (by rw [if_neg h34]))).trans e2, p1.app p2⟩
    · rw [sl_nil (by omega)]
      refine ⟨m, aL_end ?_, App.nil⟩
      unfold fT_addUndoubled_3_b
      simp only
      rw [if_neg hlt]
/-- what an appended list is as a stretch -/
theorem App.sl {m m' : aM} {l : List Int} (h : App oT m m' l) : sl m' 14 (m 13 1) (m' 13 1) = l := by
  obtain ⟨a, b, c, d⟩ := h
  have a : m' 13 1 = m 13 1 + (l.length : Int) := a
  have c : ∀ i : Nat, i < l.length → m' 14 (m 13 1 + (i : Int)) = l.getD i 0 := c
  apply List.ext_getElem?
  intro i
  by_cases hi : i < l.length
  · rw [sl_at (by omega), c i hi, List.getD_eq_getElem?_getD, List.getElem?_eq_getElem hi]
    rfl
  · rw [List.getElem?_eq_none (by rw [sl_len]; omega), List.getElem?_eq_none (by omega)]
/-- the fields that the table has taken -/
def TkI (t : Int → Int) (L : List (List tF)) (m : aM) (k : Int) : Prop := ∀ i, 0 ≤ i → i < k → 0 ≤ m 15 i ∧ m 15 i ≤ m 16 i ∧ m 16 i ≤ m 13 1 ∧ sl m 14 (m 15 i) (m 16 i) = un (rawT t (gF L i)) ∧ m 17 i = (gF L i).2.2 ∧ m 18 i = shapeS (un (rawT t (gF L i))) ∧ m 19 i = (if shapeS (un (rawT t (gF L i))) = 3 then 0 else valS (un (rawT t (gF L i))))
/-- only the table's rows -/
def FrT (m m' : aM) : Prop := (∀ y, y ≠ 12 → y ≠ 13 → y ≠ 14 → y ≠ 15 → y ≠ 16 → y ≠ 17 → y ≠ 18 → y ≠ 19 → y ≠ 20 → m' y = m y)
theorem wsum_take {t : Int → Int} {n : Int} : ∀ (l : List tF) (k : Nat), fOk t n l → wsum (l.take k) ≤ wsum l := by
  intro l
  induction l with
  | nil => intro k _; rw [List.take_nil]; exact Int.le_refl _
  | cons x r ih =>
    intro k h
    have hx := h x List.mem_cons_self
    have hr : fOk t n r := fun y hy => h y (List.mem_cons_of_mem _ hy)
    cases k with
    | zero =>
      show (0 : Int) ≤ fwt x + wsum r
      have := fOk_w hr
      unfold fwt
      omega
    | succ k =>
      show fwt x + wsum (r.take k) ≤ fwt x + wsum r
      have := ih k hr
      omega
theorem wsum_step {L : List (List tF)} {k : Int} (h0 : 0 ≤ k) (h1 : k < (L.flatten.length : Int)) : wsum (L.flatten.take (k.toNat + 1)) = wsum (L.flatten.take k.toNat) + fwt (gF L k) := by
  rw [List.take_succ_eq_append_getElem (show k.toNat < L.flatten.length by omega), wsum_app]
  have e : (L.flatten)[k.toNat]'(show k.toNat < L.flatten.length by omega) = gF L k := by
    have := gF_get h0 h1
    rw [List.getElem?_eq_getElem (show k.toNat < L.flatten.length by omega)] at this
    exact Option.some.inj this
  rw [e]
  show _ + (fwt (gF L k) + 0) = _
  omega
theorem valS_nv {s : List Int} (h : shapeS s ≠ 3) : -9223372036854775808 ≤ nv 0 s := by
  unfold shapeS at h
  by_cases hw : wholeS s = true
  · exact (whole_val hw).1
  · rw [if_neg hw] at h
    by_cases hd : dateS s = true
    · unfold dateS at hd
      split at hd
      · rename_i a b c d hh e f g i j
        simp only [Bool.and_eq_true, decide_eq_true_iff, List.all_cons, List.all_nil, Bool.and_true] at hd
        obtain ⟨⟨⟨h1, h2⟩, d1, d2, d3, d4, d5, d6, d7, d8⟩, -⟩ := hd
        have z1 := dg_iff.mp d1
        have z2 := dg_iff.mp d2
        have z3 := dg_iff.mp d3
        have z4 := dg_iff.mp d4
        have z5 := dg_iff.mp d5
        have z6 := dg_iff.mp d6
        have z7 := dg_iff.mp d7
        have z8 := dg_iff.mp d8
        subst h1 h2
        simp only [nv, d1, d2, d3, d4, d5, d6, d7, d8, if_true, show dg 45 = false from rfl, Bool.false_eq_true, if_false]
        omega
      · cases hd
    · rw [if_neg hd] at h
      exact absurd rfl h
theorem c_take_loop {t : Int → Int} {n : Int} {L : List (List tF)} {m0 : aM} {N : Int} (ht : ∀ i, 0 ≤ i → i < n → okT (t i)) (hC : CTx m0 t n) (ci : cRI m0 L []) (hok : fOk t n L.flatten) (hw : wsum L.flatten ≤ n + 1) (hN : N = (L.flatten.length : Int)) (hN2 : N ≤ 102) (h13 : m0 13 1 = 0) : ∃ m', fT_take_38 m0 2 0 = fT_take_179 m' 0 ∧ TkI t L m' N ∧ ChK m' 13 ∧ FrT m0 m' ∧ m' 12 = m0 12 ∧ m' 20 = m0 20 := by
  have hn := hC.2.2.2
  have hn0 := hC.2.2.1
  have key : ∀ (k : Nat) (i : Int) (m : aM) (f : Nat), 0 ≤ i → i + (k : Int) = N → k < f → TkI t L m i → ChK m 13 → FrT m0 m → m 12 = m0 12 → m 20 = m0 20 → m 13 1 + i ≤ wsum (L.flatten.take i.toNat) → ∃ m', aLoop (fT_take_38_b 2) f (m, i) = fT_take_179 m' 0 ∧ TkI t L m' N ∧ ChK m' 13 ∧ FrT m0 m' ∧ m' 12 = m0 12 ∧ m' 20 = m0 20 := by
    intro k
    induction k with
    | zero =>
      intro i m f h0 hi hf tk hK fr e12 e20 hs
      obtain ⟨f, rfl⟩ : ∃ g, f = g + 1 := ⟨f - 1, by omega⟩
      have hiN : i = N := by omega
      subst hiN
      refine ⟨m, ?_, tk, hK, fr, e12, e20⟩
      have e83 : m 8 3 = i := by
        rw [fr 8 (by decide) (by decide) (by decide) (by decide) (by decide) (by decide) (by decide) (by decide) (by decide), ci.1, List.append_nil, hN]
      have eb : fT_take_38_b 2 (m, i) = (fT_take_179 m 0).map Sum.inr := by
        unfold fT_take_38_b
        simp only
        rw [e83, if_neg (by omega)]
      cases hp : fT_take_179 m 0 with
      | none =>
        rw [hp] at eb
        unfold aLoop
        rw [eb]
        rfl
      | some v =>
        rw [hp] at eb
        exact aL_end eb
    | succ k ih =>
      intro i m f h0 hi hf tk hK fr e12 e20 hs
      obtain ⟨f, rfl⟩ : ∃ g, f = g + 1 := ⟨f - 1, by omega⟩
      have rw0 (y : Int) (h12 : y ≠ 12) (h13 : y ≠ 13) (h14 : y ≠ 14) (h15 : y ≠ 15) (h16 : y ≠ 16) (h17 : y ≠ 17) (h18 : y ≠ 18) (h19 : y ≠ 19) (h20 : y ≠ 20) : m y = m0 y := fr y h12 h13 h14 h15 h16 h17 h18 h19 h20
      have e8 : m 8 = m0 8 := rw0 8 (by decide) (by decide) (by decide) (by decide) (by decide) (by decide) (by decide) (by decide) (by decide)
      have e9 : m 9 = m0 9 := rw0 9 (by decide) (by decide) (by decide) (by decide) (by decide) (by decide) (by decide) (by decide) (by decide)
      have e10 : m 10 = m0 10 := rw0 10 (by decide) (by decide) (by decide) (by decide) (by decide) (by decide) (by decide) (by decide) (by decide)
      have e11 : m 11 = m0 11 := rw0 11 (by decide) (by decide) (by decide) (by decide) (by decide) (by decide) (by decide) (by decide) (by decide)
      have e2 : m 2 = m0 2 := rw0 2 (by decide) (by decide) (by decide) (by decide) (by decide) (by decide) (by decide) (by decide) (by decide)
      have e3 : m 3 = m0 3 := rw0 3 (by decide) (by decide) (by decide) (by decide) (by decide) (by decide) (by decide) (by decide) (by decide)
      have e83 : m 8 3 = N := by rw [e8, ci.1, List.append_nil, hN]
      have hCm : CTx m t n := by
        obtain ⟨c1, c2, c3⟩ := hC
        exact ⟨by rw [e2]; exact c1, by rw [e3]; exact c2, c3⟩
      have oi := gF_ok hok h0 (show i < (L.flatten.length : Int) by omega)
      have ci9 := cF ci h0 (show i < (L.flatten.length : Int) by omega) (by omega)
      have hraw : rawT t (gF L i) = sl (fun _ => t) 0 (gF L i).1 (gF L i).2.1 := rfl
      have hrl := raw_len (t := t) oi.2.1
      have hus := un_spec _ (rawT t (gF L i)) (Nat.le_refl _)
      have hst := wsum_step h0 (show i < (L.flatten.length : Int) by omega)
      have htk := wsum_take L.flatten (i.toNat + 1) hok
      have hfw : fwt (gF L i) = (gF L i).2.1 - (gF L i).1 + 1 + 2 * (gF L i).2.2 := rfl
      have hq2 := oi.2.2.2.1
      have hroom : m 13 1 + ((un (rawT t (gF L i))).length : Int) ≤ 240 := by omega
      -- the first write
      obtain ⟨ma, hma⟩ : ∃ ma, ma = mup m 15 i (m 13 1) := ⟨_, rfl⟩
      have rma (y : Int) (hy : y ≠ 15) : ma y = m y := by rw [hma]; funext j; exact mup_ref hy
      have hCa : CTx ma t n := by
        obtain ⟨c1, c2, c3⟩ := hCm
        exact ⟨by rw [rma 2 (by decide)]; exact c1, by rw [rma 3 (by decide)]; exact c2, c3⟩
      obtain ⟨mb, eb1, pb⟩ := c_undouble ht oi.2.2.1 (((gF L i).2.1 - (gF L i).1).toNat + 1) (gF L i).1 ma FU hCa oi.1 (by omega) (by omega) (by show _ < 1000000; omega) (by rw [rma 13 (by decide)]; exact hK.1.1) (by rw [rma 13 (by decide), ← hraw]; exact hroom)
      rw [← hraw] at pb
      have eund : fT_addUndoubled ma 2 (m 9 i) (m 10 i) = some mb := by
        unfold fT_addUndoubled fT_addUndoubled_3
        rw [e9, e10, ci9.1, ci9.2.1]
        exact eb1
      have b13 : mb 13 1 = m 13 1 + ((un (rawT t (gF L i))).length : Int) := by
        have := pb.1
        have this : mb 13 1 = ma 13 1 + ((un (rawT t (gF L i))).length : Int) := this
        rw [rma 13 (by decide)] at this
        exact this
      have bsl : sl mb 14 (m 13 1) (mb 13 1) = un (rawT t (gF L i)) := by
        have := pb.sl
        rw [rma 13 (by decide)] at this
        exact this
      have rmb (y : Int) (h13 : y ≠ 13) (h14 : y ≠ 14) : mb y = ma y := AgT.row pb.2.2.2 y h13 h14
      have b15 : mb 15 i = m 13 1 := by rw [rmb 15 (by decide) (by decide), hma, mup_same]
      have b11 : mb 11 i = (gF L i).2.2 := by rw [rmb 11 (by decide) (by decide), rma 11 (by decide), e11, ci9.2.2]
      have bold (j : Int) (hj : j < m 13 1) : mb 14 j = m 14 j := by
        have := pb.2.1 j (by show j < ma 13 1; rw [rma 13 (by decide)]; exact hj)
        have this : mb 14 j = ma 14 j := this
        rw [this, rma 14 (by decide)]
      have hKb : ChK mb 13 := by
        refine ⟨⟨by rw [b13]; have := hK.1.1; omega, by rw [b13]; exact hroom, by decide⟩, fun j j0 j1 => ?_⟩
        rw [show ((13 : Int) + 1) = 14 from rfl]
        by_cases hj : j < m 13 1
        · rw [bold j hj]
          exact hK.2 j j0 hj
        · have := sl_at (m := mb) (x := 14) (a := m 13 1) (b := mb 13 1) (k := (j - m 13 1).toNat) (by omega)
          rw [show m 13 1 + (((j - m 13 1).toNat : Nat) : Int) = j by omega, bsl] at this
          have hmem := hus.2.2 _ (List.mem_of_getElem? this)
          refine (?_ : chOK (mb 14 j))
          have hx : ∀ c ∈ rawT t (gF L i), chOK c := sl_mem (m := fun _ => t) (x := 0) (P := chOK) (fun q q0 q1 => (ht q (by omega) (by omega)).ch)
          exact hx _ hmem
      -- the others
      obtain ⟨sh, hsh⟩ : ∃ sh, sh = shapeS (un (rawT t (gF L i))) := ⟨_, rfl⟩
      obtain ⟨vl, hvl⟩ : ∃ vl, vl = if sh = 3 then 0 else valS (un (rawT t (gF L i))) := ⟨_, rfl⟩
      obtain ⟨mc, hmc⟩ : ∃ mc, mc = mup (mup (mup (mup mb 16 i (mb 13 1)) 17 i (mb 11 i)) 18 i sh) 19 i vl := ⟨_, rfl⟩
      have rmc (y : Int) (h16 : y ≠ 16) (h17 : y ≠ 17) (h18 : y ≠ 18) (h19 : y ≠ 19) : mc y = mb y := by rw [hmc]; funext j; rw [mup_ref h19, mup_ref h18, mup_ref h17, mup_ref h16]
      have chr (q : aM) (h13 : q 13 = mb 13) (h14 : q 14 = mb 14) : ChR q 13 ∧ sl q 14 (m 13 1) (mb 13 1) = un (rawT t (gF L i)) := by
        refine ⟨?_, by rw [sl_row h14]; exact bsl⟩
        unfold ChR
        rw [h13]
        exact hKb.1
      have estep : fT_take_38_b 2 (m, i) = some (Sum.inl (mc, i + 1)) := by
        unfold fT_take_38_b
        simp only
        rw [e83, if_pos (by omega), if_pos (by omega), gd_pos (by omega), ← hma, eund]
        simp only [Option.bind_some]
        rw [gd_pos (by rw [b11]; exact oi.2.2.2.1), mup_same, b15]
        have c1 := chr (mup (mup mb 16 i (mb 13 1)) 17 i (mb 11 i)) (by funext j; rw [mup_ref (by decide), mup_ref (by decide)]) (by funext j; rw [mup_ref (by decide), mup_ref (by decide)])
        have hsp : fC_shapeOf (mup (mup mb 16 i (mb 13 1)) 17 i (mb 11 i)) 13 (m 13 1) (mb 13 1) = some sh := by
          rw [c_shapeOf c1.1 hK.1.1 (by rw [b13]; omega) (by rw [mup_ref (by decide), mup_ref (by decide)]; omega), show ((13 : Int) + 1) = 14 from rfl, c1.2, hsh]
        rw [hsp]
        simp only [Option.bind_some]
        rw [mup_same, w32_id (by omega) (by omega)]
        by_cases h3 : sh = 3
        · rw [if_pos h3]
          rw [if_pos h3] at hvl
          rw [hmc, hvl]
        · rw [if_neg h3]
          rw [if_neg h3] at hvl
          have c2 := chr (mup (mup (mup mb 16 i (mb 13 1)) 17 i (mb 11 i)) 18 i sh) (by funext j; rw [mup_ref (by decide), mup_ref (by decide), mup_ref (by decide)]) (by funext j; rw [mup_ref (by decide), mup_ref (by decide), mup_ref (by decide)])
          rw [c_digitsOf c2.1 hK.1.1 (by rw [b13]; omega) (by rw [mup_ref (by decide), mup_ref (by decide), mup_ref (by decide)]; omega) (by rw [show ((13 : Int) + 1) = 14 from rfl, c2.2]; exact valS_nv (by rw [← hsh]; exact h3)), show ((13 : Int) + 1) = 14 from rfl, c2.2, ← hvl, hmc]
          rfl
      have c13 : mc 13 = mb 13 := rmc 13 (by decide) (by decide) (by decide) (by decide)
      have c14 : mc 14 = mb 14 := rmc 14 (by decide) (by decide) (by decide) (by decide)
      have c15 : mc 15 = mb 15 := rmc 15 (by decide) (by decide) (by decide) (by decide)
      have tk' : TkI t L mc (i + 1) := by
        intro q q0 q1
        rw [c13, sl_row c14, c15]
        by_cases hqi : q = i
        · subst hqi
          have c16 : mc 16 q = mb 13 1 := by rw [hmc, mup_ref (by decide), mup_ref (by decide), mup_ref (by decide), mup_same]
          have c17 : mc 17 q = mb 11 q := by rw [hmc, mup_ref (by decide), mup_ref (by decide), mup_same]
          have c18 : mc 18 q = sh := by rw [hmc, mup_ref (by decide), mup_same]
          have c19 : mc 19 q = vl := by rw [hmc, mup_same]
          rw [b15, c16, c17, c18, c19, b11]
          refine ⟨hK.1.1, by omega, Int.le_refl _, bsl, rfl, hsh, ?_⟩
          rw [hvl, hsh]
        · obtain ⟨t1, t2, t3, t4, t5, t6, t7⟩ := tk q q0 (by omega)
          have c15q : mb 15 q = m 15 q := by rw [rmb 15 (by decide) (by decide), hma, mup_idx hqi]
          have c16 : mc 16 q = m 16 q := by rw [hmc, mup_ref (by decide), mup_ref (by decide), mup_ref (by decide), mup_idx hqi, rmb 16 (by decide) (by decide), rma 16 (by decide)]
          have c17 : mc 17 q = m 17 q := by rw [hmc, mup_ref (by decide), mup_ref (by decide), mup_idx hqi, mup_ref (by decide), rmb 17 (by decide) (by decide), rma 17 (by decide)]
          have c18 : mc 18 q = m 18 q := by rw [hmc, mup_ref (by decide), mup_idx hqi, mup_ref (by decide), mup_ref (by decide), rmb 18 (by decide) (by decide), rma 18 (by decide)]
          have c19 : mc 19 q = m 19 q := by rw [hmc, mup_idx hqi, mup_ref (by decide), mup_ref (by decide), mup_ref (by decide), rmb 19 (by decide) (by decide), rma 19 (by decide)]
          rw [c15q, c16, c17, c18, c19]
          refine ⟨t1, t2, by rw [b13]; omega, ?_, t5, t6, t7⟩
          rw [sl_congr (fun j j0 j1 => bold j (by omega))]
          exact t4
      have hK' : ChK mc 13 := by
        unfold ChK ChR
        rw [c13, show ((13 : Int) + 1) = 14 from rfl, c14]
        exact hKb
      obtain ⟨m', r1, r2⟩ := ih (i + 1) mc f (by omega) (by omega) (by omega) tk' hK' (fun y h12 h13 h14 h15 h16 h17 h18 h19 h20 => by rw [rmc y h16 h17 h18 h19, rmb y h13 h14, rma y h15, fr y h12 h13 h14 h15 h16 h17 h18 h19 h20]) (by rw [rmc 12 (by decide) (by decide) (by decide) (by decide), rmb 12 (by decide) (by decide), rma 12 (by decide), e12]) (by rw [rmc 20 (by decide) (by decide) (by decide) (by decide), rmb 20 (by decide) (by decide), rma 20 (by decide), e20]) (by rw [c13, show (i + 1).toNat = i.toNat + 1 by omega, hst, b13]; omega)
      exact ⟨m', (aL_go estep).trans r1, r2⟩
  unfold fT_take_38
  exact key N.toNat 0 m0 FU (by omega) (by omega) (by show N.toNat < 1000000; omega) (fun i i0 i1 => by omega) ⟨⟨by omega, by rw [h13]; decide, by decide⟩, fun j j0 j1 => by omega⟩ (fun _ _ _ _ _ _ _ _ _ _ => rfl) rfl rfl (by rw [h13]; exact Int.le_refl _)
