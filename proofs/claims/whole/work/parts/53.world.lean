/-! THE WORLD: how the abstract machine's cells stand in the heap -/
/-- what stands fixed: class ids and slots; where the Words, the Strings, their bytes stand; DAYS, ALL, the script; the formatter; the array classes; from where on all is ours; the script -/
abbrev sV : Type := va_G × (Nat → Nat) × (Nat → Nat) × (Nat → Nat) × Nat × Nat × Nat × Option Nat × (Nat → ClassId) × Nat × (Int → Int) × Int
def vD (ev : sV) : va_G := ev.1
def vW (ev : sV) : Nat → Nat := ev.2.1
def vS (ev : sV) : Nat → Nat := ev.2.2.1
def vB (ev : sV) : Nat → Nat := ev.2.2.2.1
def v42 (ev : sV) : Nat := ev.2.2.2.2.1
def v43 (ev : sV) : Nat := ev.2.2.2.2.2.1
def v44 (ev : sV) : Nat := ev.2.2.2.2.2.2.1
def vF (ev : sV) : Option Nat := ev.2.2.2.2.2.2.2.1
def vC (ev : sV) : Nat → ClassId := ev.2.2.2.2.2.2.2.2.1
def vN (ev : sV) : Nat := ev.2.2.2.2.2.2.2.2.2.1
def vA (ev : sV) : Nat → Prop := fun q => vN ev ≤ q
/-- the script's ints, and how many -/
def vXs (ev : sV) : Int → Int := ev.2.2.2.2.2.2.2.2.2.2.1
def vXn (ev : sV) : Int := ev.2.2.2.2.2.2.2.2.2.2.2
def cv (ev : sV) (ad : Nat → Nat) (v : aV) : Value := match v.1 with
  | 0 => .int (Int32.ofInt v.2)
  | 1 => .long (Int64.ofInt v.2)
  | 40 => va_rf (if v.2 = 0 then none else some (vW ev (v.2 - 1).toNat))
  | 41 => .ref (vS ev v.2.toNat)
  | 42 => .ref (v42 ev)
  | 43 => .ref (v43 ev)
  | 44 => .ref (v44 ev)
  | 46 => .ref (vB ev v.2.toNat)
  | 47 => va_rf (vF ev)
  | _ => .ref (ad v.2.toNat)
/-- a value of its tag -/
def wv (G : aG) (v : aV) : Prop := match v.1 with
  | 0 => in32 v.2
  | 1 => in64 v.2
  | 40 => 0 ≤ v.2 ∧ v.2 ≤ 15
  | 41 => 1 ≤ v.2 ∧ v.2 ≤ 17
  | 42 => True
  | 43 => True
  | 44 => v.2 = -1
  | 46 => 1 ≤ v.2 ∧ v.2 ≤ 17
  | 47 => True
  | t => 1 ≤ v.2 ∧ v.2 ≤ (G.1 : Int) ∧ G.2.1 v.2 = t
/-- the fields' kinds, class by class -/
def fts : List (List Nat) := [[5, 40, 0, 0, 0, 0, 31, 31, 31, 31, 32, 33], [30, 0], [16, 31, 31, 0, 0, 0, 40, 0, 0, 5], [31, 31, 33, 0, 0, 0, 0, 0, 5], [11, 31, 31, 33, 31, 32, 31, 0, 0], [0, 0, 0, 40, 0, 0, 1, 0], [34, 0], [11, 11, 11, 13, 14, 12, 10, 0], [0, 31, 0, 0, 0, 0, 32, 31, 0, 31, 31, 33, 32, 0, 31, 31, 33, 0, 31, 5, 1, 0, 0, 0, 0, 0, 0, 31, 31, 31, 31, 31, 31, 32, 0, 31, 31, 0, 0, 0, 0, 31, 31, 32, 31, 0, 31, 0, 5]]
def ftl (t : Nat) : List Nat := fts.getD (t - 10) []
/-- the kind of a place -/
def pk (t : Nat) (j : Int) : Nat := match t with
  | 30 => 6
  | 31 => 0
  | 32 => 1
  | 33 => 5
  | 34 => 15
  | t => (ftl t).getD j.toNat 0
/-- what a place of a kind may hold: a number, or a reference -/
def okS (G : aG) (ty : Nat) (v r : Int) : Prop := match ty with
  | 0 => in32 v
  | 5 => v = 0 ∨ v = 1
  | 6 => 0 ≤ v ∧ v < 65536
  | 1 => in64 v
  | 40 => 0 ≤ v ∧ v ≤ 15
  | t => r = 0 ∨ (1 ≤ r ∧ r ≤ (G.1 : Int) ∧ G.2.1 r = t)
/-- the memory is of its kinds -/
def wM (G : aG) (m : aM) : Prop := (∀ x : Int, 1 ≤ x → x ≤ (G.1 : Int) → ((10 ≤ G.2.1 x ∧ G.2.1 x < 19) ∨ (30 ≤ G.2.1 x ∧ G.2.1 x < 35)) ∧ 0 ≤ G.2.2.1 x ∧ G.2.2.1 x < 100000 ∧ ∀ j : Int, 0 ≤ j → okS G (pk (G.2.1 x) j) (m x j) (G.2.2.2 x j)) ∧
  (∀ x : Int, (G.1 : Int) < x → ∀ j : Int, m x j = 0 ∧ G.2.2.2 x j = 0)
def vRef (ad : Nat → Nat) (r : Int) : Option Nat := if r = 0 then none else some (ad r.toNat)
/-- a field's value -/
def fvl (ev : sV) (ad : Nat → Nat) (ty : Nat) (v r : Int) : Value := match ty with
  | 0 => .int (Int32.ofInt v)
  | 5 => .int (Int32.ofInt v)
  | 1 => .long (Int64.ofInt v)
  | 40 => cv ev ad (40, v)
  | _ => va_rf (vRef ad r)
def flds (ev : sV) (ad : Nat → Nat) (t : Nat) (f r : Int → Int) : List Value := (List.range (ftl t).length).map fun (j : Nat) => fvl ev ad ((ftl t).getD j 0) (f (j : Int)) (r (j : Int))
/-- a cell of tag t -/
def cellV (ev : sV) (ad : Nat → Nat) (t : Nat) (n : Int) (f r : Int → Int) : va_E := match t with
  | 30 => .inl (vC ev 30, n.toNat, .inl (fun j => Int32.ofInt (f (j : Int))))
  | 31 => .inl (vC ev 31, n.toNat, .inl (fun j => Int32.ofInt (f (j : Int))))
  | 32 => .inl (vC ev 32, n.toNat, .inr (.inl (fun j => Int64.ofInt (f (j : Int)))))
  | 33 => .inl (vC ev 33, n.toNat, .inl (fun j => Int32.ofInt (f (j : Int))))
  | 34 => .inl (vC ev 34, n.toNat, .inr (.inr (.inr (.inr (fun j => vRef ad (r (j : Int)))))))
  | t => .inr (t - 10, flds ev ad t f r)
def cellE (ev : sV) (ad : Nat → Nat) (G : aG) (m : aM) (x : Int) : va_E := cellV ev ad (G.2.1 x) (G.2.2.1 x) (m x) (G.2.2.2 x)
def sWl (ev : sV) (ad : Nat → Nat) (G : aG) (m : aM) : va_W := (List.range G.1).map fun (k : Nat) => (ad (k + 1), cellE ev ad G m ((k + 1 : Nat) : Int))
theorem sWl_len (ev : sV) (ad : Nat → Nat) (G : aG) (m : aM) : (sWl ev ad G m).length = G.1 := by simp [sWl]
theorem sWl_at {ev : sV} {ad : Nat → Nat} {G : aG} {m : aM} {x : Int} (h1 : 1 ≤ x) (h2 : x ≤ (G.1 : Int)) : (sWl ev ad G m)[x.toNat - 1]? = some (ad x.toNat, cellE ev ad G m x) := by
  unfold sWl
  rw [List.getElem?_map, List.getElem?_range (by omega)]
  have e1 : x.toNat - 1 + 1 = x.toNat := by omega
  have e2 : ((x.toNat - 1 + 1 : Nat) : Int) = x := by omega
  show some (ad (x.toNat - 1 + 1), cellE ev ad G m ((x.toNat - 1 + 1 : Nat) : Int)) = _
  rw [e2, e1]
/-- one cell anew -/
theorem sWl_set {ev : sV} {ad : Nat → Nat} {G G' : aG} {m m' : aM} {x : Int} (h1 : 1 ≤ x) (h2 : x ≤ (G.1 : Int)) (hn : G'.1 = G.1) (ho : ∀ y : Int, 1 ≤ y → y ≤ (G.1 : Int) → y ≠ x → cellE ev ad G' m' y = cellE ev ad G m y) :
    (sWl ev ad G m).set (x.toNat - 1) (ad x.toNat, cellE ev ad G' m' x) = sWl ev ad G' m' := by
  apply List.ext_getElem?
  intro k
  by_cases hk : k < G.1
  · by_cases hx : x.toNat - 1 = k
    · rw [List.getElem?_set, if_pos hx, if_pos (by rw [sWl_len]; omega)]
      have := sWl_at (ev := ev) (ad := ad) (G := G') (m := m') (x := x) h1 (by omega)
      rw [hx] at this
      exact this.symm
    · rw [List.getElem?_set, if_neg hx]
      have e1 := sWl_at (ev := ev) (ad := ad) (G := G) (m := m) (x := ((k + 1 : Nat) : Int)) (by omega) (by omega)
      have e2 := sWl_at (ev := ev) (ad := ad) (G := G') (m := m') (x := ((k + 1 : Nat) : Int)) (by omega) (by omega)
      have e3 : ((k + 1 : Nat) : Int).toNat - 1 = k := by omega
      rw [e3] at e1 e2
      rw [e1, e2, ho _ (by omega) (by omega) (by omega)]
  · rw [List.getElem?_eq_none (by rw [List.length_set, sWl_len]; omega), List.getElem?_eq_none (by rw [sWl_len]; omega)]
theorem sWl_push {ev : sV} {ad ad' : Nat → Nat} {G G' : aG} {m m' : aM} (hn : G'.1 = G.1 + 1) (ha : ∀ k, 1 ≤ k → k ≤ G.1 → ad' k = ad k) (ho : ∀ y : Int, 1 ≤ y → y ≤ (G.1 : Int) → cellE ev ad' G' m' y = cellE ev ad G m y) :
    sWl ev ad G m ++ [(ad' (G.1 + 1), cellE ev ad' G' m' ((G.1 + 1 : Nat) : Int))] = sWl ev ad' G' m' := by
  unfold sWl
  rw [hn, List.range_succ, List.map_append]
  congr 1
  apply List.map_congr_left
  intro k hk
  have hk := List.mem_range.mp hk
  rw [ha (k + 1) (by omega) (by omega), ho _ (by omega) (by omega)]
/-- the heap holds the world; since H0 nothing else has changed -/
def sH (ev : sV) (ad : Nat → Nat) (G : aG) (m : aM) (H0 H : Heap) (locs : List Loc) : Prop := va_P (vD ev) vwCl (sWl ev ad G m) H ∧ va_D (vA ev) (sWl ev ad G m) ∧ va_S (vA ev) H0 H locs
/-- the locals -/
def lR (ev : sV) (ad : Nat → Nat) (nL : Nat) (L : List aV) (ls : Array Slot) : Prop := L.length = nL ∧ ls.size = nL ∧ lv_wf ls ∧ ∀ (i : Nat) (v : aV), L[i]? = some v → v.1 ≠ 99 → ls[i]? = some (.val (cv ev ad v))
def wC (ev : sV) (c : aC) : Prop := (∀ v ∈ c.2.1, v.1 ≠ 99 → wv c.2.2.2.2.1 v) ∧ (∀ v ∈ c.2.2.1, v.1 ≠ 99 ∧ wv c.2.2.2.2.1 v) ∧ wM c.2.2.2.2.1 c.2.2.2.1 ∧ (∀ j, c.2.2.2.1 (-1) j = vXs ev j) ∧ vXs ev (-1) = vXn ev
theorem cv_cat (ev : sV) (ad : Nat → Nat) (v : aV) : (cv ev ad v).category = if v.1 = 1 then 2 else 1 := by
  obtain ⟨t, x⟩ := v
  unfold cv
  dsimp only
  split <;> first | rfl | (rename_i h; first | (simp [va_rf]; split <;> rfl) | (by_cases h1 : t = 1 <;> simp_all [Value.category]))
def lLs (ev : sV) (ad : Nat → Nat) (L : List aV) : List (Nat × Value) := (L.zipIdx.filter fun q => decide (q.1.1 ≠ 99)).map fun q => (q.2, cv ev ad q.1)
theorem lLs_mem {ev : sV} {ad : Nat → Nat} {L : List aV} {q : Nat × Value} : q ∈ lLs ev ad L ↔ ∃ v, L[q.1]? = some v ∧ v.1 ≠ 99 ∧ q.2 = cv ev ad v := by
  unfold lLs
  rw [List.mem_map]
  constructor
  · rintro ⟨⟨v, i⟩, h, rfl⟩
    rw [List.mem_filter] at h
    have := List.mem_zipIdx_iff_getElem?.mp h.1
    exact ⟨v, this, by simpa using h.2, rfl⟩
  · rintro ⟨v, h1, h2, h3⟩
    refine ⟨(v, q.1), List.mem_filter.mpr ⟨List.mem_zipIdx_iff_getElem?.mpr h1, by simpa using h2⟩, ?_⟩
    rw [← h3]
theorem lR.has {ev : sV} {ad : Nat → Nat} {nL : Nat} {L : List aV} {ls : Array Slot} (h : lR ev ad nL L ls) : lv_has ls nL (lLs ev ad L) := by
  obtain ⟨h0, h1, h2, h3⟩ := h
  refine ⟨h1, h2, fun q hq => ?_⟩
  obtain ⟨v, a1, a2, a3⟩ := lLs_mem.mp hq
  rw [a3]
  exact h3 _ _ a1 a2
theorem lR.of {ev : sV} {ad : Nat → Nat} {nL : Nat} {L : List aV} {ls : Array Slot} {l : List (Nat × Value)} (h : lv_has ls nL l) (hn : L.length = nL) (hs : ∀ (i : Nat) (v : aV), L[i]? = some v → v.1 ≠ 99 → (i, cv ev ad v) ∈ l) : lR ev ad nL L ls :=
  ⟨hn, h.1, h.2.1, fun i v h1 h2 => h.2.2 _ (hs i v h1 h2)⟩
theorem aClr_at {L : List aV} {i j : Nat} {v : aV} (h : (aClr L i)[j]? = some v) (hv : v.1 ≠ 99) : L[j]? = some v ∧ (j + 1 = i → v.1 ≠ 1) := by
  cases i with
  | zero => exact ⟨h, by omega⟩
  | succ k =>
    unfold aClr at h
    dsimp only at h
    rw [List.getElem?_modify] at h
    by_cases hk : k = j
    · subst hk
      cases hL : L[k]? with
      | none => rw [hL] at h; simp at h
      | some z =>
        rw [hL] at h
        simp at h
        by_cases hz : z.1 = 1
        · rw [if_pos hz] at h
          rw [← h] at hv
          exact absurd rfl hv
        · rw [if_neg hz] at h
          rw [h]
          rw [h] at hz
          exact ⟨rfl, fun _ => hz⟩
    · simp [hk] at h
      exact ⟨h, by omega⟩
theorem aClr_len (L : List aV) (i : Nat) : (aClr L i).length = L.length := by
  cases i with
  | zero => rfl
  | succ k => simp [aClr]
/-- behind a store of one word -/
theorem lR.st1 {ev : sV} {ad : Nat → Nat} {nL : Nat} {L : List aV} {ls' : Array Slot} {i : Nat} {v : aV} (hn : L.length = nL) (hi : i < nL)
    (h : lv_has ls' nL ((i, cv ev ad v) :: (lLs ev ad L).filter (fun q => !(q.1 == i) && !(q.1 + 1 == i && q.2.category == 2)))) : lR ev ad nL (aSt1 L i v) ls' := by
  refine lR.of h (by unfold aSt1; rw [List.length_set, aClr_len]; exact hn) (fun j w hj hw => ?_)
  unfold aSt1 at hj
  rw [List.getElem?_set] at hj
  by_cases hij : i = j
  · subst hij
    rw [if_pos rfl, if_pos (by rw [aClr_len]; omega)] at hj
    cases hj
    exact List.mem_cons_self
  · rw [if_neg hij] at hj
    obtain ⟨a1, a2⟩ := aClr_at hj hw
    refine List.mem_cons_of_mem _ (List.mem_filter.mpr ⟨lLs_mem.mpr ⟨w, a1, hw, rfl⟩, ?_⟩)
    have e1 : (j == i) = false := by simp; omega
    simp only [e1, cv_cat]
    by_cases hji : j + 1 = i
    · have := a2 hji
      simp [this]
    · simp [hji]
theorem lR.st2 {ev : sV} {ad : Nat → Nat} {nL : Nat} {L : List aV} {ls' : Array Slot} {i : Nat} {v : aV} (hn : L.length = nL) (hi : i + 1 < nL)
    (h : lv_has ls' nL ((i, cv ev ad v) :: (lLs ev ad L).filter (fun q => !(q.1 == i) && (!(q.1 == i + 1) && !(q.1 + 1 == i && q.2.category == 2))))) : lR ev ad nL (aSt2 L i v) ls' := by
  refine lR.of h (by unfold aSt2; rw [List.length_set, List.length_set, aClr_len]; exact hn) (fun j w hj hw => ?_)
  unfold aSt2 at hj
  rw [List.getElem?_set] at hj
  by_cases hij1 : i + 1 = j
  · rw [if_pos hij1, if_pos (by rw [List.length_set, aClr_len]; omega)] at hj
    cases hj
    exact absurd rfl hw
  · rw [if_neg hij1, List.getElem?_set] at hj
    by_cases hij : i = j
    · subst hij
      rw [if_pos rfl, if_pos (by rw [aClr_len]; omega)] at hj
      cases hj
      exact List.mem_cons_self
    · rw [if_neg hij] at hj
      obtain ⟨a1, a2⟩ := aClr_at hj hw
      refine List.mem_cons_of_mem _ (List.mem_filter.mpr ⟨lLs_mem.mpr ⟨w, a1, hw, rfl⟩, ?_⟩)
      have e1 : (j == i) = false := by simp; omega
      have e2 : (j == i + 1) = false := by simp; omega
      simp only [e1, e2, cv_cat]
      by_cases hji : j + 1 = i
      · have := a2 hji
        simp [this]
      · simp [hji]
/-- one geometry goes on from another -/
def gLe (G G' : aG) : Prop := G.1 ≤ G'.1 ∧ (∀ x : Int, 1 ≤ x → x ≤ (G.1 : Int) → G'.2.1 x = G.2.1 x)
theorem gLe.trans {A B C : aG} (h1 : gLe A B) (h2 : gLe B C) : gLe A C := ⟨Nat.le_trans h1.1 h2.1, fun x a b => (h2.2 x a (by have := h1.1; omega)).trans (h1.2 x a b)⟩
theorem gLe.rf (A : aG) : gLe A A := ⟨Nat.le_refl _, fun _ _ _ => rfl⟩
