/-! LOAD: the header, and how even the records are -/
def gF (L : List (List tF)) (k : Int) : tF := (L.flatten).getD k.toNat (0, 0, 0)
/-- names, each once -/
def NM (t : Int → Int) (L : List (List tF)) (w : Int) : Prop := ∀ i, 0 ≤ i → i < w → nameOK (rawT t (gF L i)) ∧ ∀ j, 0 ≤ j → j < i → rawT t (gF L i) ≠ rawT t (gF L j)
theorem gF_get {L : List (List tF)} {k : Int} (h0 : 0 ≤ k) (h1 : k < (L.flatten.length : Int)) : (L.flatten)[k.toNat]? = some (gF L k) := by
  unfold gF
  rw [List.getD_eq_getElem?_getD, List.getElem?_eq_getElem (show k.toNat < L.flatten.length by omega)]
  rfl
theorem gF_ok {t : Int → Int} {L : List (List tF)} {n k : Int} (hok : fOk t n L.flatten) (h0 : 0 ≤ k) (h1 : k < (L.flatten.length : Int)) : 0 ≤ (gF L k).1 ∧ (gF L k).1 ≤ (gF L k).2.1 ∧ (gF L k).2.1 ≤ n ∧ ((gF L k).2.2 = 0 ∨ (gF L k).2.2 = 1) ∧ ((gF L k).2.2 = 0 → ∀ i, (gF L k).1 ≤ i → i < (gF L k).2.1 → t i ≠ 34) := hok _ (List.mem_of_getElem? (gF_get h0 h1))
theorem hdw_le {L : List (List tF)} : hdw L ≤ (L.flatten.length : Int) := by
  cases L with
  | nil => exact Int.le_refl _
  | cons x r =>
    show (x.length : Int) ≤ ((x ++ r.flatten).length : Int)
    rw [List.length_append]
    omega
theorem cF {c : aM} {L : List (List tF)} (ci : cRI c L []) {k : Int} (h0 : 0 ≤ k) (h1 : k < (L.flatten.length : Int)) (h2 : k < 102) : c 9 k = (gF L k).1 ∧ c 10 k = (gF L k).2.1 ∧ c 11 k = (gF L k).2.2 := by
  have := ci.2.2.2.2.2 k.toNat (by omega) (gF L k) (by rw [List.append_nil]; exact gF_get h0 h1)
  rw [show ((k.toNat : Nat) : Int) = k by omega] at this
  exact this
theorem okText {c : aM} {t : Int → Int} {n : Int} (h : CTx c t n) (ht : ∀ i, 0 ≤ i → i < n → okT (t i)) : ChK c 2 := by
  obtain ⟨e1, e2, e3, e4⟩ := id h
  refine ⟨⟨by omega, by rw [e1]; exact e4, by decide⟩, fun j j0 j1 => ?_⟩
  rw [show ((2 : Int) + 1) = 3 from rfl, e2 j j0 (by omega)]
  exact (ht j j0 (by omega)).ch
theorem c_haveNames {c : aM} {t : Int → Int} {n : Int} {L : List (List tF)} (h : CTx c t n) (ht : ∀ i, 0 ≤ i → i < n → okT (t i)) (ci : cRI c L []) (hok : fOk t n L.flatten) (hw : hdw L ≤ 6) : ∃ v, fR_haveNames c 2 = some v ∧ (v = 0 ∨ v = 1) ∧ (v = 1 ↔ L ≠ [] ∧ NM t L (hdw L)) := by
  have hK := okText h ht
  have hle := hdw_le (L := L)
  have hcn : c 2 1 = n := h.1
  unfold fR_haveNames
  by_cases hL : L = []
  · rw [if_pos (by rw [ci.2.1, hL]; rfl)]
    exact ⟨0, rfl, Or.inl rfl, fun h => absurd h (by decide), fun h => absurd hL h.1⟩
  · have hpos : 0 < L.length := List.length_pos_iff.mpr hL
    rw [if_neg (by rw [ci.2.1]; omega)]
    unfold fR_haveNames_11
    have inner (i : Int) (i0 : 0 ≤ i) (i1 : i < hdw L) : ((∀ j, 0 ≤ j → j < i → rawT t (gF L i) ≠ rawT t (gF L j)) → fR_haveNames_48 c 2 i 0 = some (Sum.inl (i + 1))) ∧ ((¬ ∀ j, 0 ≤ j → j < i → rawT t (gF L i) ≠ rawT t (gF L j)) → fR_haveNames_48 c 2 i 0 = some (Sum.inr 0)) := by
      have oi := gF_ok hok i0 (by omega)
      have ci9 := cF ci i0 (by omega) (by omega)
      have cmp (j : Int) (j0 : 0 ≤ j) (j1 : j < i) : fC_compareWith c 2 (c 9 i) (c 10 i) 2 (c 9 j) (c 10 j) = some (tc (rawT t (gF L i)) (rawT t (gF L j))) := by
        have oj := gF_ok hok j0 (show j < (L.flatten.length : Int) by omega)
        have cj9 := cF ci j0 (by omega) (by omega)
        rw [ci9.1, ci9.2.1, cj9.1, cj9.2.1, c_compareWith hK hK oi.1 oi.2.1 (by omega) oj.1 oj.2.1 (by omega), show ((2 : Int) + 1) = 3 from rfl, rawC h oi.1 oi.2.2.1, rawC h oj.1 oj.2.2.1]
      have body (j : Int) (j0 : 0 ≤ j) (j1 : j ≤ i) : fR_haveNames_48_b c 2 i j = if j < i then (if rawT t (gF L i) = rawT t (gF L j) then some (Sum.inr (Sum.inr 0)) else some (Sum.inl (j + 1))) else some (Sum.inr (Sum.inl (i + 1))) := by
        unfold fR_haveNames_48_b
        by_cases hlt : j < i
        · rw [if_pos hlt, if_pos hlt, gd_pos (by omega), gd_pos (by omega), cmp j j0 hlt]
          simp only [Option.bind_some]
          by_cases he : rawT t (gF L i) = rawT t (gF L j)
          · rw [if_pos (tc_eq0.mpr he), if_pos he]
          · rw [if_neg (fun q => he (tc_eq0.mp q)), if_neg he, w32_id (by omega) (by omega)]
        · rw [if_neg hlt, if_neg hlt, w32_id (by omega) (by omega)]
      constructor
      · intro hall
        unfold fR_haveNames_48
        refine (aLoop_eq (Inv := fun j : Int => 0 ≤ j ∧ j ≤ i) (μ := fun j => (i - j).toNat) (F := fun _ => Sum.inl (i + 1)) ?_ FU 0 ⟨by omega, by omega⟩ (by show (i - 0).toNat < 1000000; omega)).trans rfl
        rintro j ⟨g1, g2⟩
        rw [body j g1 g2]
        by_cases hlt : j < i
        · left
          rw [if_pos hlt, if_neg (hall j g1 hlt)]
          exact ⟨_, rfl, ⟨by omega, by omega⟩, by omega, rfl⟩
        · right
          rw [if_neg hlt]
      · intro hnot
        have hex : ∃ j, 0 ≤ j ∧ j < i ∧ rawT t (gF L i) = rawT t (gF L j) := by
          apply Classical.byContradiction
          intro hc
          exact hnot (fun j j0 j1 e => hc ⟨j, j0, j1, e⟩)
        obtain ⟨jj, jj0, jj1, he⟩ := hex
        unfold fR_haveNames_48
        refine (aLoop_eq (Inv := fun j : Int => 0 ≤ j ∧ j ≤ jj) (μ := fun j => (i - j).toNat) (F := fun _ => Sum.inr 0) ?_ FU 0 ⟨by omega, by omega⟩ (by show (i - 0).toNat < 1000000; omega)).trans rfl
        rintro j ⟨g1, g2⟩
        rw [body j g1 (by omega), if_pos (by omega)]
        by_cases hq : rawT t (gF L i) = rawT t (gF L j)
        · right
          rw [if_pos hq]
        · left
          rw [if_neg hq]
          refine ⟨_, rfl, ⟨by omega, ?_⟩, by omega, rfl⟩
          by_cases e : j = jj
          · rw [e] at hq; exact absurd he hq
          · omega
    obtain ⟨v, hv, hP⟩ := aLoop_ok (f := fR_haveNames_11_b c 2) (Inv := fun i : Int => 0 ≤ i ∧ i ≤ hdw L ∧ NM t L i) (μ := fun i => (hdw L - i).toNat) (Post := fun v => (v = 0 ∨ v = 1) ∧ (v = 1 ↔ NM t L (hdw L))) (by
      rintro i ⟨g1, g2, g3⟩
      unfold fR_haveNames_11_b
      rw [ci.2.2.1]
      by_cases hi : i < hdw L
      · have oi := gF_ok hok g1 (show i < (L.flatten.length : Int) by omega)
        have ci9 := cF ci g1 (show i < (L.flatten.length : Int) by omega) (by omega)
        obtain ⟨u, u1, u2, u3⟩ := c_isName h oi.1 oi.2.1 oi.2.2.1
        rw [if_pos hi, if_pos (by omega), gd_pos (by omega), ci9.1, ci9.2.1, u1]
        simp only [Option.bind_some]
        rcases u2 with u2 | u2
        · right
          rw [if_pos u2]
          exact ⟨0, rfl, Or.inl rfl, fun h => absurd h (by decide), fun h => by have := u3.mpr (h i g1 hi).1; omega⟩
        · rw [if_neg (by omega)]
          by_cases hall : ∀ j, 0 ≤ j → j < i → rawT t (gF L i) ≠ rawT t (gF L j)
          · left
            rw [(inner i g1 hi).1 hall]
            refine ⟨_, rfl, ⟨by omega, by omega, fun k k0 k1 => ?_⟩, by omega⟩
            by_cases e : k = i
            · rw [e]; exact ⟨u3.mp u2, hall⟩
            · exact g3 k k0 (by omega)
          · right
            rw [(inner i g1 hi).2 hall]
            exact ⟨0, rfl, Or.inl rfl, fun h => absurd h (by decide), fun h => absurd (h i g1 hi).2 hall⟩
      · right
        rw [if_neg hi]
        have : i = hdw L := by omega
        exact ⟨1, rfl, Or.inr rfl, fun _ => this ▸ g3, fun _ => rfl⟩) FU 0 ⟨by omega, by have : 0 ≤ hdw L := by { cases L with | nil => exact absurd rfl hL | cons x r => exact Int.natCast_nonneg _ }; omega, fun i i0 i1 => by omega⟩ (by show (hdw L - 0).toNat < 1000000; omega)
    exact ⟨v, hv, hP.1, hP.2.trans ⟨fun q => ⟨hL, q⟩, fun q => q.2⟩⟩
/-- what the reference holds of the records -/
def mR (m : aM) (L : List (List tF)) : Prop := m 130 17 = (L.length : Int) ∧ (∀ r : Nat, r ≤ L.length → m 141 (r : Int) = (((L.take r).flatten).length : Int)) ∧ ∀ (j : Nat) x, (L.flatten)[j]? = some x → m 138 (j : Int) = x.1 ∧ m 139 (j : Int) = x.2.1 ∧ m 140 (j : Int) = x.2.2
theorem mF {m : aM} {L : List (List tF)} (h : mR m L) {k : Int} (h0 : 0 ≤ k) (h1 : k < (L.flatten.length : Int)) : m 138 k = (gF L k).1 ∧ m 139 k = (gF L k).2.1 ∧ m 140 k = (gF L k).2.2 := by
  have := h.2.2 k.toNat (gF L k) (gF_get h0 h1)
  rw [show ((k.toNat : Nat) : Int) = k by omega] at this
  exact this
theorem take1 {L : List (List tF)} (h : L ≠ []) : (((L.take 1).flatten).length : Int) = hdw L := by
  cases L with
  | nil => exact absurd rfl h
  | cons x r => show ((x ++ ([] : List tF)).length : Int) = (x.length : Int); rw [List.append_nil]
/-- the lengths, one after the other -/
theorem take_step {L : List (List tF)} {r : Nat} (h : r < L.length) : ((L.take (r + 1)).flatten).length = ((L.take r).flatten).length + (L[r]'h).length := by
  rw [List.take_succ_eq_append_getElem h, List.flatten_append, List.length_append]
  simp
theorem same_iff {L : List (List tF)} : same L = true ↔ ∀ r, (h : r < L.length) → ((L[r]'h).length : Int) = hdw L := by
  cases L with
  | nil => exact ⟨fun _ r h => absurd h (Nat.not_lt_zero _), fun _ => rfl⟩
  | cons x l =>
    show (l.all fun y => decide (y.length = x.length)) = true ↔ _
    rw [List.all_eq_true]
    constructor
    · intro h r hr
      cases r with
      | zero => rfl
      | succ r =>
        have hr' : r < l.length := by simpa using hr
        have := h (l[r]'hr') (List.getElem_mem hr')
        rw [decide_eq_true_iff] at this
        show ((l[r]'hr').length : Int) = (x.length : Int)
        omega
    · intro h y hy
      obtain ⟨r, hr, rfl⟩ := List.getElem_of_mem hy
      have := h (r + 1) (by simpa using hr)
      rw [decide_eq_true_iff]
      have this : ((l[r]'hr).length : Int) = (x.length : Int) := this
      omega
theorem r_isEven {m : aM} {L : List (List tF)} (h : mR m L) (hl : (L.length : Int) ≤ 241) (hf : (L.flatten.length : Int) ≤ 241) : ∃ v, fM_isEven m = some v ∧ (v = 0 ∨ v = 1) ∧ (v = 1 ↔ same L = true ∧ hdw L ≤ 6) := by
  obtain ⟨h1, h2, h3⟩ := h
  have hle := hdw_le (L := L)
  have e32 (x2 : Int) (hx : x2 = 0 ∨ x2 = 1) : ∃ v, fM_isEven_32 m (hdw L) x2 0 = some v ∧ (v = 0 ∨ v = 1) ∧ (v = 1 ↔ x2 = 1 ∧ same L = true) := by
    unfold fM_isEven_32
    obtain ⟨v, hv, hP⟩ := aLoop_ok (f := fM_isEven_32_b m (hdw L)) (Inv := fun s : Int × Int => 0 ≤ s.2 ∧ s.2 ≤ (L.length : Int) ∧ (s.1 = 0 ∨ s.1 = 1) ∧ (s.1 = 1 ↔ x2 = 1 ∧ ∀ r, (hr : r < L.length) → (r : Int) < s.2 → ((L[r]'hr).length : Int) = hdw L)) (μ := fun s => ((L.length : Int) - s.2).toNat) (Post := fun v => (v = 0 ∨ v = 1) ∧ (v = 1 ↔ x2 = 1 ∧ same L = true)) (by
      rintro ⟨w, i⟩ ⟨g1, g2, g3, g4⟩
      simp only at g1 g2 g3 g4
      unfold fM_isEven_32_b
      simp only
      rw [h1]
      by_cases hi : i < (L.length : Int)
      · left
        rw [if_pos hi, w32_id (by omega) (by omega)]
        have hr : i.toNat < L.length := by omega
        have st := take_step hr
        rcases g3 with g3 | g3
        · rw [if_pos g3]
          refine ⟨_, rfl, ⟨by simp only; omega, by simp only; omega, Or.inl rfl, ?_⟩, by simp only; omega⟩
          simp only
          refine ⟨fun h => absurd h (by decide), fun h => ?_⟩
          have := g4.mpr ⟨h.1, fun r hr h1 => h.2 r hr (by omega)⟩
          omega
        · have a1 := h2 i.toNat (by omega)
          have a2 := h2 (i.toNat + 1) (by omega)
          rw [show ((i.toNat : Nat) : Int) = i by omega] at a1
          rw [show ((i.toNat + 1 : Nat) : Int) = i + 1 by omega] at a2
          have hfl : (((L.take (i.toNat + 1)).flatten).length : Int) ≤ 241 := by
            have : ((L.take (i.toNat + 1)).flatten).length ≤ L.flatten.length := by
              conv => rhs; rw [← List.take_append_drop (i.toNat + 1) L, List.flatten_append, List.length_append]
              omega
            omega
          rw [if_neg (by omega), gd_pos (by omega), gd_pos (by omega), a1, a2, w32_id (by omega) (by omega)]
          by_cases he : ((L[i.toNat]'hr).length : Int) = hdw L
          · rw [if_pos (by omega)]
            refine ⟨_, rfl, ⟨by simp only; omega, by simp only; omega, Or.inr rfl, ?_⟩, by simp only; omega⟩
            simp only
            refine ⟨fun _ => ⟨(g4.mp g3).1, fun r hr' h1 => ?_⟩, fun _ => trivial⟩
            by_cases e : r = i.toNat
            · subst e; exact he
            · exact (g4.mp g3).2 r hr' (by omega)
          · rw [if_neg (by omega)]
            refine ⟨_, rfl, ⟨by simp only; omega, by simp only; omega, Or.inl rfl, ?_⟩, by simp only; omega⟩
            simp only
            exact ⟨fun h => absurd h (by decide), fun h => absurd (h.2 i.toNat hr (by omega)) he⟩
      · right
        rw [if_neg hi, gd_pos g3]
        refine ⟨w, rfl, g3, g4.trans ⟨fun h => ⟨h.1, same_iff.mpr (fun r hr => h.2 r hr (by omega))⟩, fun h => ⟨h.1, fun r hr _ => same_iff.mp h.2 r hr⟩⟩⟩) FU (x2, 0) ⟨by simp only; omega, by simp only; omega, hx, ⟨fun h => ⟨h, fun r hr h1 => by simp only at h1; omega⟩, fun h => h.1⟩⟩ (by show ((L.length : Int) - 0).toNat < 1000000; omega)
    exact ⟨v, hv, hP⟩
  have e17 : fM_isEven m = fM_isEven_17 m (hdw L) := by
    unfold fM_isEven
    by_cases hL : L = []
    · rw [if_pos (by rw [h1, hL]; rfl), hL]; rfl
    · have hpos : 0 < L.length := List.length_pos_iff.mpr hL
      have := h2 1 (by omega)
      rw [take1 hL] at this
      rw [if_neg (by rw [h1]; omega)]
      rw [show ((1 : Nat) : Int) = 1 from rfl] at this
      rw [this]
  rw [e17]
  unfold fM_isEven_17
  by_cases h7 : hdw L < 7
  · rw [if_pos h7]
    obtain ⟨v, v1, v2, v3⟩ := e32 1 (Or.inr rfl)
    exact ⟨v, v1, v2, v3.trans ⟨fun q => ⟨q.2, by omega⟩, fun q => ⟨rfl, q.1⟩⟩⟩
  · rw [if_neg h7]
    obtain ⟨v, v1, v2, v3⟩ := e32 0 (Or.inl rfl)
    exact ⟨v, v1, v2, ⟨fun q => absurd (v3.mp q).1 (by decide), fun q => absurd q.2 (by omega)⟩⟩
