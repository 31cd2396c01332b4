/-! THE RELATION of class and reference -/
/-- a table: columns, rows, names, which cells are quoted, their texts -/
abbrev Tb : Type := Int × Int × (Int → List Int) × (Int → Int → Int) × (Int → Int → List Int)
def Tn (T : Tb) : Int := T.1
def Tr (T : Tb) : Int := T.2.1
def Tm (T : Tb) : Int → List Int := T.2.2.1
def Tq (T : Tb) : Int → Int → Int := T.2.2.2.1
def Tt (T : Tb) : Int → Int → List Int := T.2.2.2.2
def okT (c : Int) : Prop := c = 10 ∨ c = 13 ∨ (32 ≤ c ∧ c ≤ 126)
theorem okT.ch {c : Int} (h : okT c) : chOK c := by
  rcases h with h | h | h
  · subst h; exact ⟨by decide, by decide⟩
  · subst h; exact ⟨by decide, by decide⟩
  · exact ⟨by omega, by omega⟩
def miss (T : Tb) (r c : Int) : Prop := Tq T r c = 0 ∧ Tt T r c = []
def missB (T : Tb) (r c : Int) : Bool := decide (Tq T r c = 0) && (Tt T r c).isEmpty
def fitC (q : Int) (s : List Int) (t : Int) : Bool := decide (q = 0) && (decide (shapeS s = t) || (decide (shapeS s = 0) && decide (t = 1)))
def fitAll (T : Tb) (c t : Int) : Bool := (List.range (Tr T).toNat).all fun (r : Nat) => missB T (r : Int) c || fitC (Tq T (r : Int) c) (Tt T (r : Int) c) t
def tyS (T : Tb) (c : Int) : Int := if fitAll T c 0 then 0 else if fitAll T c 1 then 1 else if fitAll T c 2 then 2 else 3
def sm (f : Nat → Int) : Nat → Int
  | 0 => 0
  | n + 1 => sm f n + f n
/-- a cell's characters, each mark twice -/
def Lw (s : List Int) : Int := (s.length : Int) + (s.count 34 : Nat)
def WT (T : Tb) : Prop := (0 ≤ Tn T ∧ Tn T ≤ 6) ∧ (0 ≤ Tr T ∧ Tr T ≤ 16) ∧ (Tn T = 0 → Tr T = 0) ∧
  (∀ c, 0 ≤ c → c < Tn T → 1 ≤ (Tm T c).length ∧ (Tm T c).length ≤ 6 ∧ (∀ x ∈ Tm T c, lo x = true) ∧ wRes (wordS (Tm T c)) = 0) ∧
  (∀ c d, 0 ≤ c → c < d → d < Tn T → Tm T c ≠ Tm T d) ∧
  (∀ r c, 0 ≤ r → r < Tr T → 0 ≤ c → c < Tn T → (Tq T r c = 0 ∨ Tq T r c = 1) ∧ ∀ x ∈ Tt T r c, okT x) ∧
  sm (fun c => ((Tm T (c : Int)).length : Int) + 1) (Tn T).toNat + sm (fun r => sm (fun c => Lw (Tt T (r : Int) (c : Int)) + 1) (Tn T).toNat) (Tr T).toNat ≤ 241
def TX (m : aM) : Prop := (0 ≤ m 2 1 ∧ m 2 1 ≤ 240) ∧ m 130 2 = m 2 1 ∧ ∀ i, 0 ≤ i → i < m 2 1 → m 131 i = m 3 i ∧ okT (m 3 i)
def QX (m : aM) : Prop := (0 ≤ m 4 1 ∧ m 4 1 ≤ 96) ∧ m 130 3 = m 4 1 ∧ ∀ i, 0 ≤ i → i < m 4 1 → m 131 (240 + i) = m 5 i ∧ 32 ≤ m 5 i ∧ m 5 i ≤ 126
def OX (m : aM) : Prop := (0 ≤ m 6 1 ∧ m 6 1 ≤ 700) ∧ m 130 45 = m 6 1 ∧ ∀ i, 0 ≤ i → i < m 6 1 → m 155 i = m 7 i ∧ chOK (m 7 i)
/-- the class's table -/
def CT (m : aM) (T : Tb) : Prop := m 12 8 = Tn T ∧ m 12 7 = Tr T ∧ ChK m 13 ∧
  (∀ c, 0 ≤ c → c < Tn T → 0 ≤ m 15 c ∧ m 15 c ≤ m 16 c ∧ m 16 c ≤ m 13 1 ∧ sl m 14 (m 15 c) (m 16 c) = Tm T c) ∧
  (∀ r c, 0 ≤ r → r < Tr T → 0 ≤ c → c < Tn T → 0 ≤ m 15 ((r + 1) * Tn T + c) ∧ m 15 ((r + 1) * Tn T + c) ≤ m 16 ((r + 1) * Tn T + c) ∧ m 16 ((r + 1) * Tn T + c) ≤ m 13 1 ∧ sl m 14 (m 15 ((r + 1) * Tn T + c)) (m 16 ((r + 1) * Tn T + c)) = Tt T r c ∧ m 17 ((r + 1) * Tn T + c) = Tq T r c ∧ m 18 ((r + 1) * Tn T + c) = shapeS (Tt T r c) ∧ m 19 ((r + 1) * Tn T + c) = if shapeS (Tt T r c) = 3 then 0 else valS (Tt T r c)) ∧
  (∀ c, 0 ≤ c → c < Tn T → m 20 c = tyS T c)
/-- the reference's table -/
def MT (m : aM) (T : Tb) : Prop := m 130 4 = Tn T ∧ m 130 5 = Tr T ∧
  (∀ c, 0 ≤ c → c < Tn T → m 132 c = pk8 (Tm T c) ∧ m 133 c = tyS T c) ∧
  (∀ r c, 0 ≤ r → r < Tr T → 0 ≤ c → c < Tn T → m 136 (6 * r + c) = Tq T r c ∧ 336 ≤ m 134 (6 * r + c) ∧ m 134 (6 * r + c) + (Tt T r c).length ≤ 576 ∧ m 135 (6 * r + c) = (if missB T r c then -1 else ((Tt T r c).length : Int)) ∧ sl m 131 (m 134 (6 * r + c)) (m 134 (6 * r + c) + (Tt T r c).length) = Tt T r c ∧ (tyS T c < 3 → m 137 (6 * r + c) = if missB T r c then 0 else valS (Tt T r c)))
/-- the answer, as both hold it -/
def AX (m : aM) (T : Tb) : Prop := (m 123 0 = 0 ∧ m 130 37 = -1) ∨ (m 123 0 = 1 ∧ m 130 37 = m 123 4 ∧ 1 ≤ Tn T ∧ (0 ≤ m 123 4 ∧ m 123 4 ≤ 16) ∧ (1 ≤ m 123 1 ∧ m 123 1 ≤ 5) ∧ m 130 38 = m 123 1 - 1 ∧
  (m 123 1 = 1 → (∀ k, 0 ≤ k → k < m 123 4 → m 124 k = m 151 k ∧ 0 ≤ m 124 k ∧ m 124 k < Tr T) ∧ ∀ i j, 0 ≤ i → i < j → j < m 123 4 → m 124 i ≠ m 124 j) ∧
  (2 ≤ m 123 1 → m 130 39 = m 123 3 ∧ (m 123 3 = -1 ∨ (0 ≤ m 123 3 ∧ m 123 3 < Tn T)) ∧ (∀ k, 0 ≤ k → k < m 123 4 → m 125 k = m 152 k ∧ (0 ≤ m 125 k ∧ m 125 k ≤ 16)) ∧
    (0 ≤ m 123 3 → (∀ k, 0 ≤ k → k < m 123 4 → m 126 k = m 151 k ∧ 0 ≤ m 126 k ∧ m 126 k < Tr T) ∧ ∀ i j, 0 ≤ i → i < j → j < m 123 4 → m 126 i ≠ m 126 j)) ∧
  (m 123 1 = 2 → ∀ k, 0 ≤ k → k < m 123 4 → m 128 k = m 152 k ∧ m 129 k = 0) ∧
  (3 ≤ m 123 1 → m 130 40 = m 123 2 ∧ (0 ≤ m 123 2 ∧ m 123 2 < Tn T) ∧ ∀ k, 0 ≤ k → k < m 123 4 → (m 129 k = 0 ∨ m 129 k = 1) ∧ (m 129 k = 0 ↔ 0 ≤ m 154 k)) ∧
  (m 123 1 = 3 → ∀ k, 0 ≤ k → k < m 123 4 → m 129 k = 0 → m 128 k = m 153 k ∧ i64 (m 128 k)) ∧
  (4 ≤ m 123 1 → (∀ k, 0 ≤ k → k < m 123 4 → m 129 k = 0 → m 127 k = m 154 k ∧ (0 ≤ m 127 k ∧ m 127 k < Tr T) ∧ missB T (m 127 k) (m 123 2) = false ∧ m 128 k = if shapeS (Tt T (m 127 k) (m 123 2)) = 3 then 0 else valS (Tt T (m 127 k) (m 123 2))) ∧ ∀ i j, 0 ≤ i → i < j → j < m 123 4 → m 129 i = 0 → m 129 j = 0 → m 127 i ≠ m 127 j))
def RI (S : Int → Int) (m : aM) : Prop := ∃ T, WT T ∧ TX m ∧ QX m ∧ m 1 7 = m 130 25 ∧ OX m ∧ CT m T ∧ MT m T ∧ AX m T ∧ m (-1) = S
theorem TX.of {m m' : aM} (h2 : m' 2 1 = m 2 1) (h3 : m' 3 = m 3) (h4 : m' 130 2 = m 130 2) (h5 : ∀ i, 0 ≤ i → i < 240 → m' 131 i = m 131 i) (h : TX m) : TX m' := by
  obtain ⟨a, b, c⟩ := h
  refine ⟨by rw [h2]; exact a, by rw [h2, h4]; exact b, fun i h0 h1 => ?_⟩
  rw [h2] at h1
  rw [h3, h5 i h0 (by omega)]
  exact c i h0 h1
theorem QX.of {m m' : aM} (h2 : m' 4 1 = m 4 1) (h3 : m' 5 = m 5) (h4 : m' 130 3 = m 130 3) (h5 : ∀ i, 240 ≤ i → i < 336 → m' 131 i = m 131 i) (h : QX m) : QX m' := by
  obtain ⟨a, b, c⟩ := h
  refine ⟨by rw [h2]; exact a, by rw [h2, h4]; exact b, fun i h0 h1 => ?_⟩
  rw [h2] at h1
  rw [h3, h5 (240 + i) (by omega) (by omega)]
  exact c i h0 h1
theorem OX.of {m m' : aM} (h2 : m' 6 1 = m 6 1) (h3 : m' 7 = m 7) (h4 : m' 130 45 = m 130 45) (h5 : m' 155 = m 155) (h : OX m) : OX m' := by
  unfold OX
  rw [h2, h3, h4, h5]
  exact h
theorem sl_row {m m' : aM} {x a b : Int} (h : m' x = m x) : sl m' x a b = sl m x a b := by
  unfold sl
  rw [h]
theorem CT.of {m m' : aM} {T : Tb} (h1 : m' 12 7 = m 12 7) (h2 : m' 12 8 = m 12 8) (h3 : m' 13 1 = m 13 1) (h4 : m' 14 = m 14) (h5 : m' 15 = m 15) (h6 : m' 16 = m 16) (h7 : m' 17 = m 17) (h8 : m' 18 = m 18) (h9 : m' 19 = m 19) (h10 : m' 20 = m 20) (h : CT m T) : CT m' T := by
  unfold CT ChK ChR
  rw [h1, h2, h3, h5, h6, h7, h8, h9, h10]
  simp only [sl_row h4, show (13 : Int) + 1 = 14 from rfl, h4]
  exact h
theorem MT.of {m m' : aM} {T : Tb} (h1 : m' 130 4 = m 130 4) (h2 : m' 130 5 = m 130 5) (h3 : m' 132 = m 132) (h4 : m' 133 = m 133) (h5 : m' 134 = m 134) (h6 : m' 135 = m 135) (h7 : m' 136 = m 136) (h8 : m' 137 = m 137) (h9 : ∀ i, 336 ≤ i → i < 600 → m' 131 i = m 131 i) (h : MT m T) : MT m' T := by
  obtain ⟨a, b, c, d⟩ := h
  refine ⟨h1.trans a, h2.trans b, by rw [h3, h4]; exact c, fun r c' g1 g2 g3 g4 => ?_⟩
  obtain ⟨e1, e2, e3, e4, e5, e6⟩ := d r c' g1 g2 g3 g4
  rw [h5, h6, h7, h8]
  refine ⟨e1, e2, e3, e4, ?_, e6⟩
  rw [sl_congr (fun j q1 q2 => h9 j (by omega) (by omega))]
  exact e5
theorem AX.of {m m' : aM} {T : Tb} (h0 : m' 123 = m 123) (h1 : m' 124 = m 124) (h2 : m' 125 = m 125) (h3 : m' 126 = m 126) (h4 : m' 127 = m 127) (h5 : m' 128 = m 128) (h6 : m' 129 = m 129) (h7 : m' 130 37 = m 130 37) (h8 : m' 130 38 = m 130 38) (h9 : m' 130 39 = m 130 39) (h10 : m' 130 40 = m 130 40) (h11 : m' 151 = m 151) (h12 : m' 152 = m 152) (h13 : m' 153 = m 153) (h14 : m' 154 = m 154) (h : AX m T) : AX m' T := by
  unfold AX
  rw [h0, h1, h2, h3, h4, h5, h6, h7, h8, h9, h10, h11, h12, h13, h14]
  exact h
/-- a change at the reference's 'thrown' and at the law's own row alone -/
def Thr (m m' : aM) : Prop := ∀ y j, ¬ (y = 130 ∧ j = 0) → ¬ y = 156 → m' y j = m y j
theorem RI.thr {S : Int → Int} {m m' : aM} (h : Thr m m') (hm : RI S m) : RI S m' := by
  obtain ⟨T, wt, tx, qx, fx, ox, ct, mt, ax, sx⟩ := hm
  have row (y : Int) (h1 : y ≠ 130) (h2 : y ≠ 156) : m' y = m y := by
    funext j
    exact h y j (fun e => h1 e.1) h2
  have cel (j : Int) (hj : j ≠ 0) : m' 130 j = m 130 j := h 130 j (fun e => hj e.2) (by decide)
  refine ⟨T, wt, ?_, ?_, ?_, ?_, ?_, ?_, ?_, ?_⟩
  · exact tx.of (by rw [row 2 (by decide) (by decide)]) (row 3 (by decide) (by decide)) (cel 2 (by decide)) (fun i _ _ => by rw [row 131 (by decide) (by decide)])
  · exact qx.of (by rw [row 4 (by decide) (by decide)]) (row 5 (by decide) (by decide)) (cel 3 (by decide)) (fun i _ _ => by rw [row 131 (by decide) (by decide)])
  · rw [row 1 (by decide) (by decide), cel 25 (by decide)]; exact fx
  · exact ox.of (by rw [row 6 (by decide) (by decide)]) (row 7 (by decide) (by decide)) (cel 45 (by decide)) (row 155 (by decide) (by decide))
  · exact ct.of (by rw [row 12 (by decide) (by decide)]) (by rw [row 12 (by decide) (by decide)]) (by rw [row 13 (by decide) (by decide)]) (row 14 (by decide) (by decide)) (row 15 (by decide) (by decide)) (row 16 (by decide) (by decide)) (row 17 (by decide) (by decide)) (row 18 (by decide) (by decide)) (row 19 (by decide) (by decide)) (row 20 (by decide) (by decide))
  · exact mt.of (cel 4 (by decide)) (cel 5 (by decide)) (row 132 (by decide) (by decide)) (row 133 (by decide) (by decide)) (row 134 (by decide) (by decide)) (row 135 (by decide) (by decide)) (row 136 (by decide) (by decide)) (row 137 (by decide) (by decide)) (fun i _ _ => by rw [row 131 (by decide) (by decide)])
  · exact ax.of (row 123 (by decide) (by decide)) (row 124 (by decide) (by decide)) (row 125 (by decide) (by decide)) (row 126 (by decide) (by decide)) (row 127 (by decide) (by decide)) (row 128 (by decide) (by decide)) (row 129 (by decide) (by decide)) (cel 37 (by decide)) (cel 38 (by decide)) (cel 39 (by decide)) (cel 40 (by decide)) (row 151 (by decide) (by decide)) (row 152 (by decide) (by decide)) (row 153 (by decide) (by decide)) (row 154 (by decide) (by decide))
  · rw [row (-1) (by decide) (by decide)]; exact sx
theorem RI.scr {S : Int → Int} {m : aM} (h : RI S m) : m (-1) = S := by
  obtain ⟨T, _, _, _, _, _, _, _, _, sx⟩ := h
  exact sx
/-- a call of the class that changes nothing, one of the reference that says what was thrown -/
theorem Thr.mk1 {m : aM} {s : Int} : Thr m (mup m 130 0 s) := fun y j h _ => if_neg h
theorem Thr.tr {m m1 m2 : aM} (h1 : Thr m m1) (h2 : Thr m1 m2) : Thr m m2 := fun y j a b => (h2 y j a b).trans (h1 y j a b)
theorem Thr.mkN {m : aM} {k : Nat} {x : Int} : Thr m (mkN (k, x, m)) := fun y j h1 h2 => by
  unfold _root_.Jvm.Pilot.CAskedTableLaw_law_r4394_852de3.mkN
  by_cases h : k = 1
  · simp only [if_pos h]; exact mup_ref h2
  · simp only [if_neg h]
