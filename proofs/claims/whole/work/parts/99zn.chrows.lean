/-! ASK: rows, chosen and sorted -/
def crow (p : Nat → Bool) : Nat → List Int
  | 0 => []
  | k + 1 => crow p k ++ (if p k then [(k : Int)] else [])
theorem crow_mem {p : Nat → Bool} : ∀ {k : Nat} {r : Int}, r ∈ crow p k → 0 ≤ r ∧ r < (k : Int) ∧ p r.toNat = true
  | 0, r, h => nomatch h
  | k + 1, r, h => by
    rcases List.mem_append.mp h with g | g
    · have := crow_mem g
      exact ⟨this.1, by omega, this.2.2⟩
    · by_cases e : p k = true
      · rw [if_pos e] at g
        have := List.mem_singleton.mp g
        subst this
        exact ⟨by omega, by omega, by rw [show ((k : Int)).toNat = k by omega]; exact e⟩
      · rw [if_neg e] at g
        exact nomatch g
theorem crow_len {p : Nat → Bool} : ∀ {k : Nat}, (crow p k).length ≤ k
  | 0 => Nat.le_refl 0
  | k + 1 => by
    show (crow p k ++ (if p k then [(k : Int)] else [])).length ≤ _
    have := crow_len (p := p) (k := k)
    rw [List.length_append]
    split
    · simp only [List.length_cons, List.length_nil]; omega
    · simp only [List.length_nil]; omega
theorem crow_nd {p : Nat → Bool} : ∀ {k : Nat}, (crow p k).Nodup
  | 0 => List.nodup_nil
  | k + 1 => by
    show (crow p k ++ (if p k then [(k : Int)] else [])).Nodup
    rw [List.nodup_append]
    refine ⟨crow_nd, ?_, fun a ha b hb => ?_⟩
    · split
      · exact List.nodup_cons.mpr ⟨List.not_mem_nil, List.nodup_nil⟩
      · exact List.nodup_nil
    · have h1 := crow_mem ha
      by_cases e : p k = true
      · rw [if_pos e] at hb
        have := List.mem_singleton.mp hb
        omega
      · rw [if_neg e] at hb
        exact nomatch hb
theorem crow_stop {p : Nat → Bool} {a : Nat} (h : ∀ k, a ≤ k → p k = false) : ∀ d : Nat, crow p (a + d) = crow p a
  | 0 => rfl
  | d + 1 => by
    show crow p (a + d) ++ (if p (a + d) then [((a + d : Nat) : Int)] else []) = _
    rw [h _ (by omega), crow_stop h d]
    exact List.append_nil _
/-- the rows that a question chooses -/
def pB (c0 : aM) (T : Tb) (u : Int → Int) (L : List Int) (k : Nat) : Bool := decide ((k : Int) < Tr T) && ch c0 T u L k
def RR (c0 : aM) (T : Tb) (u : Int → Int) (L : List Int) : List Int := crow (pB c0 T u L) 16
theorem RR_mem {c0 : aM} {T : Tb} {u : Int → Int} {L : List Int} {r : Int} (h : r ∈ RR c0 T u L) : 0 ≤ r ∧ r < Tr T := by
  have := crow_mem h
  refine ⟨this.1, ?_⟩
  have h2 := this.2.2
  unfold pB at h2
  rw [Bool.and_eq_true, decide_eq_true_eq] at h2
  omega
theorem RR_len {c0 : aM} {T : Tb} {u : Int → Int} {L : List Int} : ((RR c0 T u L).length : Int) ≤ 16 := by
  have := crow_len (p := pB c0 T u L) (k := 16)
  unfold RR
  omega
theorem RR_tr {c0 : aM} {T : Tb} {u : Int → Int} {L : List Int} (wt : WT T) : crow (pB c0 T u L) (Tr T).toNat = RR c0 T u L := by
  have w2 := wt.2.1
  unfold RR
  have := crow_stop (p := pB c0 T u L) (a := (Tr T).toNat) (fun k hk => by
    unfold pB
    rw [decide_eq_false (by omega)]
    rfl) (16 - (Tr T).toNat)
  rw [show (Tr T).toNat + (16 - (Tr T).toNat) = 16 by omega] at this
  exact this.symm
theorem lst_get {m : aM} {y : Int} (l : List Int) : lst m y l.reverse → ∀ j : Nat, j < l.length → m y (j : Int) = l.getD j 0 := by
  refine snoc_ind (P := fun l => lst m y l.reverse → ∀ j : Nat, j < l.length → m y (j : Int) = l.getD j 0) (fun _ j h => absurd h (Nat.not_lt_zero _)) (fun l a ih h j hj => ?_) l
  rw [List.reverse_append] at h
  have h' : m y (l.reverse.length : Int) = a ∧ lst m y l.reverse := h
  rw [List.length_append] at hj
  simp only [List.length_cons, List.length_nil] at hj
  by_cases e : j < l.length
  · rw [ih h'.2 j e, List.getD_eq_getElem?_getD, List.getD_eq_getElem?_getD, List.getElem?_append_left e]
  · have ej : j = l.length := by omega
    have h1 := h'.1
    rw [List.length_reverse] at h1
    rw [ej, h1, List.getD_eq_getElem?_getD, List.getElem?_append_right (Nat.le_refl _), Nat.sub_self]
    rfl
abbrev tkP (y j : Int) : Prop := (y = 123 ∧ ((1 ≤ j ∧ j ≤ 3) ∨ j = 5)) ∨ y = 124
def lt0 (T : Tb) (k f v s : Int) : Bool := decide (k ≠ -1 ∧ (if f = 0 then 1 else -1) * zr T v s k < 0)
section
variable {c0 m q : aM} {T : Tb} {u : Int → Int} {n N B : Int} {L : List Int}
theorem k_takeRows (hB : ∀ r : Nat, r < 16 → (bAnd B (bShl 1 (r : Int)) = 0 ↔ ¬ ((r : Int) < Tr T ∧ ch c0 T u L r = true))) : ∃ m', fA_take m B = some m' ∧ Fr tkP m m' ∧ m' 123 1 = m 21 6 ∧ m' 123 2 = m 21 7 ∧ m' 123 3 = m 21 8 ∧ m' 123 5 = ((RR c0 T u L).length : Int) ∧ lst m' 124 (RR c0 T u L).reverse := by
  unfold fA_take fA_take_31
  obtain ⟨m1, e1⟩ : ∃ m1, m1 = mup (mup (mup (mup m 123 1 (m 21 6)) 123 2 ((mup m 123 1 (m 21 6)) 21 7)) 123 3 ((mup (mup m 123 1 (m 21 6)) 123 2 ((mup m 123 1 (m 21 6)) 21 7)) 21 8)) 123 5 0 := ⟨_, rfl⟩
  have e1' : m1 = mup (mup (mup (mup m 123 1 (m 21 6)) 123 2 (m 21 7)) 123 3 (m 21 8)) 123 5 0 := by
    rw [e1, mup_ref (show (21 : Int) ≠ 123 by decide), mup_ref (show (21 : Int) ≠ 123 by decide), mup_ref (show (21 : Int) ≠ 123 by decide)]
  have f1 : Fr tkP m m1 := by
    rw [e1']
    exact (((Fr.rf.up (Or.inl ⟨rfl, by omega⟩)).up (Or.inl ⟨rfl, by omega⟩)).up (Or.inl ⟨rfl, by omega⟩)).up (Or.inl ⟨rfl, by omega⟩)
  have a1 : m1 123 1 = m 21 6 := by rw [e1', mup_idx (by decide), mup_idx (by decide), mup_idx (by decide), mup_same]
  have a2 : m1 123 2 = m 21 7 := by rw [e1', mup_idx (by decide), mup_idx (by decide), mup_same]
  have a3 : m1 123 3 = m 21 8 := by rw [e1', mup_idx (by decide), mup_same]
  have a5 : m1 123 5 = 0 := by rw [e1', mup_same]
  rw [← e1']
  obtain ⟨m', e, hp⟩ := aLoop_ok (f := fA_take_31_b B) (Inv := fun x : aM × Int => Fr tkP m x.1 ∧ x.1 123 1 = m 21 6 ∧ x.1 123 2 = m 21 7 ∧ x.1 123 3 = m 21 8 ∧ ∃ k : Nat, x.2 = (k : Int) ∧ k ≤ 16 ∧ x.1 123 5 = ((crow (pB c0 T u L) k).length : Int) ∧ lst x.1 124 (crow (pB c0 T u L) k).reverse) (μ := fun x => (16 - x.2).toNat) (Post := fun m' => Fr tkP m m' ∧ m' 123 1 = m 21 6 ∧ m' 123 2 = m 21 7 ∧ m' 123 3 = m 21 8 ∧ m' 123 5 = ((RR c0 T u L).length : Int) ∧ lst m' 124 (RR c0 T u L).reverse) (by
    rintro ⟨m2, x⟩ ⟨g1, g2, g3, g4, k, gk, k16, g5, g6⟩
    simp only at g1 g2 g3 g4 gk g5 g6
    subst gk
    unfold fA_take_31_b
    simp only
    by_cases hi : k < 16
    · left
      rw [if_pos (by omega)]
      have hb := hB k hi
      have hl := crow_len (p := pB c0 T u L) (k := k)
      by_cases hc : (k : Int) < Tr T ∧ ch c0 T u L k = true
      · have pk : pB c0 T u L k = true := by
          unfold pB
          rw [decide_eq_true hc.1, hc.2]; rfl
        rw [if_neg (fun e => hb.mp e hc), gd_pos (by omega), w32_id (by omega) (by omega), w32_id (by omega) (by omega)]
        refine ⟨_, rfl, ⟨(g1.up (Or.inr rfl)).up (Or.inl ⟨rfl, by omega⟩), ?_, ?_, ?_, k + 1, by simp only; omega, by omega, ?_, ?_⟩, by simp only; omega⟩
        · simp only; rw [mup_idx (by decide), mup_ref (by decide)]; exact g2
        · simp only; rw [mup_idx (by decide), mup_ref (by decide)]; exact g3
        · simp only; rw [mup_idx (by decide), mup_ref (by decide)]; exact g4
        · simp only
          rw [mup_same, g5]
          show _ = (((crow (pB c0 T u L) k ++ (if pB c0 T u L k then [(k : Int)] else [])).length : Nat) : Int)
          rw [if_pos pk, List.length_append]
          simp only [List.length_cons, List.length_nil]
          omega
        · show lst _ 124 (crow (pB c0 T u L) k ++ (if pB c0 T u L k then [(k : Int)] else [])).reverse
          rw [if_pos pk, List.reverse_append, List.reverse_singleton, List.singleton_append]
          refine ⟨?_, lst_of (fun j a b => ?_) g6⟩
          · simp only
            rw [List.length_reverse, mup_ref (show (124 : Int) ≠ 123 by decide), g5, mup_same]
          · rw [List.length_reverse] at b
            simp only
            rw [mup_ref (show (124 : Int) ≠ 123 by decide), g5, mup_idx (by omega)]
      · have pk : pB c0 T u L k = false := by
          rw [Bool.eq_false_iff]
          intro e
          unfold pB at e
          rw [Bool.and_eq_true, decide_eq_true_eq] at e
          exact hc e
        have ck : crow (pB c0 T u L) (k + 1) = crow (pB c0 T u L) k := by
          show crow (pB c0 T u L) k ++ (if pB c0 T u L k then [(k : Int)] else []) = _
          rw [pk]
          exact List.append_nil _
        rw [if_pos (hb.mpr hc), w32_id (by omega) (by omega)]
        exact ⟨_, rfl, ⟨g1, g2, g3, g4, k + 1, by simp only; omega, by omega, by rw [ck]; exact g5, by rw [ck]; exact g6⟩, by simp only; omega⟩
    · right
      rw [if_neg (by omega)]
      have : k = 16 := by omega
      subst this
      refine ⟨m2, rfl, ?_⟩
      exact ⟨g1, g2, g3, g4, g5, g6⟩) FU (m1, 0) ⟨f1, a1, a2, a3, 0, rfl, by omega, a5, trivial⟩ (by show _ < 1000000; simp only; omega)
  exact ⟨m', e, hp⟩
theorem lt0_none {f : Int} : lt0 T (-1) f = fun _ _ => false := by
  funext v s
  unfold lt0
  exact decide_eq_false (fun g => g.1 rfl)
theorem take_snoc {l : List Int} {k : Nat} (h : k < l.length) : l.take (k + 1) = l.take k ++ [l.getD k 0] := by
  rw [List.take_add_one, List.getD_eq_getElem?_getD, List.getElem?_eq_getElem h]
  rfl
end
