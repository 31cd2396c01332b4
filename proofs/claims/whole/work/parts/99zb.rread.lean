/-! ASK: reading: the reference's steps -/
abbrev cnP (y j : Int) : Prop := (y = 130 ∧ ((19 ≤ j ∧ j ≤ 26) ∨ j = 34)) ∨ (142 ≤ y ∧ y ≤ 149)
theorem cn_aq {q q' : aM} (h : Fr cnP q q') : Fr aqP q q' := h.wk (fun y j e => by
  rcases e with e | e
  · exact Or.inl ⟨e.1, by omega⟩
  · exact Or.inr ⟨e.1, by omega⟩)
theorem nx_cn {q q' : aM} (h : Fr nxP q q') : Fr cnP q q' := h.wk (fun y j e => Or.inl ⟨e.1, by omega⟩)
/-- the reference stands at the token of a place -/
def RS (c0 q : aM) (T : Tb) (u : Int → Int) (n N p : Int) : Prop := EM q T u n ∧ RT q (c0 (24 + p)) ∧ q 130 25 = -1 ∧ (0 ≤ p ∧ p ≤ N)
theorem RT.of {q q' : aM} {τ : Int → Int} (h : RT q τ) (e : ∀ j, 20 ≤ j → j ≤ 24 → q' 130 j = q 130 j) : RT q' τ := by
  unfold RT
  rw [e 20 (by decide) (by decide), e 21 (by decide) (by decide), e 22 (by decide) (by decide), e 23 (by decide) (by decide), e 24 (by decide) (by decide)]
  exact h
theorem s_next {c0 q : aM} {T : Tb} {u : Int → Int} {n N p : Int} (hx : Cx c0 T u n N) (h : RS c0 q T u n N p) (k0 : c0 (24 + p) 0 ≠ 0) (k6 : c0 (24 + p) 0 ≠ 6) : ∃ q', fM_next q = some q' ∧ RS c0 q' T u n N (p + 1) ∧ Fr nxP q q' ∧ p < N := by
  obtain ⟨h1, h2, h3, h4⟩ := h
  have hp := hx.last h4.2 k6
  have hT := hx.tk h4.1 h4.2
  have to := hT.to k6
  have hL := hx.2.1.2.2.1 (p + 1) (by omega) (by omega)
  have e : st c0 (p + 1) = c0 (24 + p) 2 := by
    unfold st
    rw [if_neg (by omega), show 24 + (p + 1 - 1) = 24 + p by omega]
  rw [e] at hL
  obtain ⟨q', e1, e2, e3⟩ := r_next h1.1 (by have := hT.1; omega) (h2.2.2.1 k0).2 hL
  exact ⟨q', e1, ⟨h1.fr (nx_aq e3), e2, by rw [e3 130 25 (fun e => by omega)]; exact h3, by omega⟩, e3, hp⟩
/-! what waits -/
def wst (q : aM) : List Int → Prop
  | [] => True
  | x :: W => q 149 (W.length : Int) = x ∧ wst q W
theorem wst_of {q q' : aM} : ∀ {W : List Int}, (∀ j, 0 ≤ j → j < (W.length : Int) → q' 149 j = q 149 j) → wst q W → wst q' W
  | [], _, _ => trivial
  | x :: W, e, h => ⟨by rw [e _ (by omega) (by simp only [List.length_cons]; omega)]; exact h.1, wst_of (fun j a b => e j a (by simp only [List.length_cons]; omega)) h.2⟩
def WQ (q : aM) (W : List Int) : Prop := q 130 34 = (W.length : Int) ∧ wst q W
def dep : List Int → Int
  | [] => 0
  | x :: W => dep W + (if x = 2 ∨ x = 5 then 1 else 0)
def dq (q : aM) : Nat → Int
  | 0 => 0
  | k + 1 => dq q k + (if q 149 (k : Int) = 2 ∨ q 149 (k : Int) = 5 then 1 else 0)
theorem dq_dep {q : aM} : ∀ {W : List Int}, wst q W → dq q W.length = dep W
  | [], _ => rfl
  | x :: W, h => by
    show dq q W.length + _ = dep W + _
    rw [dq_dep h.2, h.1]
theorem dep_rng : ∀ {W : List Int}, 0 ≤ dep W ∧ dep W ≤ (W.length : Int)
  | [] => ⟨by decide, by decide⟩
  | x :: W => by
    have := dep_rng (W := W)
    show 0 ≤ dep W + _ ∧ dep W + _ ≤ _
    simp only [List.length_cons]
    split <;> omega
theorem dq_rng {q : aM} : ∀ k : Nat, 0 ≤ dq q k ∧ dq q k ≤ (k : Int)
  | 0 => ⟨Int.le_refl 0, Int.le_refl 0⟩
  | k + 1 => by
    have := dq_rng (q := q) k
    show 0 ≤ dq q k + _ ∧ dq q k + _ ≤ _
    split <;> omega
theorem r_depth {q : aM} {W : List Int} (h : WQ q W) (hl : (W.length : Int) < 100) : fM_depth q = some (dep W) := by
  unfold fM_depth fM_depth_4
  obtain ⟨r, h1, h2⟩ := aLoop_ok (f := fM_depth_4_b q) (Inv := fun x : Int × Int => ∃ k : Nat, x = (dq q k, (k : Int)) ∧ k ≤ W.length) (μ := fun x => W.length - x.2.toNat) (Post := fun r => r = dep W) (by
    rintro x ⟨k, e, hk⟩
    subst e
    unfold fM_depth_4_b
    simp only
    have d := dq_rng (q := q) k
    rw [h.1]
    by_cases hi : k < W.length
    · left
      rw [if_pos (by omega), gd_pos (by omega), w32_id (by omega) (by omega), w32_id (by omega) (by omega)]
      refine ⟨(dq q (k + 1), ((k + 1 : Nat) : Int)), ?_, ⟨k + 1, rfl, hi⟩, by simp only; omega⟩
      show _ = some (Sum.inl (dq q k + (if q 149 (k : Int) = 2 ∨ q 149 (k : Int) = 5 then 1 else 0), _))
      by_cases e2 : q 149 (k : Int) = 2
      · rw [if_pos e2, if_pos (Or.inl e2)]; rfl
      · rw [if_neg e2]
        by_cases e5 : q 149 (k : Int) = 5
        · rw [if_pos e5, if_pos (Or.inr e5)]; rfl
        · rw [if_neg e5, if_neg (fun g => by rcases g with g | g; exact e2 g; exact e5 g), Int.add_zero]; rfl
    · right
      rw [if_neg (by omega)]
      refine ⟨_, rfl, ?_⟩
      rw [show k = W.length by omega]
      exact dq_dep h.2) FU (0, 0) ⟨0, rfl, Nat.zero_le _⟩ (by show _ < 1000000; simp only; omega)
  rw [h1, h2]
theorem WQ.push {q : aM} {W : List Int} {x : Int} (h : WQ q W) : WQ (mup (mup q 149 (q 130 34) x) 130 34 (q 130 34 + 1)) (x :: W) := by
  refine ⟨?_, ?_, ?_⟩
  · rw [mup_same, h.1]; simp only [List.length_cons]; omega
  · rw [mup_ref (by decide), h.1, mup_same]
  · refine wst_of (fun j a b => ?_) h.2
    rw [mup_ref (by decide), h.1, mup_idx (by omega)]
theorem WQ.of {q q' : aM} {W : List Int} (h : WQ q W) (e1 : q' 130 34 = q 130 34) (e2 : q' 149 = q 149) : WQ q' W := ⟨e1.trans h.1, wst_of (fun j _ _ => by rw [e2]) h.2⟩
/-! the steps -/
def cmR (c0 : aM) (N : Int) (q : aM) (k s : Int) : Prop := 0 ≤ s ∧ s + 2 < N ∧ 0 ≤ c0 (24 + s) 4 ∧ q 143 k = c0 (24 + s) 4 ∧
  ((c0 (24 + (s + 1)) 3 = 11 ∧ q 142 k = 1) ∨ (c0 (24 + (s + 1)) 3 ≠ 11 ∧ q 142 k = 0 ∧ c0 (24 + (s + 1)) 0 = 3 ∧ q 144 k = opN (c0 (24 + (s + 1)) 7) ∧ c0 (24 + (s + 2)) 5 = c0 (24 + s) 5 ∧ q 145 k = c0 (24 + (s + 2)) 4 ∧
    (c0 (24 + (s + 2)) 4 = -1 → q 146 k = 240 + c0 (24 + (s + 2)) 1 + 1 ∧ q 147 k = 240 + c0 (24 + (s + 2)) 2 - 1 ∧ (c0 (24 + (s + 2)) 5 ≤ 2 → q 148 k = c0 (24 + (s + 2)) 6))))
def stR (c0 : aM) (N : Int) (q : aM) (k s : Int) : Prop := (s = -1 ∧ q 142 k = 3) ∨ (s = -2 ∧ q 142 k = 4) ∨ (s = -3 ∧ q 142 k = 2) ∨ cmR c0 N q k s
theorem stR.of {c0 q q' : aM} {N k s : Int} (h : stR c0 N q k s) (e : ∀ y, 142 ≤ y → y ≤ 148 → q' y k = q y k) : stR c0 N q' k s := by
  unfold stR cmR
  rw [e 142 (by decide) (by decide), e 143 (by decide) (by decide), e 144 (by decide) (by decide), e 145 (by decide) (by decide), e 146 (by decide) (by decide), e 147 (by decide) (by decide), e 148 (by decide) (by decide)]
  exact h
def rst (c0 : aM) (N : Int) (q : aM) : List Int → Prop
  | [] => True
  | s :: L => stR c0 N q (L.length : Int) s ∧ rst c0 N q L
theorem rst_of {c0 q q' : aM} {N : Int} : ∀ {L : List Int}, (∀ y j, 142 ≤ y → y ≤ 148 → 0 ≤ j → j < (L.length : Int) → q' y j = q y j) → rst c0 N q L → rst c0 N q' L
  | [], _, _ => trivial
  | s :: L, e, h => ⟨h.1.of (fun y a b => e y _ a b (by omega) (by simp only [List.length_cons]; omega)), rst_of (fun y j a b g i => e y j a b g (by simp only [List.length_cons]; omega)) h.2⟩
def RQ (c0 : aM) (N : Int) (q : aM) (L : List Int) : Prop := q 130 26 = (L.length : Int) ∧ rst c0 N q L
theorem RQ.of {c0 q q' : aM} {N : Int} {L : List Int} (h : RQ c0 N q L) (e1 : q' 130 26 = q 130 26) (e2 : ∀ y, 142 ≤ y → y ≤ 148 → q' y = q y) : RQ c0 N q' L := ⟨e1.trans h.1, rst_of (fun y j a b _ _ => by rw [e2 y a b]) h.2⟩
def cst (c : aM) : List Int → Prop
  | [] => True
  | s :: L => c 121 (L.length : Int) = s ∧ cst c L
theorem cst_of {c c' : aM} : ∀ {L : List Int}, (∀ j, 0 ≤ j → j < (L.length : Int) → c' 121 j = c 121 j) → cst c L → cst c' L
  | [], _, _ => trivial
  | x :: W, e, h => ⟨by rw [e _ (by omega) (by simp only [List.length_cons]; omega)]; exact h.1, cst_of (fun j a b => e j a (by simp only [List.length_cons]; omega)) h.2⟩
def CL (c : aM) (L : List Int) : Prop := c 21 3 = (L.length : Int) ∧ cst c L
theorem CL.of {c c' : aM} {L : List Int} (h : CL c L) (e1 : c' 21 3 = c 21 3) (e2 : c' 121 = c 121) : CL c' L := ⟨e1.trans h.1, cst_of (fun j _ _ => by rw [e2]) h.2⟩
theorem CL.add {c : aM} {L : List Int} {x : Int} (h : CL c L) : CL (mup (mup c 121 (c 21 3) x) 21 3 (c 21 3 + 1)) (x :: L) := by
  refine ⟨?_, ?_, ?_⟩
  · rw [mup_same, h.1]; simp only [List.length_cons]; omega
  · rw [mup_ref (by decide), h.1, mup_same]
  · refine cst_of (fun j a b => ?_) h.2
    rw [mup_ref (by decide), h.1, mup_idx (by omega)]
/-- the class adds a step -/
theorem k_push {c0 c : aM} {N p x : Int} {L : List Int} (h : CS c0 c N p) (hl : CL c L) (h96 : (L.length : Int) < 96) : ∃ c', fQ_addStep c x = some c' ∧ CS c0 c' N p ∧ CL c' (x :: L) := by
  refine ⟨_, k_add h.2.2.2.2 (by rw [hl.1]; exact h96), ?_, hl.add⟩
  obtain ⟨h1, h2, h3, h4, h5⟩ := h
  refine ⟨(h1.up (Or.inr rfl)).up (Or.inl ⟨rfl, by omega⟩), ?_, ?_, h4, ?_⟩
  · rw [mup_idx (by decide), mup_ref (by decide)]; exact h2
  · rw [mup_idx (by decide), mup_ref (by decide)]; exact h3
  · rw [mup_same]; omega
/-- what a waiting sign becomes as a step of the class -/
def cod (a : Int) : Int := if a = 2 then -3 else if a = 3 then -1 else -2
def outs : List Int → List Int → List Int
  | [], R => R
  | a :: A, R => outs A (cod a :: R)
theorem outs_len : ∀ {A R : List Int}, (outs A R).length = A.length + R.length
  | [], R => by simp [outs]
  | a :: A, R => by
    show (outs A (cod a :: R)).length = _
    rw [outs_len]
    simp only [List.length_cons]
    omega
abbrev rlP (y j : Int) : Prop := (y = 130 ∧ (j = 26 ∨ j = 34)) ∨ y = 142
theorem r_add {q : aM} {x : Int} (h0 : 0 ≤ q 130 26) (h1 : q 130 26 < 100) : fM_addStep q x = some (mup (mup q 142 (q 130 26) x) 130 26 (q 130 26 + 1)) := by
  unfold fM_addStep
  rw [gd_pos ⟨h0, h1⟩, w32_id (by omega) (by omega)]
theorem rel_stop {q : aM} {lo hi : Int} {W' : List Int} (hW : W' = [] ∨ ∃ x X, W' = x :: X ∧ (x < lo ∨ hi < x)) (hw : WQ q W') (hl : (W'.length : Int) < 100) : fM_release_0_b lo hi q = some (Sum.inr q) ∧ fM_release q lo hi = some q := by
  unfold fM_release_0_b fM_release
  rcases hW with e | ⟨x, X, e, hx⟩
  · subst e
    rw [if_neg (by rw [hw.1]; decide), if_neg (by rw [hw.1]; decide)]
    exact ⟨rfl, rfl⟩
  · subst e
    have l1 := hw.1
    simp only [List.length_cons] at l1 hl
    have ep : 0 < q 130 34 := by omega
    have ew : w32 (q 130 34 - 1) = (X.length : Int) := by rw [w32_id (by omega) (by omega)]; omega
    rw [if_pos ep, if_pos ep, ew, gd_pos (by omega), gd_pos (by omega), hw.2.1]
    by_cases h1 : x < lo
    · rw [if_pos h1, if_pos h1]
      exact ⟨rfl, rfl⟩
    · have h2 : hi < x := by omega
      rw [if_neg h1, if_neg h1, if_pos h2, if_pos h2]
      exact ⟨rfl, rfl⟩
theorem rel_one {c0 q : aM} {N lo hi a : Int} {V R : List Int} (hw : WQ q (a :: V)) (hr : RQ c0 N q R) (la : lo ≤ a ∧ a ≤ hi ∧ 2 ≤ a ∧ a ≤ 4) (hl : (R.length : Int) + (V.length : Int) + 1 < 100) : ∃ q1, fM_release_0_b lo hi q = some (Sum.inl q1) ∧ fM_release q lo hi = fM_release_0 q1 lo hi ∧ WQ q1 V ∧ RQ c0 N q1 (cod a :: R) ∧ Fr rlP q q1 := by
  have l1 := hw.1
  simp only [List.length_cons] at l1
  have r1 := hr.1
  obtain ⟨q1, eq1⟩ : ∃ q1, q1 = mup (mup (mup q 130 34 (V.length : Int)) 142 (q 130 26) a) 130 26 (q 130 26 + 1) := ⟨_, rfl⟩
  have f1 : Fr rlP q q1 := by
    rw [eq1]
    exact ((Fr.rf.up (Or.inl ⟨rfl, Or.inr rfl⟩)).up (Or.inr rfl)).up (Or.inl ⟨rfl, Or.inl rfl⟩)
  have ea : fM_addStep (mup q 130 34 (V.length : Int)) a = some q1 := by
    rw [r_add (by rw [mup_idx (by decide)]; omega) (by rw [mup_idx (by decide)]; omega), mup_idx (by decide), eq1]
  refine ⟨q1, ?_, ?_, ⟨by rw [eq1, mup_idx (by decide), mup_ref (by decide), mup_same], wst_of (fun j a b => by rw [eq1, mup_ref (by decide), mup_ref (by decide), mup_ref (by decide)]) hw.2.2⟩, ⟨by rw [eq1, mup_same, r1]; simp only [List.length_cons]; omega, ?_, rst_of (fun y j y0 y1 j0 j1 => by rw [eq1, mup_ref (by omega), r1, mup_idx (by omega), mup_ref (by omega)]) hr.2⟩, f1⟩
  · unfold fM_release_0_b
    rw [if_pos (by omega), w32_id (by omega) (by omega), gd_pos (by omega), show q 130 34 - 1 = (V.length : Int) by omega, hw.2.1, if_neg (by omega), if_neg (by omega), ea]
    rfl
  · unfold fM_release
    rw [if_pos (by omega), w32_id (by omega) (by omega), gd_pos (by omega), show q 130 34 - 1 = (V.length : Int) by omega, hw.2.1, if_neg (by omega), if_neg (by omega), ea]
    rfl
  · unfold stR cod
    rw [eq1, mup_ref (by decide), ← r1, mup_same]
    by_cases e2 : a = 2
    · rw [if_pos e2]; exact Or.inr (Or.inr (Or.inl ⟨rfl, e2⟩))
    · rw [if_neg e2]
      by_cases e3 : a = 3
      · rw [if_pos e3]; exact Or.inl ⟨rfl, e3⟩
      · rw [if_neg e3]; exact Or.inr (Or.inl ⟨rfl, by omega⟩)
theorem rel_go {c0 : aM} {N lo hi : Int} {W' : List Int} (hW : W' = [] ∨ ∃ x X, W' = x :: X ∧ (x < lo ∨ hi < x)) (A : List Int) : ∀ (R : List Int) (q : aM) (f : Nat), WQ q (A ++ W') → RQ c0 N q R → (∀ a ∈ A, lo ≤ a ∧ a ≤ hi ∧ 2 ≤ a ∧ a ≤ 4) → A.length < f → ((R.length : Int) + ((A ++ W').length : Int)) < 100 → ∃ q', aLoop (fM_release_0_b lo hi) f q = some q' ∧ WQ q' W' ∧ RQ c0 N q' (outs A R) ∧ Fr rlP q q' := by
  induction A with
  | nil =>
    intro R q f hw hr _ hf hl
    obtain ⟨g, rfl⟩ : ∃ g, f = g + 1 := ⟨f - 1, by simp only [List.length_nil] at hf; omega⟩
    rw [List.nil_append] at hw hl
    exact ⟨q, aL_end (rel_stop hW hw (by omega)).1, hw, hr, Fr.rf⟩
  | cons a A ih =>
    intro R q f hw hr ha hf hl
    obtain ⟨g, rfl⟩ : ∃ g, f = g + 1 := ⟨f - 1, by simp only [List.length_cons] at hf; omega⟩
    rw [List.cons_append] at hw hl
    simp only [List.length_cons] at hl hf
    obtain ⟨q1, b1, -, w1, r1, f1⟩ := rel_one hw hr (ha a (List.mem_cons_self ..)) (by omega)
    obtain ⟨q2, e2, w2, r2, f2⟩ := ih (cod a :: R) q1 g w1 r1 (fun b hb => ha b (List.mem_cons_of_mem _ hb)) (by omega) (by simp only [List.length_cons]; omega)
    exact ⟨q2, (aL_go b1).trans e2, w2, r2, f1.tr f2⟩
theorem r_rel {c0 q : aM} {N lo hi : Int} {A W' R : List Int} (hw : WQ q (A ++ W')) (hr : RQ c0 N q R) (hW : W' = [] ∨ ∃ x X, W' = x :: X ∧ (x < lo ∨ hi < x)) (ha : ∀ a ∈ A, lo ≤ a ∧ a ≤ hi ∧ 2 ≤ a ∧ a ≤ 4) (hl : ((R.length : Int) + ((A ++ W').length : Int)) < 100) : ∃ q', fM_release q lo hi = some q' ∧ WQ q' W' ∧ RQ c0 N q' (outs A R) ∧ Fr rlP q q' := by
  cases A with
  | nil =>
    rw [List.nil_append] at hw hl
    exact ⟨q, (rel_stop hW hw (by omega)).2, hw, hr, Fr.rf⟩
  | cons a A =>
    rw [List.cons_append] at hw hl
    simp only [List.length_cons] at hl
    obtain ⟨q1, -, b1, w1, r1, f1⟩ := rel_one hw hr (ha a (List.mem_cons_self ..)) (by omega)
    obtain ⟨q2, e2, w2, r2, f2⟩ := rel_go hW A (cod a :: R) q1 FU w1 r1 (fun b hb => ha b (List.mem_cons_of_mem _ hb)) (by simp only [List.length_append] at hl; show _ < 1000000; omega) (by simp only [List.length_cons]; omega)
    exact ⟨q2, b1.trans e2, w2, r2, f1.tr f2⟩
