/-! ASK: conditions, class and reference side by side -/
/-- the reference behind an operand -/
def rA (f g : Nat) (q : aM) : Option (Int × aM) := match aLoop fM_condition_25_b g q with
  | none => none
  | some (.inl y) => aLoop fM_condition_12_b f y
  | some (.inr v) => some v
/-- the reference before an operand -/
def rE (f g : Nat) (q : aM) : Option (Int × aM) := (aLoop fM_part_2_b g (q, 1)).bind fun v3 => if v3.1 = 0 then some (0, v3.2) else rA f FU v3.2
theorem aL_none {X V : Type} {f : X → Option (X ⊕ V)} {n : Nat} {x : X} (h : f x = none) : aLoop f (n + 1) x = none := by
  unfold aLoop
  rw [h]
theorem cond_E {f : Nat} {q : aM} : aLoop fM_condition_12_b (f + 1) (q, 1) = rE f FU q := by
  have e : fM_condition_12_b (q, 1) = (aLoop fM_part_2_b FU (q, 1)).bind fun v3 => if v3.1 = 0 then some (Sum.inr (0, v3.2)) else aLoop fM_condition_25_b FU v3.2 := by
    unfold fM_condition_12_b
    simp only
    rw [if_neg (by decide)]
    rfl
  unfold rE
  cases hp : aLoop fM_part_2_b FU (q, 1) with
  | none =>
    rw [hp] at e
    exact aL_none e
  | some v3 =>
    rw [hp] at e
    simp only [Option.bind_some] at e ⊢
    by_cases h : v3.1 = 0
    · rw [if_pos h] at e
      rw [if_pos h]
      exact aL_end e
    · rw [if_neg h] at e
      rw [if_neg h]
      unfold rA
      cases hq : aLoop fM_condition_25_b FU v3.2 with
      | none => rw [hq] at e; exact aL_none e
      | some r =>
        rw [hq] at e
        cases r with
        | inl y => exact aL_go e
        | inr v => exact aL_end e
theorem E_go {f g : Nat} {q q' : aM} (h : fM_part_2_b (q, 1) = some (.inl (q', 1))) : rE f (g + 1) q = rE f g q' := by
  unfold rE
  rw [aL_go h]
theorem E_no {f g : Nat} {q q' : aM} (h : fM_part_2_b (q, 1) = some (.inr (0, q'))) : rE f (g + 1) q = some (0, q') := by
  unfold rE
  rw [aL_end h]
  simp only [Option.bind_some]
  rw [if_pos trivial]
theorem E_cmp {f g : Nat} {q : aM} {r : Int × aM} (h : fM_part_2_b (q, 1) = some (.inl (q, 0))) (h2 : fM_part_2_b (q, 0) = some (.inr r)) : rE f (g + 2) q = if r.1 = 0 then some (0, r.2) else rA f FU r.2 := by
  unfold rE
  rw [aL_go h, aL_end h2]
  rfl
theorem A_go {f g : Nat} {q q' : aM} (h : fM_condition_25_b q = some (.inl q')) : rA f (g + 1) q = rA f g q' := by
  unfold rA
  rw [aL_go h]
theorem A_op {f g : Nat} {q : aM} {y : aM × Int} (h : fM_condition_25_b q = some (.inr (.inl y))) : rA f (g + 1) q = aLoop fM_condition_12_b f y := by
  unfold rA
  rw [aL_end h]
theorem dep_app : ∀ {x W : List Int}, (∀ a ∈ x, a = 3 ∨ a = 4) → dep (x ++ W) = dep W
  | [], W, _ => rfl
  | a :: x, W, h => by
    show dep (x ++ W) + _ = _
    have := h a (List.mem_cons_self ..)
    rw [dep_app (fun b hb => h b (List.mem_cons_of_mem _ hb)), if_neg (by omega), Int.add_zero]
theorem outs_app : ∀ {A B R : List Int}, outs (A ++ B) R = outs B (outs A R)
  | [], B, R => rfl
  | a :: A, B, R => by
    show outs (A ++ B) (cod a :: R) = outs B (outs A (cod a :: R))
    exact outs_app
/-- how many truths the steps leave -/
def ht : List Int → Int
  | [] => 0
  | s :: L => if s = -3 then ht L else if s < 0 then ht L - 1 else ht L + 1
/-- each step finds what it needs -/
def wf : List Int → Prop
  | [] => True
  | s :: L => wf L ∧ -3 ≤ s ∧ (s = -3 → 1 ≤ ht L) ∧ ((s = -1 ∨ s = -2) → 2 ≤ ht L)
theorem ht_rng : ∀ {L : List Int}, wf L → 0 ≤ ht L ∧ ht L ≤ (L.length : Int)
  | [], _ => ⟨Int.le_refl 0, Int.le_refl 0⟩
  | s :: L, h => by
    have := ht_rng h.1
    have h2 := h.2
    show 0 ≤ (if s = -3 then ht L else if s < 0 then ht L - 1 else ht L + 1) ∧ (if s = -3 then ht L else if s < 0 then ht L - 1 else ht L + 1) ≤ _
    simp only [List.length_cons]
    split
    · omega
    · split <;> omega
theorem wf_op {L : List Int} {s : Int} (h : wf L) (hs : s = -1 ∨ s = -2) (h2 : 2 ≤ ht L) : wf (s :: L) ∧ ht (s :: L) = ht L - 1 := by
  refine ⟨⟨h, by omega, by omega, fun _ => h2⟩, ?_⟩
  show (if s = -3 then ht L else if s < 0 then ht L - 1 else ht L + 1) = _
  rw [if_neg (by omega), if_pos (by omega)]
theorem wf_not {L : List Int} (h : wf L) (h2 : 1 ≤ ht L) : wf (-3 :: L) ∧ ht (-3 :: L) = ht L := ⟨⟨h, by decide, fun _ => h2, by omega⟩, rfl⟩
theorem wf_cmp {L : List Int} {s : Int} (h : wf L) (hs : 0 ≤ s) : wf (s :: L) ∧ ht (s :: L) = ht L + 1 := by
  refine ⟨⟨h, by omega, by omega, by omega⟩, ?_⟩
  show (if s = -3 then ht L else if s < 0 then ht L - 1 else ht L + 1) = _
  rw [if_neg (by omega), if_neg (by omega)]
theorem cmp_bad {c0 c : aM} {T : Tb} {u : Int → Int} {n N p : Int} (hx : Cx c0 T u n N) (hc : CS c0 c N p) (h4 : c0 (24 + p) 4 = -1) : ∃ c', fQ_readComparison c = some c' ∧ CW c0 c' N (c0 (24 + p) 1) := by
  have p0 := hc.2.2.2.1.1
  have pN := hc.2.2.2.1.2
  have hT := hx.tk p0 pN
  unfold fQ_readComparison fQ_readComparison_51
  rw [k_name hx hc, hc.2.1]
  simp only [Option.bind_some]
  rw [if_neg (fun g => g.1 h4)]
  have hw := hc.no (c0 (24 + p) 1)
  have w0 := hT.1.1
  rw [w_take hx hw w0]
  simp only [Option.bind_some]
  rw [if_pos trivial, w_kind hx hw w0]
  simp only [Option.bind_some]
  rw [g_get hx hw.1 p0 pN]
  simp only [Option.bind_some]
  rw [w_sort hx hw w0]
  simp only [Option.bind_some]
  obtain ⟨c', e, g⟩ := w_add hw (x := p)
  rw [e]
  exact ⟨c', rfl, g⟩
/-- both sides: the place, what waits, the steps of the class and of the reference -/
def J (c0 q0 : aM) (T : Tb) (u : Int → Int) (n N : Int) (c q : aM) (p : Int) (W L R : List Int) : Prop := CS c0 c N p ∧ CL c L ∧ RS c0 q T u n N p ∧ Fr cnP q0 q ∧ WQ q W ∧ RQ c0 N q R ∧ (R.length : Int) + (W.length : Int) ≤ p
section
variable {c0 q0 : aM} {T : Tb} {u : Int → Int} {n N : Int}
theorem WQ.nx {q q' : aM} {W : List Int} (h : WQ q W) (f : Fr nxP q q') : WQ q' W := h.of (f 130 34 (fun e => by omega)) (nx_row f 149 (by decide))
theorem RQ.nx {q q' : aM} {R : List Int} (h : RQ c0 N q R) (f : Fr nxP q q') : RQ c0 N q' R := h.of (f 130 26 (fun e => by omega)) (fun y a b => nx_row f y (by omega))
theorem CL.go {c : aM} {L : List Int} {p : Int} (h : CL c L) : CL (mup c 21 4 p) L := h.of (mup_idx (by decide)) (row_up (by decide))
theorem r_push {q : aM} {p x : Int} {W R : List Int} (hx : Cx c0 T u n N) (hr : RS c0 q T u n N p) (hw : WQ q W) (hq : RQ c0 N q R) (k0 : c0 (24 + p) 0 ≠ 0) (k6 : c0 (24 + p) 0 ≠ 6) (hl : (W.length : Int) < 100) : ∃ q', fM_next (mup (mup q 149 (q 130 34) x) 130 34 (w32 ((mup q 149 (q 130 34) x) 130 34 + 1))) = some q' ∧ RS c0 q' T u n N (p + 1) ∧ WQ q' (x :: W) ∧ RQ c0 N q' R ∧ Fr cnP q q' ∧ p < N := by
  rw [mup_ref (show (130 : Int) ≠ 149 by decide), w32_id (by rw [hw.1]; omega) (by rw [hw.1]; omega)]
  have fs : Fr srP q (mup (mup q 149 (q 130 34) x) 130 34 (q 130 34 + 1)) := (Fr.rf.up (Or.inr ⟨by decide, by decide⟩)).up (Or.inl ⟨rfl, Or.inr rfl⟩)
  obtain ⟨q', e, hr', f, hp⟩ := s_next hx (hr.st fs) k0 k6
  refine ⟨q', e, hr', hw.push.nx f, RQ.nx (hq.of ?_ (fun y a b => ?_)) f, (st_cn fs).tr (nx_cn f), hp⟩
  · rw [mup_idx (by decide), mup_ref (by decide)]
  · rw [row_up (by omega), row_up (by omega)]
/-- before a part: a sign that waits -/
theorem E_push {c q : aM} {p x : Int} {W L : List Int} {f g : Nat} (hx : Cx c0 T u n N) (h : J c0 q0 T u n N c q p W L L) (hd : dep W < 8) (hk : (x = 2 ∧ c0 (24 + p) 3 = 10) ∨ (x = 5 ∧ c0 (24 + p) 3 ≠ 10 ∧ c0 (24 + p) 0 = 4)) : ∃ q', rE f (g + 1) q = rE f g q' ∧ J c0 q0 T u n N (mup c 21 4 (p + 1)) q' (p + 1) (x :: W) L L := by
  obtain ⟨j1, j2, j3, j4, j5, j6, j7⟩ := h
  have h96 := hx.N96
  have pr := j3.2.2.2
  have hT := hx.tk pr.1 pr.2
  have kind : c0 (24 + p) 0 ≠ 0 ∧ c0 (24 + p) 0 ≠ 6 := by
    rcases hk with ⟨-, k⟩ | ⟨-, -, k⟩
    · have := (o_res hx.1 hT (by omega)).2; omega
    · omega
  obtain ⟨q', e, hr', hw', hq', f', hp⟩ := r_push (x := x) hx j3 j5 j6 kind.1 kind.2 (by omega)
  refine ⟨q', E_go ?_, j1.go hp, j2.go, hr', j4.tr f', hw', hq', by simp only [List.length_cons]; omega⟩
  have e68 : fM_part_68 q 1 149 (q 130 34) x = some (Sum.inl (q', 1)) := by
    unfold fM_part_68
    rw [gd_pos (by show 0 ≤ q 130 34 ∧ q 130 34 < 100; rw [j5.1]; omega), e]
    rfl
  unfold fM_part_2_b fM_part_32
  simp only
  rw [if_neg (by decide), ow hx j3 (k := 10) kS_pk.2.2.2.2.1 (by decide) (by decide)]
  simp only [Option.bind_some]
  rw [r_depth j5 (by omega)]
  rcases hk with ⟨k, k'⟩ | ⟨k, k', k''⟩
  · rw [if_pos k', if_neg (by decide), if_neg (by decide)]
    simp only [Option.bind_some]
    rw [if_neg (by omega), if_neg (by decide), ← k]
    exact e68
  · rw [if_neg k', if_pos rfl, (o_sign j3.1 j3.2.1 hT).1, if_pos k'']
    simp only [Option.bind_some]
    rw [if_neg (by decide), if_neg (by decide), if_neg (by omega), if_pos trivial, ← k]
    exact e68
/-- before a part: too deep -/
theorem E_deep {c q : aM} {p : Int} {W L : List Int} {f g : Nat} (hx : Cx c0 T u n N) (h : J c0 q0 T u n N c q p W L L) (hd : dep W = 8) (hk : c0 (24 + p) 3 = 10 ∨ c0 (24 + p) 0 = 4) : c0 (24 + p) 4 = -1 ∧ rE f (g + 1) q = some (0, mup q 130 25 (c0 (24 + p) 1)) := by
  obtain ⟨j1, j2, j3, j4, j5, j6, j7⟩ := h
  have h96 := hx.N96
  have pr := j3.2.2.2
  have hT := hx.tk pr.1 pr.2
  refine ⟨?_, E_no ?_⟩
  · rcases hk with k | k
    · exact (o_res hx.1 hT (by omega)).1
    · rcases hT.sum with ⟨a, -⟩ | ⟨-, a, -⟩
      · omega
      · exact a.2
  have e32 (x : Int) : fM_part_32 q x 1 = some (Sum.inr (0, mup q 130 25 (c0 (24 + p) 1))) := by
    unfold fM_part_32
    rw [if_neg (by decide), r_depth j5 (by omega)]
    simp only [Option.bind_some]
    rw [if_pos hd, owr hx j3, gd_pos (Or.inl rfl)]
  unfold fM_part_2_b
  simp only
  rw [if_neg (by decide), ow hx j3 (k := 10) kS_pk.2.2.2.2.1 (by decide) (by decide)]
  simp only [Option.bind_some]
  by_cases k' : c0 (24 + p) 3 = 10
  · rw [if_pos k', if_neg (by decide), e32]
  · rw [if_neg k', if_pos rfl, (o_sign j3.1 j3.2.1 hT).1, if_pos (show c0 (24 + p) 0 = 4 by omega)]
    simp only [Option.bind_some]
    rw [if_neg (by decide), e32]
/-- a comparison, and the NOTs before it -/
theorem E_comp {c q : aM} {p : Int} {A W' L : List Int} {f g : Nat} (hx : Cx c0 T u n N) (h : J c0 q0 T u n N c q p (A ++ W') L L) (hA : ∀ a ∈ A, a = 2) (hW : W' = [] ∨ ∃ x X, W' = x :: X ∧ x ≠ 2) (k1 : c0 (24 + p) 3 ≠ 10) (k2 : c0 (24 + p) 0 ≠ 4) :
    ∃ c', fQ_readComparison c = some c' ∧ ((∃ q', rE f (g + 2) q = rA f FU q' ∧ J c0 q0 T u n N c' q' (p + 3) W' (p :: L) (outs A (p :: L))) ∨ BAD c0 q0 c' N (rE f (g + 2) q)) := by
  obtain ⟨j1, j2, j3, j4, j5, j6, j7⟩ := h
  have h96 := hx.N96
  have pr := j3.2.2.2
  have hT := hx.tk pr.1 pr.2
  have b1 : fM_part_2_b (q, 1) = some (.inl (q, 0)) := by
    unfold fM_part_2_b fM_part_32
    simp only
    rw [if_neg (by decide), ow hx j3 (k := 10) kS_pk.2.2.2.2.1 (by decide) (by decide)]
    simp only [Option.bind_some]
    rw [if_neg k1, if_pos trivial, (o_sign j3.1 j3.2.1 hT).1, if_neg k2]
    simp only [Option.bind_some]
    rw [if_pos trivial, if_pos trivial]
  have la : 0 ≤ ((A ++ W').length : Int) := by omega
  -- the class's last step leaves room: else the comparison itself is at the end
  by_cases hfull : (L.length : Int) < 96
  · obtain ⟨c', ec, hcase⟩ := cmp_pair hx j1 j2 j3 j6 hfull (by omega)
    refine ⟨c', ec, ?_⟩
    rcases hcase with ⟨q1, g1, g2, g3, g4, g5, g6, g7, g8⟩ | ⟨w, q1, g1, g2, g3, g4, g5⟩
    · left
      have pN := g4.2.2.2
      have hw1 : WQ q1 (A ++ W') := j5.of g7 g8
      obtain ⟨q2, e2, w2, r2, f2⟩ := r_rel (lo := 2) (hi := 2) hw1 g5 (by
        rcases hW with e | ⟨x, X, e, hx2⟩
        · exact Or.inl e
        · exact Or.inr ⟨x, X, e, by omega⟩) (fun a ha => by have := hA a ha; omega) (by simp only [List.length_cons]; omega)
      refine ⟨q2, ?_, g1, g2, g4.st (rl_st f2), (j4.tr g6).tr (st_cn (rl_st f2)), w2, r2, ?_⟩
      · rw [E_cmp (r := (1, q2)) b1]
        · simp only
          rw [if_neg (by decide)]
        · unfold fM_part_2_b
          simp only
          rw [if_pos trivial, g3]
          simp only [Option.bind_some]
          rw [if_neg (by decide), e2]
          rfl
      · rw [outs_len]
        simp only [List.length_cons, List.length_append] at j7 ⊢
        omega
    · right
      refine ⟨w, q1, g1, g2, ?_, g4, j4.tr g5⟩
      rw [E_cmp (r := (0, q1)) b1]
      · simp only
        rw [if_pos trivial]
      · unfold fM_part_2_b
        simp only
        rw [if_pos trivial, g3]
        simp only [Option.bind_some]
        rw [if_pos trivial]
  · -- all places are used up: the token is the end
    have pN : p = N := by omega
    have e6 : c0 (24 + p) 0 = 6 := by rw [pN]; exact hx.2.1.2.2.2.2
    have h4 : c0 (24 + p) 4 = -1 := by
      rcases hT.sum with ⟨a, -⟩ | ⟨-, a, -⟩
      · omega
      · exact a.2
    obtain ⟨c', ec, hw⟩ := cmp_bad hx j1 h4
    refine ⟨c', ec, Or.inr ⟨_, mup q 130 25 (c0 (24 + p) 1), hT.1.1, hw, ?_, mup_same _ _ _ _, j4.up (Or.inl ⟨rfl, by omega⟩)⟩⟩
    have em : fM_comparison q = some (0, mup q 130 25 (c0 (24 + p) 1)) := by
      unfold fM_comparison
      rw [onm hx j3, h4]
      simp only [Option.bind_some]
      rw [if_pos (by decide), owr hx j3, gd_pos (Or.inl rfl)]
    rw [E_cmp (r := (0, mup q 130 25 (c0 (24 + p) 1))) b1]
    · simp only
      rw [if_pos trivial]
    · unfold fM_part_2_b
      simp only
      rw [if_pos trivial, em]
      simp only [Option.bind_some]
      rw [if_pos trivial]
/-- behind an operand: AND or OR -/
theorem A_sign {c q : aM} {p : Int} {x W L R : List Int} {f g : Nat} {hi k s : Int} (hx : Cx c0 T u n N) (h : J c0 q0 T u n N c q p (x ++ W) L R) (hL : L = outs x R) (hk : (k = 8 ∧ hi = 3 ∧ s = 3) ∨ (k = 9 ∧ hi = 4 ∧ s = 4)) (ht : c0 (24 + p) 3 = k) (hxx : ∀ a ∈ x, 3 ≤ a ∧ a ≤ hi) (hW : W = [] ∨ ∃ y Y, W = y :: Y ∧ (y < 3 ∨ hi < y)) : ∃ q', rA (f + 1) (g + 1) q = rE f FU q' ∧ J c0 q0 T u n N (mup c 21 4 (p + 1)) q' (p + 1) (s :: W) L L := by
  obtain ⟨j1, j2, j3, j4, j5, j6, j7⟩ := h
  have h96 := hx.N96
  have pr := j3.2.2.2
  have hT := hx.tk pr.1 pr.2
  have kind := (o_res hx.1 hT (by omega)).2
  obtain ⟨q1, e1, w1, r1, f1⟩ := r_rel (lo := 3) (hi := hi) j5 j6 hW (fun a ha => by have := hxx a ha; omega) (by omega)
  rw [← hL] at r1
  have lL : (L.length : Int) = (x.length : Int) + (R.length : Int) := by rw [hL, outs_len]; omega
  simp only [List.length_append] at j7
  obtain ⟨q2, e2, hr2, w2, r2, f2, hp⟩ := r_push (x := s) hx (j3.st (rl_st f1)) w1 r1 (by omega) (by omega) (by omega)
  refine ⟨q2, (A_op (y := (q2, 1)) ?_).trans cond_E, j1.go hp, j2.go, hr2, (j4.tr (st_cn (rl_st f1))).tr f2, w2, r2, by simp only [List.length_cons]; omega⟩
  have e133 : fM_condition_133 q1 1 149 (q1 130 34) s = some (Sum.inl (q2, 1)) := by
    unfold fM_condition_133
    rw [gd_pos (by show 0 ≤ q1 130 34 ∧ q1 130 34 < 100; rw [w1.1]; omega), e2]
    rfl
  unfold fM_condition_25_b
  rw [(o_sign j3.1 j3.2.1 hT).2, if_neg (show ¬ c0 (24 + p) 0 = 5 by omega)]
  simp only [Option.bind_some]
  rw [if_pos trivial]
  unfold fM_condition_70
  rw [ow hx j3 (k := 8) kS_pk.2.2.1 (by decide) (by decide), ow hx j3 (k := 9) kS_pk.2.2.2.1 (by decide) (by decide)]
  simp only [Option.bind_some]
  unfold fM_condition_97 fM_condition_113
  rcases hk with ⟨a, b, d⟩ | ⟨a, b, d⟩
  · subst a b d
    rw [if_pos ht, if_neg (by decide), if_neg (by decide), if_neg (by decide), e1]
    simp only [Option.bind_some]
    rw [if_neg (by decide), e133]
    rfl
  · subst a b d
    rw [if_neg (show ¬ c0 (24 + p) 3 = 8 by omega), if_pos rfl, if_pos ht, if_neg (by decide), if_neg (by decide), if_pos rfl, e1]
    simp only [Option.bind_some]
    rw [if_pos trivial, e133]
    rfl
/-- behind an operand: no sign that goes on -/
theorem A_none {q : aM} {p : Int} {W : List Int} {f g : Nat} (hx : Cx c0 T u n N) (j3 : RS c0 q T u n N p) (j5 : WQ q W) (hl : (W.length : Int) < 100) (h8 : c0 (24 + p) 3 ≠ 8) (h9 : c0 (24 + p) 3 ≠ 9) (h5 : c0 (24 + p) 0 = 5 → dep W = 0) : rA f (g + 1) q = aLoop fM_condition_12_b f (q, 0) := by
  have hT := hx.tk j3.2.2.2.1 j3.2.2.2.2
  have e70 : fM_condition_70 q = some (Sum.inl (q, 0)) := by
    unfold fM_condition_70 fM_condition_97
    rw [ow hx j3 (k := 8) kS_pk.2.2.1 (by decide) (by decide), ow hx j3 (k := 9) kS_pk.2.2.2.1 (by decide) (by decide), if_neg h8, if_neg h9]
    rfl
  apply A_op (y := (q, 0))
  unfold fM_condition_25_b
  rw [(o_sign j3.1 j3.2.1 hT).2]
  simp only [Option.bind_some]
  by_cases k : c0 (24 + p) 0 = 5
  · rw [if_pos k, if_neg (by decide), r_depth j5 hl]
    simp only [Option.bind_some]
    rw [if_neg (by rw [h5 k]; decide), e70]
    rfl
  · rw [if_neg k, if_pos rfl, e70]
    rfl
/-- behind an operand: the mark that closes -/
theorem A_close {c q : aM} {p : Int} {x A W' L R : List Int} {f g : Nat} (hx : Cx c0 T u n N) (h : J c0 q0 T u n N c q p (x ++ (5 :: (A ++ W'))) L R) (hL : L = outs x R) (ht : c0 (24 + p) 0 = 5) (hxx : ∀ a ∈ x, a = 3 ∨ a = 4) (hA : ∀ a ∈ A, a = 2) (hW : W' = [] ∨ ∃ x X, W' = x :: X ∧ x ≠ 2) : ∃ q', rA f (g + 1) q = rA f g q' ∧ J c0 q0 T u n N (mup c 21 4 (p + 1)) q' (p + 1) W' L (outs A L) := by
  obtain ⟨j1, j2, j3, j4, j5, j6, j7⟩ := h
  have h96 := hx.N96
  have pr := j3.2.2.2
  have hT := hx.tk pr.1 pr.2
  obtain ⟨q1, e1, w1, r1, f1⟩ := r_rel (lo := 3) (hi := 4) j5 j6 (Or.inr ⟨5, A ++ W', rfl, by omega⟩) (fun a ha => by have := hxx a ha; omega) (by omega)
  rw [← hL] at r1
  have lL : (L.length : Int) = (x.length : Int) + (R.length : Int) := by rw [hL, outs_len]; omega
  have j7' := j7
  simp only [List.length_append, List.length_cons] at j7'
  have k34 : q1 130 34 = ((A ++ W').length : Int) + 1 := by
    have := w1.1
    simp only [List.length_cons] at this
    omega
  obtain ⟨q2, eq2⟩ : ∃ q2, q2 = mup q1 130 34 (w32 (q1 130 34 - 1)) := ⟨_, rfl⟩
  have k2 : w32 (q1 130 34 - 1) = ((A ++ W').length : Int) := by
    rw [k34, w32_id (by omega) (by simp only [List.length_append]; omega)]
    omega
  have w2 : WQ q2 (A ++ W') := ⟨by rw [eq2, mup_same, k2], wst_of (fun j _ _ => by rw [eq2, mup_ref (by decide)]) w1.2.2⟩
  have r2 : RQ c0 N q2 L := r1.of (by rw [eq2, mup_idx (by decide)]) (fun y a b => by rw [eq2, row_up (by omega)])
  have f2 : Fr srP q1 q2 := by rw [eq2]; exact Fr.rf.up (Or.inl ⟨rfl, Or.inr rfl⟩)
  obtain ⟨q3, e3, w3, r3, f3⟩ := r_rel (lo := 2) (hi := 2) w2 r2 (by
    rcases hW with e | ⟨x, X, e, hx2⟩
    · exact Or.inl e
    · exact Or.inr ⟨x, X, e, by omega⟩) (fun a ha => by have := hA a ha; omega) (by simp only [List.length_append]; omega)
  obtain ⟨q4, e4, hr4, f4, hp⟩ := s_next hx (((j3.st (rl_st f1)).st f2).st (rl_st f3)) (by omega) (by omega)
  refine ⟨q4, A_go ?_, j1.go hp, j2.go, hr4, (((j4.tr (st_cn (rl_st f1))).tr (st_cn f2)).tr (st_cn (rl_st f3))).tr (nx_cn f4), w3.nx f4, RQ.nx r3 f4, ?_⟩
  · unfold fM_condition_25_b
    rw [(o_sign j3.1 j3.2.1 hT).2, if_pos ht]
    simp only [Option.bind_some]
    rw [if_neg (by decide), r_depth j5 (by omega), dep_app hxx]
    simp only [Option.bind_some]
    have dp : 0 < dep (5 :: (A ++ W')) := by
      have := dep_rng (W := A ++ W')
      show 0 < dep (A ++ W') + _
      rw [if_pos (Or.inr rfl)]
      omega
    rw [if_pos dp, e1]
    simp only [Option.bind_some]
    rw [← eq2, e3]
    simp only [Option.bind_some]
    rw [e4]
    rfl
  · rw [outs_len]
    omega
end
