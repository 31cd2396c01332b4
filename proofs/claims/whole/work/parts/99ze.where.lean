/-! ASK: conditions: the recursion of the class beside the reference's waiting signs -/
section
variable {c0 q0 : aM} {T : Tb} {u : Int → Int} {n N : Int}
/-- what a part comes to -/
def PartP (c0 q0 : aM) (T : Tb) (u : Int → Int) (n N : Int) (gP : aM → Int → Option aM) (d : Int) : Prop :=
  ∀ (c q : aM) (p : Int) (A W' L : List Int) (f g : Nat), J c0 q0 T u n N c q p (A ++ W') L L → wf L → dep (A ++ W') = d → (∀ a ∈ A, a = 2) → (W' = [] ∨ ∃ x X, W' = x :: X ∧ x ≠ 2) → 200 ≤ (f : Int) + p → 200 ≤ (g : Int) + p →
    ∃ c', gP c d = some c' ∧ ((∃ q' p' L' f' g', rE f g q = rA f' g' q' ∧ J c0 q0 T u n N c' q' p' W' L' (outs A L') ∧ (wf L' ∧ ht L' = ht L + 1) ∧ p < p' ∧ 200 ≤ (f' : Int) + p' ∧ 200 ≤ (g' : Int) + p') ∨ BAD c0 q0 c' N (rE f g q))
/-- what a list of parts comes to: what waits behind it is of the signs `ok` -/
def ListP (c0 q0 : aM) (T : Tb) (u : Int → Int) (n N : Int) (gA : aM → Int → Option aM) (d : Int) (ok no : Int → Prop) (ends : (Int → Int) → Prop) : Prop :=
  ∀ (c q : aM) (p : Int) (W L : List Int) (f g : Nat), J c0 q0 T u n N c q p W L L → wf L → dep W = d → (W = [] ∨ ∃ x X, W = x :: X ∧ no x) → 200 ≤ (f : Int) + p → 200 ≤ (g : Int) + p →
    ∃ c', gA c d = some c' ∧ ((∃ q' p' x L' R' f' g', rE f g q = rA f' g' q' ∧ J c0 q0 T u n N c' q' p' (x ++ W) L' R' ∧ L' = outs x R' ∧ (wf L' ∧ ht L' = ht L + 1) ∧ (∀ a ∈ x, ok a) ∧ ends (c0 (24 + p')) ∧ p < p' ∧ 200 ≤ (f' : Int) + p' ∧ 200 ≤ (g' : Int) + p') ∨ BAD c0 q0 c' N (rE f g q))
theorem go_all (hx : Cx c0 T u n N) {gP : aM → Int → Option aM} {d : Int} (hP : PartP c0 q0 T u n N gP d) : ListP c0 q0 T u n N (fQ_readAll gP) d (fun a => a = 3) (fun x => x ≠ 2 ∧ x ≠ 3) (fun τ => τ 3 ≠ 8) := by
  intro c q p W L f g hJ hwf hd hW hf hg
  have h96 := hx.N96
  obtain ⟨c1, e1, h1⟩ := hP c q p [] W L f g hJ hwf hd (fun a h => nomatch h) (by
    rcases hW with e | ⟨x, X, e, h⟩
    · exact Or.inl e
    · exact Or.inr ⟨x, X, e, h.1⟩) hf hg
  unfold fQ_readAll fQ_readAll_7
  rw [e1]
  simp only [Option.bind_some]
  refine aLoop_ok (Inv := fun s : aM × Int => 0 ≤ s.2 ∧ ((∃ q' p' x L' R' f' g', rE f g q = rA f' g' q' ∧ J c0 q0 T u n N s.1 q' p' (x ++ W) L' R' ∧ L' = outs x R' ∧ (wf L' ∧ ht L' = ht L + 1) ∧ (∀ a ∈ x, a = 3) ∧ p + s.2 < p' ∧ 200 ≤ (f' : Int) + p' ∧ 200 ≤ (g' : Int) + p') ∨ BAD c0 q0 s.1 N (rE f g q))) (μ := fun s => (96 - s.2).toNat) (Post := fun c' => (∃ q' p' x L' R' f' g', rE f g q = rA f' g' q' ∧ J c0 q0 T u n N c' q' p' (x ++ W) L' R' ∧ L' = outs x R' ∧ (wf L' ∧ ht L' = ht L + 1) ∧ (∀ a ∈ x, a = 3) ∧ c0 (24 + p') 3 ≠ 8 ∧ p < p' ∧ 200 ≤ (f' : Int) + p' ∧ 200 ≤ (g' : Int) + p') ∨ BAD c0 q0 c' N (rE f g q)) ?_ FU (c1, 0) ⟨by simp only; omega, ?_⟩ (by show _ < 1000000; simp only; omega)
  · rintro ⟨c2, k⟩ ⟨k0, hI⟩
    simp only at k0 hI
    unfold fQ_readAll_7_b
    simp only
    rcases hI with ⟨q2, p2, x, L2, R2, f2, g2, r1, r2, r3, rw2, r4, r5, r6, r7⟩ | hB
    · have pN := r2.1.2.2.2.1
      have p0 := hJ.1.2.2.2.1
      have hnn := ht_rng hwf
      rw [if_pos (by omega), k_take hx r2.1]
      simp only [Option.bind_some]
      by_cases h8 : c0 (24 + p2) 3 = 8
      · left
        rw [if_pos h8]
        simp only
        rw [if_neg (by decide)]
        obtain ⟨f3, rfl⟩ : ∃ f3, f2 = f3 + 1 := ⟨f2 - 1, by omega⟩
        obtain ⟨g3, rfl⟩ : ∃ g3, g2 = g3 + 1 := ⟨g2 - 1, by omega⟩
        obtain ⟨q3, a1, a2⟩ := A_sign (f := f3) (g := g3) (hi := 3) (k := 8) (s := 3) hx r2 r3 (Or.inl ⟨rfl, rfl, rfl⟩) h8 (fun a ha => by have := r4 a ha; omega) (by
          rcases hW with e | ⟨y, Y, e, h⟩
          · exact Or.inl e
          · exact Or.inr ⟨y, Y, e, by omega⟩)
        obtain ⟨c3, e3, h3⟩ := hP _ q3 (p2 + 1) [] (3 :: W) L2 f3 FU a2 rw2.1 (by show dep W + _ = _; rw [if_neg (by decide), Int.add_zero]; exact hd) (fun a h => nomatch h) (Or.inr ⟨3, W, rfl, by decide⟩) (by omega) (by show (200 : Int) ≤ ((1000000 : Nat) : Int) + (p2 + 1); omega)
        rw [e3]
        simp only [Option.bind_some]
        rcases h3 with ⟨q4, p4, L4, f4, g4, s1, s2, sw, s3, s4, s5⟩ | hB
        · have l4 := s2.2.2.2.2.2.2
          have p4N := s2.1.2.2.2.1
          simp only [List.length_cons] at l4
          obtain ⟨c4, e4, h4, h4'⟩ := k_push (x := -1) s2.1 s2.2.1 (by
            have : (L4.length : Int) = ((outs [] L4).length : Int) := rfl
            omega)
          rw [e4]
          simp only [Option.bind_some]
          rw [w32_id (by omega) (by omega)]
          refine ⟨_, rfl, ⟨by simp only; omega, Or.inl ⟨q4, p4, [3], -1 :: L4, L4, f4, g4, ?_, ⟨h4, h4', s2.2.2⟩, rfl, ⟨(wf_op sw.1 (Or.inl rfl) (by omega)).1, by rw [(wf_op sw.1 (Or.inl rfl) (by omega)).2]; omega⟩, fun a ha => List.mem_singleton.mp ha, by simp only; omega, s4, s5⟩⟩, by simp only; omega⟩
          rw [r1, a1, s1]
        · obtain ⟨w, q4, b1, b2, b3, b4, b5⟩ := hB
          obtain ⟨c4, e4, h4⟩ := w_add b2 (x := -1)
          rw [e4]
          simp only [Option.bind_some]
          rw [w32_id (by omega) (by omega)]
          refine ⟨_, rfl, ⟨by simp only; omega, Or.inr ⟨w, q4, b1, h4, ?_, b4, b5⟩⟩, by simp only; omega⟩
          rw [r1, a1, b3]
      · right
        rw [if_neg h8]
        simp only
        rw [if_pos trivial]
        exact ⟨_, rfl, Or.inl ⟨q2, p2, x, L2, R2, f2, g2, r1, r2, r3, rw2, r4, h8, by omega, r6, r7⟩⟩
    · right
      obtain ⟨w, q4, b1, b2, b3, b4, b5⟩ := hB
      have res : (∃ v, (if k < 96 then (fQ_takeWord c2 8).bind fun v2 => if v2.1 = 0 then some (Sum.inr v2.2) else (gP v2.2 d).bind fun v3 => (fQ_addStep v3 (-1)).bind fun v4 => some (Sum.inl (v4, w32 (k + 1))) else some (Sum.inr c2) : Option ((aM × Int) ⊕ aM)) = some (Sum.inr v) ∧ v = c2) := by
        by_cases hk : k < 96
        · rw [if_pos hk, w_take hx b2 b1]
          exact ⟨c2, rfl, rfl⟩
        · rw [if_neg hk]
          exact ⟨c2, rfl, rfl⟩
      obtain ⟨v, v1, v2⟩ := res
      subst v2
      exact ⟨_, v1, Or.inr ⟨w, q4, b1, b2, b3, b4, b5⟩⟩
  · rcases h1 with ⟨q2, p2, L2, f2, g2, s1, s2, sw, s3, s4, s5⟩ | hB
    · exact Or.inl ⟨q2, p2, [], L2, L2, f2, g2, s1, s2, rfl, sw, (fun a h => nomatch h), by simp only; omega, s4, s5⟩
    · exact Or.inr hB
theorem go_cond (hx : Cx c0 T u n N) {gA : aM → Int → Option aM} {d : Int} (hP : ListP c0 q0 T u n N gA d (fun a => a = 3) (fun x => x ≠ 2 ∧ x ≠ 3) (fun τ => τ 3 ≠ 8)) : ListP c0 q0 T u n N (fQ_readCondition gA) d (fun a => a = 3 ∨ a = 4) (fun x => x = 5) (fun τ => τ 3 ≠ 8 ∧ τ 3 ≠ 9) := by
  intro c q p W L f g hJ hwf hd hW hf hg
  have h96 := hx.N96
  obtain ⟨c1, e1, h1⟩ := hP c q p W L f g hJ hwf hd (by
    rcases hW with e | ⟨x, X, e, h⟩
    · exact Or.inl e
    · exact Or.inr ⟨x, X, e, by omega⟩) hf hg
  unfold fQ_readCondition fQ_readCondition_7
  rw [e1]
  simp only [Option.bind_some]
  refine aLoop_ok (Inv := fun s : aM × Int => 0 ≤ s.2 ∧ ((∃ q' p' x L' R' f' g', rE f g q = rA f' g' q' ∧ J c0 q0 T u n N s.1 q' p' (x ++ W) L' R' ∧ L' = outs x R' ∧ (wf L' ∧ ht L' = ht L + 1) ∧ (∀ a ∈ x, a = 3 ∨ a = 4) ∧ c0 (24 + p') 3 ≠ 8 ∧ p + s.2 < p' ∧ 200 ≤ (f' : Int) + p' ∧ 200 ≤ (g' : Int) + p') ∨ BAD c0 q0 s.1 N (rE f g q))) (μ := fun s => (96 - s.2).toNat) (Post := fun c' => (∃ q' p' x L' R' f' g', rE f g q = rA f' g' q' ∧ J c0 q0 T u n N c' q' p' (x ++ W) L' R' ∧ L' = outs x R' ∧ (wf L' ∧ ht L' = ht L + 1) ∧ (∀ a ∈ x, a = 3 ∨ a = 4) ∧ (c0 (24 + p') 3 ≠ 8 ∧ c0 (24 + p') 3 ≠ 9) ∧ p < p' ∧ 200 ≤ (f' : Int) + p' ∧ 200 ≤ (g' : Int) + p') ∨ BAD c0 q0 c' N (rE f g q)) ?_ FU (c1, 0) ⟨by simp only; omega, ?_⟩ (by show _ < 1000000; simp only; omega)
  · rintro ⟨c2, k⟩ ⟨k0, hI⟩
    simp only at k0 hI
    unfold fQ_readCondition_7_b
    simp only
    rcases hI with ⟨q2, p2, x, L2, R2, f2, g2, r1, r2, r3, rw2, r4, rn, r5, r6, r7⟩ | hB
    · have pN := r2.1.2.2.2.1
      have p0 := hJ.1.2.2.2.1
      have hnn := ht_rng hwf
      rw [if_pos (by omega), k_take hx r2.1]
      simp only [Option.bind_some]
      by_cases h9 : c0 (24 + p2) 3 = 9
      · left
        rw [if_pos h9]
        simp only
        rw [if_neg (by decide)]
        obtain ⟨f3, rfl⟩ : ∃ f3, f2 = f3 + 1 := ⟨f2 - 1, by omega⟩
        obtain ⟨g3, rfl⟩ : ∃ g3, g2 = g3 + 1 := ⟨g2 - 1, by omega⟩
        obtain ⟨q3, a1, a2⟩ := A_sign (f := f3) (g := g3) (hi := 4) (k := 9) (s := 4) hx r2 r3 (Or.inr ⟨rfl, rfl, rfl⟩) h9 (fun a ha => by have := r4 a ha; omega) (by
          rcases hW with e | ⟨y, Y, e, h⟩
          · exact Or.inl e
          · exact Or.inr ⟨y, Y, e, by omega⟩)
        obtain ⟨c3, e3, h3⟩ := hP _ q3 (p2 + 1) (4 :: W) L2 f3 FU a2 rw2.1 (by show dep W + _ = _; rw [if_neg (by decide), Int.add_zero]; exact hd) (Or.inr ⟨4, W, rfl, by decide, by decide⟩) (by omega) (by show (200 : Int) ≤ ((1000000 : Nat) : Int) + (p2 + 1); omega)
        rw [e3]
        simp only [Option.bind_some]
        rcases h3 with ⟨q4, p4, x4, L4, R4, f4, g4, s1, s2, s3, sw, s4, sn, s5, s6, s7⟩ | hB
        · have l4 := s2.2.2.2.2.2.2
          have p4N := s2.1.2.2.2.1
          have ll : L4.length = x4.length + R4.length := by rw [s3, outs_len]
          simp only [List.length_append, List.length_cons] at l4
          obtain ⟨c4, e4, h4, h4'⟩ := k_push (x := -2) s2.1 s2.2.1 (by omega)
          rw [e4]
          simp only [Option.bind_some]
          rw [w32_id (by omega) (by omega)]
          have ew : x4 ++ 4 :: W = (x4 ++ [4]) ++ W := by rw [List.append_assoc]; rfl
          refine ⟨_, rfl, ⟨by simp only; omega, Or.inl ⟨q4, p4, x4 ++ [4], -2 :: L4, R4, f4, g4, ?_, ⟨h4, h4', ?_⟩, ?_, ⟨(wf_op sw.1 (Or.inr rfl) (by omega)).1, by rw [(wf_op sw.1 (Or.inr rfl) (by omega)).2]; omega⟩, fun a ha => ?_, sn, by simp only; omega, s6, s7⟩⟩, by simp only; omega⟩
          · rw [r1, a1, s1]
          · rw [← ew]; exact s2.2.2
          · rw [outs_app, s3]; rfl
          · rcases List.mem_append.mp ha with h | h
            · exact Or.inl (s4 a h)
            · exact Or.inr (List.mem_singleton.mp h)
        · obtain ⟨w, q4, b1, b2, b3, b4, b5⟩ := hB
          obtain ⟨c4, e4, h4⟩ := w_add b2 (x := -2)
          rw [e4]
          simp only [Option.bind_some]
          rw [w32_id (by omega) (by omega)]
          refine ⟨_, rfl, ⟨by simp only; omega, Or.inr ⟨w, q4, b1, h4, ?_, b4, b5⟩⟩, by simp only; omega⟩
          rw [r1, a1, b3]
      · right
        rw [if_neg h9]
        simp only
        rw [if_pos trivial]
        exact ⟨_, rfl, Or.inl ⟨q2, p2, x, L2, R2, f2, g2, r1, r2, r3, rw2, r4, ⟨rn, h9⟩, by omega, r6, r7⟩⟩
    · right
      obtain ⟨w, q4, b1, b2, b3, b4, b5⟩ := hB
      have res : (∃ v, (if k < 96 then (fQ_takeWord c2 9).bind fun v2 => if v2.1 = 0 then some (Sum.inr v2.2) else (gA v2.2 d).bind fun v3 => (fQ_addStep v3 (-2)).bind fun v4 => some (Sum.inl (v4, w32 (k + 1))) else some (Sum.inr c2) : Option ((aM × Int) ⊕ aM)) = some (Sum.inr v) ∧ v = c2) := by
        by_cases hk : k < 96
        · rw [if_pos hk, w_take hx b2 b1]
          exact ⟨c2, rfl, rfl⟩
        · rw [if_neg hk]
          exact ⟨c2, rfl, rfl⟩
      obtain ⟨v, v1, v2⟩ := res
      subst v2
      exact ⟨_, v1, Or.inr ⟨w, q4, b1, b2, b3, b4, b5⟩⟩
  · rcases h1 with ⟨q2, p2, x2, L2, R2, f2, g2, s1, s2, s3, sw, s4, sn, s5, s6, s7⟩ | hB
    · exact Or.inl ⟨q2, p2, x2, L2, R2, f2, g2, s1, s2, s3, sw, fun a h => Or.inl (s4 a h), sn, by simp only; omega, s6, s7⟩
    · exact Or.inr hB
theorem go_part (hx : Cx c0 T u n N) : ∀ (fu : Nat) (d : Int), 0 ≤ d → d ≤ 8 → 9 ≤ (fu : Int) + d → PartP c0 q0 T u n N (fRP fu) d
  | 0, d, d0, d8, hf => by omega
  | fu + 1, d, d0, d8, hfu => by
    intro c q p A W' L f g hJ hwf hd hA hW hf hg
    have hnn := ht_rng hwf
    have h96 := hx.N96
    have pr := hJ.1.2.2.2.1
    have hT := hx.tk pr.1 pr.2
    have cp := hJ.1.2.1
    obtain ⟨g1, rfl⟩ : ∃ g1, g = g1 + 2 := ⟨g - 2, by omega⟩
    show ∃ c', fQ_readPart (fRP fu) (fQ_readCondition (fQ_readAll (fRP fu))) c d = some c' ∧ _
    unfold fQ_readPart fQ_readPart_32 fQ_readPart_76
    -- a comparison
    have cmp (k1 : c0 (24 + p) 3 ≠ 10) (k2 : c0 (24 + p) 0 ≠ 4) : ∃ c', ((fQ_readComparison c).bind fun v6 => some v6) = some c' ∧ ((∃ q' p' L' f' g', rE f (g1 + 2) q = rA f' g' q' ∧ J c0 q0 T u n N c' q' p' W' L' (outs A L') ∧ (wf L' ∧ ht L' = ht L + 1) ∧ p < p' ∧ 200 ≤ (f' : Int) + p' ∧ 200 ≤ (g' : Int) + p') ∨ BAD c0 q0 c' N (rE f (g1 + 2) q)) := by
      obtain ⟨c', e, h⟩ := E_comp (f := f) (g := g1) hx hJ hA hW k1 k2
      rw [e]
      refine ⟨c', rfl, ?_⟩
      rcases h with ⟨q', h1, h2⟩ | h
      · exact Or.inl ⟨q', p + 3, p :: L, f, FU, h1, h2, wf_cmp hwf pr.1, by omega, by omega, by show (200 : Int) ≤ ((1000000 : Nat) : Int) + (p + 3); omega⟩
      · exact Or.inr h
    by_cases hd8 : d < 8
    · rw [if_pos hd8, k_take hx hJ.1]
      simp only [Option.bind_some]
      by_cases h10 : c0 (24 + p) 3 = 10
      · -- NOT
        rw [if_pos h10]
        simp only
        rw [if_neg (by decide), w32_id (by omega) (by omega)]
        obtain ⟨q1, e1, hJ1⟩ := E_push (x := 2) (f := f) (g := g1 + 1) hx hJ (by omega) (Or.inl ⟨rfl, h10⟩)
        obtain ⟨c2, e2, h2⟩ := go_part hx fu (d + 1) (by omega) (by omega) (by omega) _ q1 (p + 1) (2 :: A) W' L f (g1 + 1) hJ1 hwf (by show dep (A ++ W') + _ = _; rw [if_pos (Or.inl rfl), hd]) (fun a ha => by
          rcases List.mem_cons.mp ha with h | h
          · exact h
          · exact hA a h) hW (by omega) (by omega)
        rw [e2]
        simp only [Option.bind_some]
        rcases h2 with ⟨q3, p3, L3, f3, g3, s1, s2, sw, s3, s4, s5⟩ | ⟨w, q3, b1, b2, b3, b4, b5⟩
        · have l3 := s2.2.2.2.2.2.2
          have p3N := s2.1.2.2.2.1
          rw [outs_len] at l3
          simp only [List.length_cons] at l3
          obtain ⟨c4, e4, h4, h4'⟩ := k_push (x := -3) s2.1 s2.2.1 (by omega)
          rw [e4]
          exact ⟨c4, rfl, Or.inl ⟨q3, p3, -3 :: L3, f3, g3, e1.trans s1, ⟨h4, h4', s2.2.2⟩, ⟨(wf_not sw.1 (by omega)).1, (wf_not sw.1 (by omega)).2.trans sw.2⟩, by omega, s4, s5⟩⟩
        · obtain ⟨c4, e4, h4⟩ := w_add b2 (x := -3)
          rw [e4]
          exact ⟨c4, rfl, Or.inr ⟨w, q3, b1, h4, e1.trans b3, b4, b5⟩⟩
      · rw [if_neg h10]
        simp only
        rw [if_pos trivial, if_pos hd8, cp, g_get hx hJ.1.1 pr.1 pr.2]
        simp only [Option.bind_some]
        rw [g_row hx hJ.1.1 pr.1 pr.2]
        by_cases h4 : c0 (24 + p) 0 = 4
        · -- a mark that opens
          rw [if_pos h4, k_kind hx hJ.1, if_pos h4]
          simp only [Option.bind_some]
          rw [w32_id (by omega) (by omega)]
          obtain ⟨q1, e1, hJ1⟩ := E_push (x := 5) (f := f) (g := g1 + 1) hx hJ (by omega) (Or.inr ⟨rfl, h10, h4⟩)
          obtain ⟨c2, e2, h2⟩ := go_cond hx (go_all hx (go_part hx fu (d + 1) (by omega) (by omega) (by omega))) _ q1 (p + 1) (5 :: (A ++ W')) L f (g1 + 1) hJ1 hwf (by show dep (A ++ W') + _ = _; rw [if_pos (Or.inr rfl), hd]) (Or.inr ⟨5, A ++ W', rfl, rfl⟩) (by omega) (by omega)
          rw [e2]
          simp only [Option.bind_some]
          rcases h2 with ⟨q3, p3, x3, L3, R3, f3, g3, s1, s2, s3, sw, s4, sn, s5, s6, s7⟩ | ⟨w, q3, b1, b2, b3, b4, b5⟩
          · have p3N := s2.1.2.2.2.1
            have hT3 := hx.tk p3N.1 p3N.2
            rw [k_kind hx s2.1]
            simp only [Option.bind_some]
            obtain ⟨g4, rfl⟩ : ∃ g4, g3 = g4 + 1 := ⟨g3 - 1, by omega⟩
            by_cases h5 : c0 (24 + p3) 0 = 5
            · rw [if_pos h5]
              obtain ⟨q4, a1, a2⟩ := A_close (f := f3) (g := g4) hx s2 s3 h5 s4 hA hW
              exact ⟨_, rfl, Or.inl ⟨q4, p3 + 1, L3, f3, g4, (e1.trans s1).trans a1, a2, sw, by omega, by omega, by omega⟩⟩
            · rw [if_neg h5]
              obtain ⟨j1, j2, j3, j4, j5, j6, j7⟩ := s2
              obtain ⟨f4, rfl⟩ : ∃ f4, f3 = f4 + 1 := ⟨f3 - 1, by omega⟩
              refine ⟨_, rfl, Or.inr ⟨_, mup q3 130 25 (c0 (24 + p3) 1), hT3.1.1, j1.no _, ?_, mup_same _ _ _ _, j4.up (Or.inl ⟨rfl, by omega⟩)⟩⟩
              rw [e1, s1, A_none hx j3 j5 (by omega) sn.1 sn.2 (fun h => absurd h h5)]
              apply aL_end
              unfold fM_condition_12_b
              simp only
              rw [if_pos trivial, r_depth j5 (by omega), dep_app s4]
              simp only [Option.bind_some]
              have dp : 0 < dep (5 :: (A ++ W')) := by
                show 0 < dep (A ++ W') + _
                rw [if_pos (Or.inr rfl), hd]
                omega
              rw [if_pos dp, owr hx j3, gd_pos (Or.inl rfl)]
          · rw [w_kind hx b2 b1]
            exact ⟨c2, rfl, Or.inr ⟨w, q3, b1, b2, e1.trans b3, b4, b5⟩⟩
        · rw [if_neg h4]
          exact cmp h10 h4
    · rw [if_neg hd8, if_neg hd8]
      by_cases hk : c0 (24 + p) 3 = 10 ∨ c0 (24 + p) 0 = 4
      · obtain ⟨h4, e⟩ := E_deep (f := f) (g := g1 + 1) hx hJ (by omega) hk
        obtain ⟨c', ec, hw⟩ := cmp_bad hx hJ.1 h4
        rw [ec]
        exact ⟨c', rfl, Or.inr ⟨_, _, hT.1.1, hw, e, mup_same _ _ _ _, hJ.2.2.2.1.up (Or.inl ⟨rfl, by omega⟩)⟩⟩
      · exact cmp (fun h => hk (Or.inl h)) (fun h => hk (Or.inr h))
/-- a whole condition -/
theorem go_where {c q : aM} {p : Int} (hx : Cx c0 T u n N) (hc : CS c0 c N p) (hr : RS c0 q T u n N p) (h3 : c 21 3 = 0) : ∃ c', fQ_cond c 0 = some c' ∧ ((∃ q' p' L, fM_condition q = some (1, q') ∧ CS c0 c' N p' ∧ CL c' L ∧ RS c0 q' T u n N p' ∧ Fr cnP q q' ∧ RQ c0 N q' L ∧ p < p' ∧ wf L ∧ (L.length : Int) ≤ 96) ∨ BAD c0 q c' N (fM_condition q)) := by
  have h96 := hx.N96
  have fs : Fr srP q (mup (mup q 130 26 0) 130 34 0) := (Fr.rf.up (Or.inl ⟨rfl, Or.inl rfl⟩)).up (Or.inl ⟨rfl, Or.inr rfl⟩)
  have hJ : J c0 q T u n N c (mup (mup q 130 26 0) 130 34 0) p [] [] [] := ⟨hc, ⟨h3, trivial⟩, hr.st fs, st_cn fs, ⟨mup_same _ _ _ _, trivial⟩, ⟨by rw [mup_idx (by decide), mup_same]; rfl, trivial⟩, hc.2.2.2.1.1⟩
  obtain ⟨c', e, h⟩ := go_cond hx (go_all hx (go_part hx 10 0 (by decide) (by decide) (by decide))) c _ p [] [] 999999 FU hJ trivial rfl (Or.inl rfl) (by have := hc.2.2.2.1.1; omega) (by have := hc.2.2.2.1.1; show (200 : Int) ≤ ((1000000 : Nat) : Int) + p; omega)
  refine ⟨c', e, ?_⟩
  have eM : fM_condition q = rE 999999 FU (mup (mup q 130 26 0) 130 34 0) := by
    unfold fM_condition fM_condition_12
    exact cond_E
  rw [eM]
  rcases h with ⟨q3, p3, x3, L3, R3, f3, g3, s1, s2, s3, sw, s4, sn, s5, s6, s7⟩ | h
  · left
    rw [s1]
    obtain ⟨j1, j2, j3, j4, j5, j6, j7⟩ := s2
    have p3N := j1.2.2.2.1
    obtain ⟨g4, rfl⟩ : ∃ g4, g3 = g4 + 1 := ⟨g3 - 1, by omega⟩
    obtain ⟨f4, rfl⟩ : ∃ f4, f3 = f4 + 1 := ⟨f3 - 1, by omega⟩
    have dp : dep (x3 ++ []) = 0 := (dep_app s4).trans rfl
    obtain ⟨q4, e4, w4, r4, f4'⟩ := r_rel (lo := 3) (hi := 4) j5 j6 (Or.inl rfl) (fun a ha => by have := s4 a ha; omega) (by omega)
    rw [← s3] at r4
    refine ⟨q4, p3, L3, ?_, j1, j2, j3.st (rl_st f4'), j4.tr (st_cn (rl_st f4')), r4, s5, sw.1, by rw [s3, outs_len]; simp only [List.length_append, List.length_nil] at j7; omega⟩
    · rw [A_none hx j3 j5 (by omega) sn.1 sn.2 (fun _ => dp)]
      apply aL_end
      unfold fM_condition_12_b
      simp only
      rw [if_pos trivial, r_depth j5 (by omega), dp]
      simp only [Option.bind_some]
      rw [if_neg (by decide), e4]
      rfl
  · exact Or.inr h
end
