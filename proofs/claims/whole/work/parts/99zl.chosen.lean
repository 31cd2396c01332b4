/-! ASK: the reference chooses a row -/
abbrev chP (y _j : Int) : Prop := y = 150
theorem chP_row {q q' : aM} (f : Fr chP q q') {y : Int} (h : y ≠ 150) : q' y = q y := by
  funext j
  exact f y j h
theorem chP_aq {q q' : aM} (f : Fr chP q q') : Fr aqP q q' := f.wk (fun y j e => Or.inr ⟨by omega, by omega⟩)
section
variable {c0 q : aM} {T : Tb} {u : Int → Int} {n N : Int}
theorem r_isChosen {L : List Int} {r : Int} (hx : Cx c0 T u n N) (hE : EM q T u n) (hr : RQ c0 N q L) (hw : wf L) (l96 : (L.length : Int) ≤ 96) (r0 : 0 ≤ r) (r1 : r < Tr T) : ∃ q', fM_isChosen q r = some (if ch c0 T u L r.toNat then 1 else 0, q') ∧ Fr chP q q' := by
  have w2 := hx.1.2.1
  have wt := hx.1
  have er : ((r.toNat : Nat) : Int) = r := by omega
  unfold fM_isChosen fM_isChosen_4
  obtain ⟨⟨B, q'⟩, e, hp1, hp2⟩ := aLoop_ok (f := fM_isChosen_4_b r) (Inv := fun x : aM × Int × Int => Fr chP q x.1 ∧ ∃ A K, L = A ++ K ∧ x.2.2 = (K.length : Int) ∧ x.2.1 = ht K ∧ rS x.1 r.toNat (ev c0 T u K)) (μ := fun x => (96 - x.2.2).toNat) (Post := fun v => Fr chP q v.2 ∧ v.1 = if ch c0 T u L r.toNat then 1 else 0) (by
    rintro ⟨m, x2, x3⟩ ⟨g1, A, K, gL, gK, gh, gS⟩
    simp only at g1 gK gh gS
    have hK : wf K := wf_app (A := A) (by rw [← gL]; exact hw)
    have hr3 := ht_rng hK
    have hKL : K.length ≤ L.length := by rw [gL, List.length_append]; omega
    have e26 : m 130 26 = (L.length : Int) := by rw [chP_row g1 (by decide)]; exact hr.1
    have hEm : EM m T u n := hE.fr (chP_aq g1)
    unfold fM_isChosen_4_b
    simp only
    rw [e26]
    by_cases hi : x3 < (L.length : Int)
    · left
      obtain ⟨A', a, eL⟩ := step_at gL (by omega)
      have wa : wf (a :: K) := wf_app (A := A') (by rw [← eL]; exact hw)
      have ra : stR c0 N m (K.length : Int) a := ((rst_app (A := A') (by rw [← eL]; exact hr.2) : rst c0 N q (a :: K)).1).of (fun y y0 y1 => by rw [chP_row g1 (by omega)])
      have len := ev_len (c0 := c0) (T := T) (u := u) hK
      have evR' := ev_rng (c0 := c0) (T := T) (u := u) (L := K)
      have wr := wa.2
      have hKl : (K.length : Int) < 96 := by omega
      rw [if_pos hi, gd_pos (by omega), gK]
      -- a step that adds a truth
      have push (v : Int) (hv : v = tv c0 T u a r) (ha : 0 ≤ a) : ∃ y, (gd (0 ≤ x2 ∧ x2 < 100) (some (Sum.inl (mup m 150 x2 v, w32 (x2 + 1), w32 ((K.length : Int) + 1)))) : Option ((aM × Int × Int) ⊕ (Int × aM))) = some (Sum.inl y) ∧ (Fr chP q y.1 ∧ ∃ A K, L = A ++ K ∧ y.2.2 = (K.length : Int) ∧ y.2.1 = ht K ∧ rS y.1 r.toNat (ev c0 T u K)) ∧ (96 - y.2.2).toNat < (96 - (K.length : Int)).toNat := by
        rw [gd_pos (by omega), w32_id (by omega) (by omega), w32_id (by omega) (by omega)]
        refine ⟨_, rfl, ⟨g1.up rfl, A', a :: K, eL, by simp only [List.length_cons]; omega, ?_, ?_⟩, by simp only; omega⟩
        · show x2 + 1 = if a = -3 then ht K else if a < 0 then ht K - 1 else ht K + 1
          rw [if_neg (by omega), if_neg (by omega)]; omega
        · have he : ev c0 T u (a :: K) = fv c0 T u a :: ev c0 T u K := if_pos ha
          rw [he]
          refine ⟨?_, rS_of (fun j a b => ?_) gS⟩
          · simp only
            rw [show ((ev c0 T u K).length : Int) = x2 by omega, mup_same, hv]
            unfold fv
            rw [if_pos (by omega), er]
          · simp only
            rw [mup_idx (by omega)]
      -- a step that joins two
      have join (a1 : a = -1 ∨ a = -2) (e142 : m 142 (K.length : Int) = if a = -1 then 3 else 4) : ∃ y, (gd (0 ≤ w32 (x2 + -1) ∧ w32 (x2 + -1) < 100) (gd (0 ≤ w32 (w32 (x2 + -1) - 1) ∧ w32 (w32 (x2 + -1) - 1) < 100) (if m 150 (w32 (x2 + -1)) < m 150 (w32 (w32 (x2 + -1) - 1)) then fM_isChosen_136 m r (w32 (x2 + -1)) (K.length : Int) 1 else fM_isChosen_136 m r (w32 (x2 + -1)) (K.length : Int) 0)) : Option ((aM × Int × Int) ⊕ (Int × aM))) = some (Sum.inl y) ∧ (Fr chP q y.1 ∧ ∃ A K, L = A ++ K ∧ y.2.2 = (K.length : Int) ∧ y.2.1 = ht K ∧ rS y.1 r.toNat (ev c0 T u K)) ∧ (96 - y.2.2).toNat < (96 - (K.length : Int)).toNat := by
        have he : ev c0 T u (a :: K) = ev1 a (ev c0 T u K) := if_neg (by omega)
        match ee : ev c0 T u K with
        | [] =>
          rw [ee] at len
          simp only [List.length_nil] at len
          omega
        | [f] =>
          rw [ee] at len
          simp only [List.length_cons, List.length_nil] at len
          omega
        | f :: g :: S =>
          rw [ee] at gS len
          simp only [List.length_cons] at len
          have gt := gS.1
          have gb := gS.2.1
          simp only [List.length_cons] at gt
          rw [w32_id (x := x2 + -1) (by omega) (by omega), w32_id (by omega) (by omega), gd_pos (by omega), gd_pos (by omega), show x2 + -1 - 1 = (S.length : Int) by omega, show x2 + -1 = ((S.length + 1 : Nat) : Int) by omega, gt, gb]
          have fin (v : Int) (hv : v = if a = -1 then t3a (g r.toNat) (f r.toNat) else t3o (g r.toNat) (f r.toNat)) : ∃ y, (some (Sum.inl (mup m 150 (S.length : Int) v, ((S.length + 1 : Nat) : Int), w32 ((K.length : Int) + 1))) : Option ((aM × Int × Int) ⊕ (Int × aM))) = some (Sum.inl y) ∧ (Fr chP q y.1 ∧ ∃ A K, L = A ++ K ∧ y.2.2 = (K.length : Int) ∧ y.2.1 = ht K ∧ rS y.1 r.toNat (ev c0 T u K)) ∧ (96 - y.2.2).toNat < (96 - (K.length : Int)).toNat := by
            rw [w32_id (by omega) (by omega)]
            refine ⟨_, rfl, ⟨g1.up rfl, A', a :: K, eL, by simp only [List.length_cons]; omega, ?_, ?_⟩, by simp only; omega⟩
            · show ((S.length + 1 : Nat) : Int) = if a = -3 then ht K else if a < 0 then ht K - 1 else ht K + 1
              rw [if_neg (by omega), if_pos (by omega)]; omega
            · rw [he, ee]
              show rS _ r.toNat (if a = -3 then (fun r => 2 - f r) :: g :: S else if a = -1 then (fun r => t3a (g r) (f r)) :: S else (fun r => t3o (g r) (f r)) :: S)
              rw [if_neg (by omega)]
              by_cases am : a = -1
              · rw [if_pos am] at hv ⊢
                refine ⟨?_, rS_of (fun j a b => ?_) gS.2.2⟩
                · simp only
                  rw [mup_same, hv]
                · simp only
                  rw [mup_idx (by omega)]
              · rw [if_neg am] at hv ⊢
                refine ⟨?_, rS_of (fun j a b => ?_) gS.2.2⟩
                · simp only
                  rw [mup_same, hv]
                · simp only
                  rw [mup_idx (by omega)]
          have eL150 : LEN 150 = 100 := rfl
          have e136 (s : Int) : fM_isChosen_136 m r ((S.length + 1 : Nat) : Int) (K.length : Int) s = some (Sum.inl (mup m 150 (S.length : Int) (if s = (if a = -1 then 1 else 0) then f r.toNat else g r.toNat), ((S.length + 1 : Nat) : Int), w32 ((K.length : Int) + 1))) := by
            unfold fM_isChosen_136 fM_isChosen_162
            have ew : w32 (((S.length + 1 : Nat) : Int) - 1) = (S.length : Int) := by rw [w32_id (by omega) (by omega)]; omega
            rw [gd_pos (show 0 ≤ (K.length : Int) ∧ (K.length : Int) < 100 by omega), e142, ew, eL150, gd_pos (show 0 ≤ ((S.length + 1 : Nat) : Int) ∧ ((S.length + 1 : Nat) : Int) < 100 by omega), gd_pos (show 0 ≤ (S.length : Int) ∧ (S.length : Int) < 100 by omega), gd_pos (show 0 ≤ (S.length : Int) ∧ (S.length : Int) < 100 by omega), gt, gb]
            by_cases am : a = -1
            · rw [if_pos am, if_pos am, if_pos rfl]
              by_cases hs : s = 1
              · rw [if_pos hs, if_pos hs]
              · rw [if_neg hs, if_neg hs, gd_pos (show 0 ≤ (S.length : Int) ∧ (S.length : Int) < 100 by omega)]
            · rw [if_neg am, if_neg am, if_neg (show ¬ ((4 : Int) = 3) by decide)]
              by_cases hs : s = 0
              · rw [if_pos hs, if_pos hs]
              · rw [if_neg hs, if_neg hs, gd_pos (show 0 ≤ (S.length : Int) ∧ (S.length : Int) < 100 by omega)]
          unfold t3a t3o at fin
          rw [e136, e136]
          by_cases am : a = -1
          · rw [if_pos am, if_pos (show (1 : Int) = 1 from rfl), if_neg (show ¬ ((0 : Int) = 1) by decide)]
            by_cases lt : f r.toNat < g r.toNat
            · rw [if_pos lt]
              exact fin _ (by rw [if_pos am, if_neg (by omega)])
            · rw [if_neg lt]
              exact fin _ (by rw [if_pos am, if_pos (by omega)])
          · rw [if_neg am, if_neg (show ¬ ((1 : Int) = 0) by decide), if_pos (show (0 : Int) = 0 from rfl)]
            by_cases lt : f r.toNat < g r.toNat
            · rw [if_pos lt]
              exact fin _ (by rw [if_neg am, if_neg (by omega)])
            · rw [if_neg lt]
              exact fin _ (by rw [if_neg am, if_pos (by omega)])
      rcases ra with ⟨a1, e142⟩ | ⟨a1, e142⟩ | ⟨a1, e142⟩ | hc
      · rw [e142, if_neg (by decide), if_neg (by decide), if_neg (by decide)]
        exact join (Or.inl a1) (by rw [e142, if_pos a1])
      · rw [e142, if_neg (by decide), if_neg (by decide), if_neg (by decide)]
        exact join (Or.inr a1) (by rw [e142, if_neg (by omega)])
      · rw [e142, if_neg (by decide), if_neg (by decide), if_pos rfl]
        have he : ev c0 T u (a :: K) = ev1 a (ev c0 T u K) := if_neg (by omega)
        match ee : ev c0 T u K with
        | [] =>
          rw [ee] at len
          simp only [List.length_nil] at len
          omega
        | f :: S =>
          rw [ee] at gS len evR'
          simp only [List.length_cons] at len
          have hf1 := evR' f (List.mem_cons_self ..)
          have v := hf1.1 r.toNat
          rw [w32_id (x := x2 - 1) (by omega) (by omega), gd_pos (by omega), show x2 - 1 = (S.length : Int) by omega, gS.1, w32_id (by omega) (by omega), w32_id (by omega) (by omega)]
          refine ⟨_, rfl, ⟨g1.up rfl, A', a :: K, eL, by simp only [List.length_cons]; omega, ?_, ?_⟩, by simp only; omega⟩
          · show x2 = if a = -3 then ht K else _
            rw [if_pos a1]; exact gh
          · rw [he, ee]
            have e1 : ev1 a (f :: S) = (fun r => 2 - f r) :: S := by
              cases S with
              | nil => exact if_pos a1
              | cons g S => exact if_pos a1
            rw [e1]
            refine ⟨?_, rS_of (fun j a b => ?_) gS.2⟩
            · simp only
              rw [mup_same]
            · simp only
              rw [mup_idx (by omega)]
      · have s0 := hc.1
        obtain ⟨tk0, tk1⟩ := cm_tok hx hc
        rcases hc.2.2.2.2 with ⟨h11, e142⟩ | ⟨h11, e142, -⟩
        · rw [e142, if_neg (by decide), if_pos rfl, hc.2.2.2.1, r_isNone wt hEm.2 r0 r1 tk0.1 tk0.2]
          simp only [Option.bind_some]
          have etv : tv c0 T u a r = t2 (missB T r (c0 (24 + a) 4)) := if_pos h11
          cases hm : missB T r (c0 (24 + a) 4)
          · rw [hm] at etv
            exact push 0 etv.symm s0
          · rw [hm] at etv
            exact push 2 etv.symm s0
        · rw [e142, if_pos rfl, r_compared hx hEm hc (by omega) (by omega) h11 r0 r1]
          simp only [Option.bind_some]
          exact push _ rfl s0
    · right
      rw [if_neg hi]
      have eK : K = L := by
        have : A = [] := by
          apply List.eq_nil_of_length_eq_zero
          have := congrArg List.length gL
          rw [List.length_append] at this
          omega
        rw [gL, this, List.nil_append]
      cases hL : L with
      | nil =>
        rw [if_pos (by rfl)]
        exact ⟨_, rfl, g1, rfl⟩
      | cons s0 L0 =>
        rw [if_neg (by simp only [List.length_cons]; omega), ← hL]
        rw [eK] at gS
        have wl := ev_len (c0 := c0) (T := T) (u := u) hw
        have hne : ev c0 T u L ≠ [] := fun e => by
          rw [e, hL] at wl
          rw [hL] at hw
          have := hw.2
          have hh := ht_rng hw.1
          have e2 : ht (s0 :: L0) = if s0 = -3 then ht L0 else if s0 < 0 then ht L0 - 1 else ht L0 + 1 := rfl
          rw [e2] at wl
          simp only [List.length_nil] at wl
          revert wl
          split
          · omega
          · split <;> omega
        rw [rS_bot hne gS]
        have ie : L.isEmpty = false := by rw [hL]; rfl
        unfold ch
        rw [ie, Bool.false_or]
        by_cases b2 : bot (ev c0 T u L) r.toNat = 2
        · rw [if_pos b2, decide_eq_true b2]
          exact ⟨_, rfl, g1, rfl⟩
        · rw [if_neg b2, decide_eq_false b2]
          exact ⟨_, rfl, g1, rfl⟩) FU (q, 0, 0) ⟨Fr.rf, L, [], by rw [List.append_nil], rfl, rfl, trivial⟩ (by show _ < 1000000; simp only; omega)
  simp only at hp2
  subst hp2
  exact ⟨q', e, hp1⟩
end
