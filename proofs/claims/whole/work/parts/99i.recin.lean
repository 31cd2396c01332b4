/-! LOAD: class and reference go through the records side by side -/
theorem cRI.at7 {c : aM} {L : List (List tF)} {cur : List tF} {v : Int} (h : cRI c L cur) : cRI (mup c 8 7 v) L cur := by
  obtain ⟨i1, i2, i3, i4, i5, i6⟩ := h
  refine ⟨by rw [mup_idx (by decide)]; exact i1, by rw [mup_idx (by decide)]; exact i2, by rw [mup_idx (by decide)]; exact i3, by rw [mup_idx (by decide)]; exact i4, by rw [mup_idx (by decide)]; exact i5, fun j hj x hx => ?_⟩
  rw [mup_ref (by decide), mup_ref (by decide), mup_ref (by decide)]
  exact i6 j hj x hx
theorem FrC.at7 {c : aM} {v : Int} : FrC c (mup c 8 7 v) := fun y h _ _ _ => by funext j; exact mup_ref h
/-- behind a field, at a comma, a line's end, a return -/
theorem c_stop {c : aM} {s k ch : Int} {c1 : aM} (hs : s = 0 ∨ s = 1 ∨ s = 2 ∨ s = 4) (hch : stp ch) (hk : 0 ≤ k ∧ k ≤ 1000) (he : fR_endField c k (if s = 4 then 1 else 0) = some c1) : fR_stateBehind c s ch k = if ch = 13 then some (5, c1) else if ch = 10 then some ((fR_endRecord c1 (k + 1)).1, (fR_endRecord c1 (k + 1)).2) else some (1, mup c1 8 7 (k + 1)) := by
  have e98 : fR_stateBehind_98 c s ch k = if ch = 13 then some (5, c1) else if ch = 10 then some ((fR_endRecord c1 (k + 1)).1, (fR_endRecord c1 (k + 1)).2) else some (1, mup c1 8 7 (k + 1)) := by
    unfold fR_stateBehind_98 fR_stateBehind_110
    by_cases h4 : s = 4
    · rw [if_pos h4] at he
      rw [if_pos h4, he]
      simp only [Option.bind_some]
      rw [w32_id (by omega) (by omega)]
    · rw [if_neg h4] at he
      rw [if_neg h4, he]
      simp only [Option.bind_some]
      rw [w32_id (by omega) (by omega)]
  rw [← e98]
  unfold fR_stateBehind
  unfold stp at hch
  rw [if_neg (by omega), if_neg (by omega), if_neg (by omega), if_neg (by omega)]
  by_cases h44 : ch = 44
  · rw [if_pos h44]
  rw [if_neg h44]
  by_cases h10 : ch = 10
  · rw [if_pos h10]
  rw [if_neg h10, if_pos (by omega)]
def recP (t : Int → Int) (n : Int) (a : Int) (m c : aM) (L : List (List tF)) (s : Int) (f : Nat) : Prop :=
    (∃ m', aLoop fM_cutText_45_b f (m, a, 1) = some (Sum.inr (0, m')) ∧ FrM m m' ∧ ∀ F, (n - a).toNat + 2 < F → ∃ c', aLoop (fR_find_34_b 2) F (c, s, a) = some (0, c') ∧ FrC c c') ∨
    (∃ m' c' k cur', aLoop fM_cutText_45_b f (m, a, 1) = some (Sum.inl (m', k)) ∧ FrM m m' ∧ FrC c c' ∧ a < k ∧ k ≤ n + 1 ∧ cRI c' (L ++ [cur']) [] ∧ mRI m' L cur' 1 ∧ fOk t n (L.flatten ++ cur') ∧ 1 ≤ cur'.length ∧ wsum (L.flatten ++ cur') ≤ k ∧ ((k ≤ n ∧ c' 8 7 = k ∧ CSt (k - a).toNat (c, s, a) (c', 0, k)) ∨ (k = n + 1 ∧ ∀ F, (n - a).toNat < F → aLoop (fR_find_34_b 2) F (c, s, a) = some (1, c'))))
theorem recIn {t : Int → Int} {n : Int} : ∀ (j : Nat) (a : Int) (m c : aM) (L : List (List tF)) (cur : List tF) (s : Int) (f : Nat), MTx m t n → CTx c t n → 0 ≤ a → a ≤ n → (n - a).toNat < j → 2 * (n - a).toNat + 3 < f → ((s = 0 ∧ a < n) ∨ s = 1) → c 8 7 = a → cRI c L cur → mRI m L cur 1 → fOk t n (L.flatten ++ cur) → wsum (L.flatten ++ cur) ≤ a → (L.length : Int) ≤ a → recP t n a m c L s f := by
  intro j
  induction j with
  | zero => intro a m c L cur s f _ _ _ _ hj; omega
  | succ j ih =>
    intro a m c L cur s f hM hC h0 han hj hf hs h7 ci mi hok hw hL
    obtain ⟨f, rfl⟩ : ∃ g, f = g + 1 + 1 := ⟨f - 2, by omega⟩
    have hn := hM.2.2.2
    have hlen := fOk_w hok
    rcases scan_field hM h0 han (show s = 0 ∨ s = 1 by omega) with ⟨b1, b2⟩ | ⟨k, g, e, q, s', k1, k2, k3, k4, k5, k6, k7, k8, k9, k10, k11⟩
    · -- no field
      left
      refine ⟨m, aL_end ?_, FrM.rf, fun F hF => ⟨c, b2 c hC F (by omega), FrC.rf⟩⟩
      unfold fM_cutText_45_b
      simp only
      rw [if_neg (by decide), b1]
      rfl
    · obtain ⟨m1, r1, r2, r3⟩ := r_field (f := g) (e := e) mi (by omega) k4
      have hM1 := r3.tx hM
      have hs' : s' = 0 ∨ s' = 1 ∨ s' = 2 ∨ s' = 4 := by
        rcases k4 with hq | hq
        · have := (k10 hq).1
          rw [this]
          split <;> omega
        · have := (k9 hq).1; omega
      have hs4 : (if s' = 4 then (1 : Int) else 0) = q := by
        rcases k4 with hq | hq
        · have := (k10 hq).1
          rw [if_neg (by rw [this]; split <;> omega), hq]
        · rw [if_pos (k9 hq).1, hq]
      have hg : g = if q = 1 then a + 1 else a := by
        rcases k4 with hq | hq
        · rw [if_neg (by omega)]; exact (k10 hq).2.1
        · rw [if_pos hq]; exact (k9 hq).2.1
      have he : e = if q = 1 then k - 1 else k := by
        rcases k4 with hq | hq
        · rw [if_neg (by omega)]; exact (k10 hq).2.2.1
        · rw [if_pos hq]; exact (k9 hq).2.2.1
      obtain ⟨c1, f1, f2, f3, f4⟩ := c_endField (k := k) (q := q) (f := g) (e := e) ci h7 (by omega) k4 (by omega) hg he
      have hC1 := f3.tx hC
      have hok1 : fOk t n (L.flatten ++ (cur ++ [(g, e, q)])) := by
        intro x hx
        rw [← List.append_assoc] at hx
        rcases List.mem_append.mp hx with hx | hx
        · exact hok x hx
        · rw [List.mem_singleton] at hx
          subst hx
          refine ⟨k5, k6, k7, k4, fun hq i i0 i1 => ?_⟩
          simp only at i0 i1
          have h10 := k10 hq
          exact h10.2.2.2.2 i (by omega) (by omega)
      have hw1 : wsum (L.flatten ++ (cur ++ [(g, e, q)])) = wsum (L.flatten ++ cur) + (k - a) + 1 := by
        rw [← List.append_assoc, wsum_app]
        show _ + (fwt (g, e, q) + 0) = _
        unfold fwt
        simp only
        omega
      have ef : fM_passField m a = some (k, m1) := by rw [k3, r1]; rfl
      have pf (F : Nat) : aLoop (fR_find_34_b 2) (F + (k - a).toNat) (c, s, a) = aLoop (fR_find_34_b 2) F (c, s', k) := k11 c hC F
      have bod (w : Int) (hw : w = 0 ∨ w = 1) (hcond : (w = 1 ∧ k < n ∧ t k = 44) ∨ (w = 0 ∧ ¬ (k < n ∧ t k = 44))) : fM_cutText_45_b (m, a, 1) = fM_cutText_85 m1 k w := by
        unfold fM_cutText_45_b
        simp only
        rw [if_neg (by decide), ef]
        simp only [Option.bind_some]
        rw [if_neg (by omega), hM1.1]
        by_cases hkn : k < n
        · rw [if_pos hkn, gd_pos (by omega), hM1.2.1 k (by omega) hkn]
          by_cases h44 : t k = 44
          · rw [if_pos h44]
            rcases hcond with ⟨h1, _⟩ | ⟨h1, h2⟩
            · rw [h1]
            · exact absurd ⟨hkn, h44⟩ h2
          · rw [if_neg h44]
            rcases hcond with ⟨h1, h2⟩ | ⟨h1, h2⟩
            · exact absurd h2.2 h44
            · rw [h1]
        · rw [if_neg hkn]
          rcases hcond with ⟨h1, h2⟩ | ⟨h1, h2⟩
          · exact absurd h2.1 hkn
          · rw [h1]
      by_cases hcom : k < n ∧ t k = 44
      · -- a comma
        have eb : fM_cutText_45_b (m, a, 1) = some (Sum.inl (m1, k + 1, 1)) := by
          rw [bod 1 (Or.inr rfl) (Or.inl ⟨rfl, hcom⟩)]
          unfold fM_cutText_85
          rw [if_neg (by decide), w32_id (by omega) (by omega)]
        have st := c_step (s := s') (v := (1, mup c1 8 7 (k + 1))) hC (by omega) hcom.1 (by
          rw [c_stop hs' (Or.inl hcom.2) (by omega) (by rw [hs4]; exact f1), if_neg (by omega), if_neg (by omega)])
        have cs : CSt (k - a + 1).toNat (c, s, a) (mup c1 8 7 (k + 1), 1, k + 1) := by
          have := (k11 c hC).tr st
          rw [show (k - a).toNat + 1 = (k - a + 1).toNat by omega] at this
          exact this
        have hrec := ih (k + 1) m1 (mup c1 8 7 (k + 1)) L (cur ++ [(g, e, q)]) 1 (f + 1) hM1 ((FrC.at7 (c := c1) (v := k + 1)).tx hC1) (by omega) (by omega) (by omega) (by omega) (Or.inr rfl) (mup_same _ _ _ _) f2.at7 r2 hok1 (by rw [hw1]; omega) (by omega)
        rcases hrec with ⟨m', q1, q2, q3⟩ | ⟨m', c', k', cur', q1, q2, q3, q4, q5, q6, q7, q8, q9, q10, q11⟩
        · left
          refine ⟨m', (aL_go eb).trans q1, r3.tr q2, fun F hF => ?_⟩
          obtain ⟨G, rfl⟩ : ∃ G, F = G + (k - a + 1).toNat := ⟨F - (k - a + 1).toNat, by omega⟩
          rw [cs G]
          obtain ⟨c', z1, z2⟩ := q3 G (by omega)
          exact ⟨c', z1, (f3.tr FrC.at7).tr z2⟩
        · right
          refine ⟨m', c', k', cur', (aL_go eb).trans q1, r3.tr q2, (f3.tr FrC.at7).tr q3, by omega, q5, q6, q7, q8, q9, q10, ?_⟩
          rcases q11 with ⟨z1, z2, z3⟩ | ⟨z1, z2⟩
          · left
            refine ⟨z1, z2, ?_⟩
            have := cs.tr z3
            rw [show (k - a + 1).toNat + (k' - (k + 1)).toNat = (k' - a).toNat by omega] at this
            exact this
          · right
            refine ⟨z1, fun F hF => ?_⟩
            obtain ⟨G, rfl⟩ : ∃ G, F = G + (k - a + 1).toNat := ⟨F - (k - a + 1).toNat, by omega⟩
            rw [cs G]
            exact z2 G (by omega)
      · -- the record's end, or what can't be
        have eb : fM_cutText_45_b (m, a, 1) = some (Sum.inl (m1, k, 0)) := by
          rw [bod 0 (Or.inl rfl) (Or.inr ⟨rfl, hcom⟩)]
          rfl
        have ebx (r : Option ((aM × Int × Int) ⊕ ((aM × Int) ⊕ (Int × aM)))) (v : (aM × Int) ⊕ (Int × aM)) (h : fM_cutText_45_b (m1, k, 0) = some (Sum.inr v)) : aLoop fM_cutText_45_b (f + 1 + 1) (m, a, 1) = some v := (aL_go eb).trans (aL_end h)
        have e144 (k' : Int) (hk' : 0 ≤ k' ∧ k' ≤ n) : fM_cutText_144 m1 k' = if k' < n then (if t k' = 10 then some (Sum.inl (m1, k' + 1)) else some (Sum.inr (0, m1))) else some (Sum.inl (m1, k' + 1)) := by
          unfold fM_cutText_144
          rw [hM1.1, w32_id (by omega) (by omega)]
          by_cases h : k' < n
          · rw [if_pos h, if_pos h, gd_pos (by omega), hM1.2.1 k' hk'.1 h]
          · rw [if_neg h, if_neg h]
        by_cases hkn : k < n
        · by_cases h10 : t k = 10
          · -- a line's end
            obtain ⟨c2, d1, d2, d3, d4⟩ := c_endRecord (nx := k + 1) f2 (by omega)
            have st := c_step (s := s') (v := (0, c2)) hC (by omega) hkn (by
              rw [c_stop hs' (Or.inr (Or.inl h10)) (by omega) (by rw [hs4]; exact f1), if_neg (by omega), if_pos h10, d1])
            right
            refine ⟨m1, c2, k + 1, cur ++ [(g, e, q)], ebx none _ ?_, r3, f3.tr d3, by omega, by omega, d2, r2, hok1, by simp, by rw [hw1]; omega, Or.inl ⟨by omega, d4, ?_⟩⟩
            · unfold fM_cutText_45_b
              simp only
              rw [if_pos trivial, hM1.1, if_pos hkn, gd_pos (by omega), hM1.2.1 k (by omega) hkn, if_neg (by omega), e144 k (by omega), if_pos hkn, if_pos h10]
              rfl
            · have := (k11 c hC).tr st
              rw [show (k - a).toNat + 1 = (k + 1 - a).toNat by omega] at this
              exact this
          · by_cases h13 : t k = 13
            · have st := c_step (s := s') (v := (5, c1)) hC (by omega) hkn (by
                rw [c_stop hs' (Or.inr (Or.inr h13)) (by omega) (by rw [hs4]; exact f1), if_pos h13])
              by_cases h1310 : k + 1 < n ∧ t (k + 1) = 10
              · obtain ⟨c2, d1, d2, d3, d4⟩ := c_endRecord (nx := k + 2) f2 (by omega)
                have st2 := c_step (s := 5) (i := k + 1) (v := (0, c2)) hC1 (by omega) h1310.1 (by
                  unfold fR_stateBehind
                  rw [if_neg (by decide), if_neg (by decide), if_pos rfl, if_pos h1310.2, w32_id (by omega) (by omega), show k + 1 + 1 = k + 2 by omega, d1])
                right
                refine ⟨m1, c2, k + 2, cur ++ [(g, e, q)], ebx none _ ?_, r3, f3.tr d3, by omega, by omega, d2, r2, hok1, by simp, by rw [hw1]; omega, Or.inl ⟨by omega, d4, ?_⟩⟩
                · unfold fM_cutText_45_b
                  simp only
                  rw [if_pos trivial, hM1.1, if_pos hkn, gd_pos (by omega), hM1.2.1 k (by omega) hkn, if_pos h13, w32_id (by omega) (by omega), if_pos h1310.1, gd_pos (by omega), hM1.2.1 (k + 1) (by omega) h1310.1, if_pos h1310.2, e144 (k + 1) (by omega), if_pos h1310.1, if_pos h1310.2, show k + 1 + 1 = k + 2 by omega]
                  rfl
                · have := ((k11 c hC).tr st).tr st2
                  rw [show (k - a).toNat + 1 + 1 = (k + 2 - a).toNat by omega, show k + 1 + 1 = k + 2 by omega] at this
                  exact this
              · left
                refine ⟨m1, ebx none _ ?_, r3, fun F hF => ?_⟩
                · unfold fM_cutText_45_b
                  simp only
                  rw [if_pos trivial, hM1.1, if_pos hkn, gd_pos (by omega), hM1.2.1 k (by omega) hkn, if_pos h13, w32_id (by omega) (by omega)]
                  by_cases hlt : k + 1 < n
                  · rw [if_pos hlt, gd_pos (by omega), hM1.2.1 (k + 1) (by omega) hlt, if_neg (fun e => h1310 ⟨hlt, e⟩)]
                  · rw [if_neg hlt]
                · obtain ⟨G, rfl⟩ : ∃ G, F = G + ((k - a).toNat + 1) := ⟨F - ((k - a).toNat + 1), by omega⟩
                  rw [((k11 c hC).tr st) G]
                  by_cases hlt : k + 1 < n
                  · have st2 := c_step (s := 5) (i := k + 1) (v := (6, c1)) hC1 (by omega) hlt (by
                      unfold fR_stateBehind
                      rw [if_neg (by decide), if_neg (by decide), if_pos rfl, if_neg (fun e => h1310 ⟨hlt, e⟩)])
                    obtain ⟨H, rfl⟩ : ∃ H, G = H + 1 := ⟨G - 1, by omega⟩
                    rw [st2 H]
                    exact ⟨c1, c_wrong hC1 (n - (k + 1 + 1)).toNat (k + 1 + 1) H (by omega) (by omega) (by omega), f3⟩
                  · obtain ⟨H, rfl⟩ : ∃ H, G = H + 1 := ⟨G - 1, by omega⟩
                    refine ⟨c1, aL_end ?_, f3⟩
                    unfold fR_find_34_b
                    simp only
                    rw [hC1.1, if_neg (by omega)]
                    rfl
            · -- something else behind a mark
              have hq1 : q = 1 := by
                rcases k4 with hq | hq
                · have := (k10 hq).2.2.2.1 hkn
                  unfold stp at this
                  omega
                · exact hq
              have s4 : s' = 4 := (k9 hq1).1
              left
              refine ⟨m1, ebx none _ ?_, r3, fun F hF => ?_⟩
              · unfold fM_cutText_45_b
                simp only
                rw [if_pos trivial, hM1.1, if_pos hkn, gd_pos (by omega), hM1.2.1 k (by omega) hkn, if_neg h13, e144 k (by omega), if_pos hkn, if_neg h10]
                rfl
              · obtain ⟨G, rfl⟩ : ∃ G, F = (G + 1) + (k - a).toNat := ⟨F - (k - a).toNat - 1, by omega⟩
                rw [pf (G + 1)]
                have hn34 := (k9 hq1).2.2.2 hkn
                have st := c_step (s := s') (v := (6, c)) hC (by omega) hkn (by
                  unfold fR_stateBehind
                  rw [if_neg (by omega), if_neg (by omega), if_neg (by omega), if_neg hn34, if_neg (fun e => hcom ⟨hkn, e⟩), if_neg h10, if_neg h13, if_pos s4])
                rw [st G]
                exact ⟨c, c_wrong hC (n - (k + 1)).toNat (k + 1) G (by omega) (by omega) (by omega), FrC.rf⟩
        · -- the text's end
          have hkn' : k = n := by omega
          obtain ⟨c2, d1, d2, d3, d4⟩ := c_endRecord (nx := n) f2 (by omega)
          have s0 : s' ≠ 0 := by
            intro hs0
            rcases k4 with hq | hq
            · have h9 := (k10 hq).1
              rw [hs0] at h9
              by_cases hka : k = a
              · rw [if_pos hka] at h9
                omega
              · rw [if_neg hka] at h9
                omega
            · have := (k9 hq).1
              omega
          right
          refine ⟨m1, c2, n + 1, cur ++ [(g, e, q)], ebx none _ ?_, r3, f3.tr d3, by omega, by omega, d2, r2, hok1, by simp, by rw [hw1]; omega, Or.inr ⟨rfl, fun F hF => ?_⟩⟩
          · unfold fM_cutText_45_b
            simp only
            rw [if_pos trivial, hM1.1, if_neg hkn, e144 k (by omega), if_neg hkn, hkn']
            rfl
          · obtain ⟨G, rfl⟩ : ∃ G, F = (G + 1) + (k - a).toNat := ⟨F - (k - a).toNat - 1, by omega⟩
            rw [pf (G + 1)]
            refine aL_end ?_
            have e75 : fR_find_75 c 2 s' = some (1, c2) := by
              unfold fR_find_75 fR_find_90
              have f1' : fR_endField c (c 2 1) q = some c1 := by rw [hC.1, ← hkn']; exact f1
              have f2' : c1 2 1 = n := hC1.1
              by_cases h4 : s' = 4
              · rw [if_pos h4] at hs4 ⊢
                rw [← hs4] at f1'
                rw [f1']
                simp only [Option.bind_some]
                rw [f2', d1]
                rfl
              · rw [if_neg h4] at hs4 ⊢
                rw [← hs4] at f1'
                rw [f1']
                simp only [Option.bind_some]
                rw [f2', d1]
                rfl
            unfold fR_find_34_b
            simp only
            rw [hC.1, if_neg (by omega), e75]
            by_cases h1 : s' = 1
            · rw [if_pos h1]; rfl
            rw [if_neg h1]
            by_cases h2 : s' = 2
            · rw [if_pos h2]; rfl
            rw [if_neg h2, if_pos (by omega)]
            rfl
