/-! LOAD: the whole text -/
theorem take_app {L : List (List tF)} {x : List tF} {r : Nat} (h : r ≤ L.length) : (L ++ [x]).take r = L.take r := by
  rw [List.take_append_of_le_length h]
/-- how reading the text ends: not at all, or with these records -/
def cutP (t : Int → Int) (n : Int) (m c : aM) (k : Int) (f F : Nat) : Prop :=
  (∃ m' c', aLoop fM_cutText_12_b f (m, k) = some (0, m') ∧ FrM m m' ∧ aLoop (fR_find_34_b 2) F (c, 0, k) = some (0, c') ∧ FrC c c') ∨
  (∃ m' c' L', aLoop fM_cutText_12_b f (m, k) = some (1, m') ∧ FrM m m' ∧ aLoop (fR_find_34_b 2) F (c, 0, k) = some (1, c') ∧ FrC c c' ∧ cRI c' L' [] ∧ m' 130 17 = (L'.length : Int) ∧ (∀ r : Nat, r ≤ L'.length → m' 141 (r : Int) = (((L'.take r).flatten).length : Int)) ∧ (∀ (j : Nat) x, (L'.flatten)[j]? = some x → m' 138 (j : Int) = x.1 ∧ m' 139 (j : Int) = x.2.1 ∧ m' 140 (j : Int) = x.2.2) ∧ fOk t n L'.flatten ∧ wsum L'.flatten ≤ n + 1 ∧ (∀ x ∈ L', 1 ≤ x.length))
theorem recOut {t : Int → Int} {n : Int} : ∀ (j : Nat) (k : Int) (m c : aM) (L : List (List tF)) (f F : Nat), MTx m t n → CTx c t n → 0 ≤ k → k ≤ n → (n - k).toNat < j → (n - k).toNat + 1 < f → (n - k).toNat + 3 < F → c 8 7 = k → cRI c L [] → mRI m L [] 0 → fOk t n L.flatten → wsum L.flatten ≤ k → (L.length : Int) ≤ k → (∀ x ∈ L, 1 ≤ x.length) → cutP t n m c k f F := by
  intro j
  induction j with
  | zero => intro k m c L f F _ _ _ _ hj; omega
  | succ j ih =>
    intro k m c L f F hM hC h0 hkn hj hf hF h7 ci mi hok hw hL hne
    obtain ⟨f, rfl⟩ : ∃ g, f = g + 1 := ⟨f - 1, by omega⟩
    have hn := hM.2.2.2
    obtain ⟨i1, i2, i3, i4⟩ := id mi
    rw [List.append_nil] at i1 i4
    rw [Int.add_zero] at i2
    by_cases hlt : k < n
    · -- one more record
      obtain ⟨m1, hm1⟩ : ∃ m1, m1 = mup (mup m 141 (m 130 17) (m 130 13)) 130 17 (m 130 17 + 1) := ⟨_, rfl⟩
      have eb : fM_cutText_12_b (m, k) = fM_cutText_45 m1 k 1 := by
        unfold fM_cutText_12_b
        simp only
        rw [hM.1, if_pos hlt, gd_pos (by omega), w32_id (by omega) (by omega), hm1]
      have fr1 : FrM m m1 := by
        rw [hm1]
        refine ⟨fun y y1 y2 y3 y4 y5 => ?_, fun j j1 j2 => ?_⟩
        · funext j
          rw [mup_ref y1, mup_ref y5]
        · rw [mup_idx j2, mup_ref (by decide)]
      have mi1 : mRI m1 L [] 1 := by
        refine ⟨?_, ?_, fun r hr => ?_, fun j x hx => ?_⟩
        · rw [hm1, mup_idx (by decide), mup_ref (by decide), i1, List.append_nil]
        · rw [hm1, mup_same, i2]
        · rw [hm1, mup_ref (by decide)]
          by_cases e : r = L.length
          · rw [e, ← i2, mup_same, i1, List.take_length]
          · rw [mup_idx (by omega)]
            exact i3 r (by omega)
        · rw [List.append_nil] at hx
          rw [hm1, mup_ref (by decide), mup_ref (by decide), mup_ref (by decide), mup_ref (by decide), mup_ref (by decide), mup_ref (by decide)]
          exact i4 j x hx
      have hin := recIn ((n - k).toNat + 1) k m1 c L [] 0 FU (fr1.tx hM) hC h0 hkn (by omega) (by show _ < 1000000; omega) (Or.inl ⟨rfl, hlt⟩) h7 ci mi1 (by rw [List.append_nil]; exact hok) (by rw [List.append_nil]; exact hw) hL
      rcases hin with ⟨m', q1, q2, q3⟩ | ⟨m', c', k', cur', q1, q2, q3, q4, q5, q6, q7, q8, q9, q10, q11⟩
      · left
        obtain ⟨c', z1, z2⟩ := q3 F (by omega)
        refine ⟨m', c', aL_end ?_, fr1.tr q2, z1, z2⟩
        rw [eb]
        exact q1
      · have eb2 : fM_cutText_12_b (m, k) = some (Sum.inl (m', k')) := by rw [eb]; exact q1
        obtain ⟨p1, p2, p3, p4⟩ := id q7
        have mi2 : mRI m' (L ++ [cur']) [] 0 := by
          refine ⟨?_, ?_, fun r hr => ?_, fun j x hx => ?_⟩
          · rw [p1]; simp [List.flatten_append]
          · rw [p2, List.length_append]; simp
          · rw [show (L ++ [cur']).length + (0 : Int).toNat = L.length + 1 by simp] at hr
            rw [take_app (by omega)]
            exact p3 r (by rw [show (1 : Int).toNat = 1 from rfl]; omega)
          · refine p4 j x ?_
            rw [← hx]
            simp [List.flatten_append]
        have hne2 : ∀ x ∈ L ++ [cur'], 1 ≤ x.length := by
          intro x hx
          rcases List.mem_append.mp hx with hx | hx
          · exact hne x hx
          · rw [List.mem_singleton] at hx
            subst hx
            exact q9
        have ef : (L ++ [cur']).flatten = L.flatten ++ cur' := by simp [List.flatten_append]
        rcases q11 with ⟨z1, z2, z3⟩ | ⟨z1, z2⟩
        · obtain ⟨G, rfl⟩ : ∃ G, F = G + (k' - k).toNat := ⟨F - (k' - k).toNat, by omega⟩
          have hrec := ih k' m' c' (L ++ [cur']) f G ((fr1.tr q2).tx hM) (q3.tx hC) (by omega) z1 (by omega) (by omega) (by omega) z2 q6 mi2 (by rw [ef]; exact q8) (by rw [ef]; exact q10) (by rw [List.length_append]; simp; omega) hne2
          rcases hrec with ⟨m2, c2, w1, w2, w3, w4⟩ | ⟨m2, c2, L2, w1, w2, w3, w4, w5⟩
          · left
            exact ⟨m2, c2, (aL_go eb2).trans w1, (fr1.tr q2).tr w2, (z3 G).trans w3, q3.tr w4⟩
          · right
            exact ⟨m2, c2, L2, (aL_go eb2).trans w1, (fr1.tr q2).tr w2, (z3 G).trans w3, q3.tr w4, w5⟩
        · right
          obtain ⟨f, rfl⟩ : ∃ g, f = g + 1 := ⟨f - 1, by omega⟩
          have hM' := (fr1.tr q2).tx hM
          obtain ⟨s1, s2, s3, s4⟩ := id mi2
          rw [List.append_nil] at s1 s4
          rw [Int.add_zero] at s2
          have hl17 : m' 130 17 < 243 := by
            have h1 : ((L ++ [cur']).length : Int) ≤ n + 1 := by rw [List.length_append]; simp; omega
            rw [s2]
            omega
          refine ⟨mup m' 141 (m' 130 17) (m' 130 13), c', L ++ [cur'], (aL_go eb2).trans (aL_end ?_), ?_, z2 F (by omega), q3, q6, ?_, ?_, ?_, by rw [ef]; exact q8, by rw [ef]; omega, hne2⟩
          · unfold fM_cutText_12_b
            simp only
            rw [hM'.1, if_neg (by omega), gd_pos (by omega)]
          · refine (fr1.tr q2).tr ⟨fun y y1 y2 y3 y4 y5 => ?_, fun j j1 j2 => mup_ref (by decide)⟩
            funext j
            exact mup_ref y5
          · rw [mup_ref (by decide)]; exact s2
          · intro r hr
            by_cases e : r = (L ++ [cur']).length
            · rw [e, ← s2, mup_same, s1, List.take_length]
            · rw [mup_idx (by omega)]
              exact s3 r (by rw [show (0 : Int).toNat = 0 from rfl]; omega)
          · intro j x hx
            rw [mup_ref (by decide), mup_ref (by decide), mup_ref (by decide)]
            exact s4 j x hx
    · -- the end
      have hkn' : k = n := by omega
      subst hkn'
      right
      obtain ⟨F, rfl⟩ : ∃ g, F = g + 1 := ⟨F - 1, by omega⟩
      refine ⟨mup m 141 (m 130 17) (m 130 13), c, L, aL_end ?_, ?_, aL_end ?_, FrC.rf, ci, ?_, ?_, ?_, hok, by omega, hne⟩
      · unfold fM_cutText_12_b
        simp only
        rw [hM.1, if_neg hlt, gd_pos (by omega)]
      · refine ⟨fun y y1 y2 y3 y4 y5 => ?_, fun j j1 j2 => mup_ref (by decide)⟩
        funext j
        exact mup_ref y5
      · unfold fR_find_34_b
        simp only
        rw [hC.1, if_neg hlt]
        rfl
      · rw [mup_ref (by decide)]; exact i2
      · intro r hr
        by_cases e : r = L.length
        · rw [e, ← i2, mup_same, i1, List.take_length]
        · rw [mup_idx (by omega)]
          exact i3 r (by rw [show (0 : Int).toNat = 0 from rfl]; omega)
      · intro j x hx
        rw [mup_ref (by decide), mup_ref (by decide), mup_ref (by decide)]
        exact i4 j x hx
