/-! LOAD: class and reference -/
def cldP (y : Int) : Prop := 8 ≤ y ∧ y ≤ 20
theorem load_pair {t : Int → Int} {n : Int} {c0 q : aM} (hC : CTx c0 t n) (hM : MTx q t n) (ht : ∀ i, 0 ≤ i → i < n → okT (t i)) (h13 : 0 ≤ c0 13 1) :
    (∃ (k : Nat) (c' m' : aM), (k = 2 ∨ k = 3 ∨ k = 4 ∨ k = 5) ∧ fX_load c0 = some (k, 0, c') ∧ FrC c0 c' ∧ fM_load q = some (0, mup m' 130 0 (kd_load k)) ∧ FrM q m') ∨
    (∃ (L : List (List tF)) (c' m' : aM), goodL t n L ∧ fX_load c0 = some (1, (L.length : Int) - 1, mup c' 123 0 0) ∧ CT c' (TL t L) ∧ (∀ y, ¬ cldP y → c' y = c0 y) ∧ fM_load q = some ((L.length : Int) - 1, m') ∧ MT m' (TL t L) ∧ Fr ldP q m' ∧ m' 130 0 = 0 ∧ m' 130 37 = -1) := by
  obtain ⟨c, hc⟩ : ∃ c, c = mup (mup (mup (mup (mup (mup c0 8 3 0) 8 4 0) 8 5 0) 8 6 0) 8 7 0) 8 8 1 := ⟨_, rfl⟩
  obtain ⟨m, hm⟩ : ∃ m, m = mup (mup q 130 13 0) 130 17 0 := ⟨_, rfl⟩
  have crow (y : Int) (hy : y ≠ 8) : c y = c0 y := by
    funext j
    rw [hc, mup_ref hy, mup_ref hy, mup_ref hy, mup_ref hy, mup_ref hy, mup_ref hy]
  have fc0 : FrC c0 c := fun y a _ _ _ => crow y a
  have fm0 : FrM q m := by
    refine ⟨fun y a _ _ _ _ => ?_, fun j a b => ?_⟩
    · funext j; rw [hm, mup_ref a, mup_ref a]
    · rw [hm, mup_idx b, mup_idx a]
  have ci : cRI c [] [] := by
    refine ⟨?_, ?_, ?_, ?_, ?_, fun j _ x hx => ?_⟩
    · rw [hc, mup_idx (by decide), mup_idx (by decide), mup_idx (by decide), mup_idx (by decide), mup_idx (by decide), mup_same]; rfl
    · rw [hc, mup_idx (by decide), mup_idx (by decide), mup_idx (by decide), mup_idx (by decide), mup_same]; rfl
    · rw [hc, mup_idx (by decide), mup_idx (by decide), mup_idx (by decide), mup_same]; rfl
    · rw [hc, mup_idx (by decide), mup_idx (by decide), mup_same]; rfl
    · rw [hc, mup_same]; rfl
    · cases hx
  have mi : mRI m [] [] 0 := by
    refine ⟨?_, ?_, fun r hr => ?_, fun j x hx => ?_⟩
    · rw [hm, mup_idx (by decide), mup_same]; rfl
    · rw [hm, mup_same]; rfl
    · exact absurd hr (Nat.not_lt_zero r)
    · cases hx
  have hn := hM.2.2
  have cut := recOut (n - 0).toNat.succ 0 m c [] FU FU (fm0.tx hM) (fc0.tx hC) (by omega) (by omega) (by omega) (by show _ < 1000000; omega) (by show _ < 1000000; omega) (by rw [hc, mup_idx (by decide), mup_same]) ci mi (fun x hx => by cases hx) (by decide) (by decide) (fun x hx => by cases hx)
  have ef : fR_find c0 2 = aLoop (fR_find_34_b 2) FU (c, 0, 0) := by rw [hc]; rfl
  have er : fM_cutText q = aLoop fM_cutText_12_b FU (m, 0) := by rw [hm]; rfl
  rcases cut with ⟨m', c', a1, a2, a3, a4⟩ | ⟨m', c', L, a1, a2, a3, a4, a5, a6, a7, a8, a9, a10, a11⟩
  · refine Or.inl ⟨2, c', m', Or.inl rfl, ?_, fc0.tr a4, ?_, fm0.tr a2⟩
    · rw [fX_load_eq, ef, a3]
      simp only [Option.bind_some]
      rw [if_pos trivial]
    · rw [fM_load_eq, er, a1]
      simp only [Option.bind_some]
      rw [if_pos trivial]
      exact m48 (by decide)
  · have hX : fX_load c0 = cRest c' := by
      rw [fX_load_eq, ef, a3]
      simp only [Option.bind_some]
      rw [if_neg (by decide)]
    have hMM : fM_load q = mRest m' := by
      rw [fM_load_eq, er, a1]
      simp only [Option.bind_some]
      rw [if_neg (by decide)]
    have fC := fc0.tr a4
    have fM := fm0.tr a2
    have hfl := fOk_w a9
    have hll : (L.length : Int) ≤ (L.flatten.length : Int) := by
      clear hX hMM fC fM hfl a1 a2 a3 a4 a5 a6 a7 a8 a9 a10
      induction L with
      | nil => simp
      | cons a r ih =>
        have h1 := a11 a List.mem_cons_self
        have h2 := ih (fun x hx => a11 x (List.mem_cons_of_mem _ hx))
        simp only [List.flatten_cons, List.length_append, List.length_cons]
        omega
    have h13' : 0 ≤ c' 13 1 := by rw [fC 13 (by decide) (by decide) (by decide) (by decide)]; exact h13
    obtain ⟨r1, r2, r3, r4⟩ := r_rest (fM.tx hM) ⟨a6, a7, a8⟩ a9 a10 a11 ht
    rcases c_rest (fC.tx hC) a5 a9 a10 a11 ht (by omega) h13' with ⟨b1, b2⟩ | ⟨b1, b2, b3⟩ | ⟨b1, b2, b3, b4⟩ | ⟨b1, c2, b2, b3, b4⟩
    · exact Or.inl ⟨3, c', m', Or.inr (Or.inl rfl), hX.trans b2, fC, hMM.trans (r1 b1), fM⟩
    · exact Or.inl ⟨4, c', m', Or.inr (Or.inr (Or.inl rfl)), hX.trans b3, fC, hMM.trans (r2 b1 b2), fM⟩
    · exact Or.inl ⟨5, c', m', Or.inr (Or.inr (Or.inr rfl)), hX.trans b4, fC, hMM.trans (r3 b1 b2 b3), fM⟩
    · obtain ⟨m2, d1, d2, d3, d4, d5⟩ := r4 b1
      refine Or.inr ⟨L, c2, m2, b1, hX.trans b2, b3, fun y hy => ?_, hMM.trans d1, d2, fun y j hy => ?_, d4, d5⟩
      · have hy' : ¬ (8 ≤ y ∧ y ≤ 20) := hy
        rw [b4 y (by omega) (by omega) (by omega) (by omega) (by omega) (by omega) (by omega) (by omega) (by omega), fC y (by omega) (by omega) (by omega) (by omega)]
      · rw [d3 y j hy]
        by_cases y130 : y = 130
        · subst y130
          have hj : ¬ (j = 0 ∨ j = 4 ∨ j = 5 ∨ j = 8 ∨ j = 13 ∨ j = 17 ∨ j = 19 ∨ j = 20 ∨ j = 37) := fun e => hy (Or.inl ⟨rfl, e⟩)
          exact fM.2 j (by omega) (by omega)
        · have hr : ¬ (132 ≤ y ∧ y ≤ 141) := fun e => hy (Or.inr (Or.inr e))
          rw [fM.1 y y130 (by omega) (by omega) (by omega) (by omega)]
theorem ok_load {S : Int → Int} : OkT (RI S) (fun k => k = 2 ∨ k = 3 ∨ k = 4 ∨ k = 5) kd_load fX_load fM_load := by
  intro m hm
  obtain ⟨T, wt, tx, qx, fx, ox, ct, mt, ax, sx⟩ := id hm
  have hC : CTx m (m 3) (m 2 1) := ⟨rfl, fun _ _ _ => rfl, tx.1⟩
  have hM : MTx m (m 3) (m 2 1) := ⟨tx.2.1, fun i i0 i1 => (tx.2.2 i i0 i1).1, tx.1⟩
  have ht : ∀ i, 0 ≤ i → i < m 2 1 → okT (m 3 i) := fun i i0 i1 => (tx.2.2 i i0 i1).2
  have h13 : 0 ≤ m 13 1 := ct.2.2.1.1.1
  rcases load_pair hC hM ht h13 with ⟨k, c', m', a1, a2, a3, a4, a5⟩ | ⟨L, c', m', a1, a2, a3, a4, a5, a6, a7, a8, a9⟩
  · -- refused
    have hk1 : ¬ k = 1 := by omega
    have eN : mkN (k, (0 : Int), c') = c' := by
      unfold mkN
      exact if_neg hk1
    have hM2 : MTx c' (m 3) (m 2 1) := by
      unfold MTx
      rw [a3 130 (by decide) (by decide) (by decide) (by decide), a3 131 (by decide) (by decide) (by decide) (by decide)]
      exact hM
    rcases load_pair hC hM2 ht h13 with ⟨k2, c2, m2, b1, b2, b3, b4, b5⟩ | ⟨L, c2, m2, b1, b2, b3, b4, b5⟩
    · rw [a2] at b2
      injection b2 with b2
      injection b2 with e1 e2
      injection e2 with e2 e3
      subst e1 e3
      refine ⟨(k, 0, c'), (0, mup m2 130 0 (kd_load k)), a2, Or.inr a1, ?_, by rw [eN]; exact b4, mup_same m2 130 0 (kd_load k), fun h => absurd h hk1, ?_, ?_⟩
      · show c' (-1) = m (-1)
        exact a3 _ (by decide) (by decide) (by decide) (by decide)
      · rw [eN]
        funext j
        show mup m2 130 0 (kd_load k) 156 j = c' 156 j
        rw [mup_ref (by decide), b5.1 156 (by decide) (by decide) (by decide) (by decide) (by decide)]
      · -- the relation
        have row (y : Int) (h : y ≠ 130) (h1 : ¬ (8 ≤ y ∧ y ≤ 11)) (h2 : ¬ (138 ≤ y ∧ y ≤ 141)) : mup m2 130 0 (kd_load k) y = m y := by
          funext j
          rw [mup_ref h, b5.1 y h (by omega) (by omega) (by omega) (by omega), a3 y (by omega) (by omega) (by omega) (by omega)]
        have cel (j : Int) (h0 : j ≠ 0) (h13 : j ≠ 13) (h17 : j ≠ 17) : mup m2 130 0 (kd_load k) 130 j = m 130 j := by
          rw [mup_idx h0, b5.2 j h13 h17, a3 130 (by decide) (by decide) (by decide) (by decide)]
        show RI S (mup m2 130 0 (kd_load k))
        obtain ⟨w, hw⟩ : ∃ w, w = mup m2 130 0 (kd_load k) := ⟨_, rfl⟩
        rw [← hw] at row cel ⊢
        refine ⟨T, wt, ?_, ?_, ?_, ?_, ?_, ?_, ?_, ?_⟩
        · exact tx.of (by rw [row 2 (by decide) (by decide) (by decide)]) (row 3 (by decide) (by decide) (by decide)) (cel 2 (by decide) (by decide) (by decide)) (fun i _ _ => by rw [row 131 (by decide) (by decide) (by decide)])
        · exact qx.of (by rw [row 4 (by decide) (by decide) (by decide)]) (row 5 (by decide) (by decide) (by decide)) (cel 3 (by decide) (by decide) (by decide)) (fun i _ _ => by rw [row 131 (by decide) (by decide) (by decide)])
        · rw [row 1 (by decide) (by decide) (by decide), cel 25 (by decide) (by decide) (by decide)]; exact fx
        · exact ox.of (by rw [row 6 (by decide) (by decide) (by decide)]) (row 7 (by decide) (by decide) (by decide)) (cel 45 (by decide) (by decide) (by decide)) (row 155 (by decide) (by decide) (by decide))
        · exact ct.of (by rw [row 12 (by decide) (by decide) (by decide)]) (by rw [row 12 (by decide) (by decide) (by decide)]) (by rw [row 13 (by decide) (by decide) (by decide)]) (row 14 (by decide) (by decide) (by decide)) (row 15 (by decide) (by decide) (by decide)) (row 16 (by decide) (by decide) (by decide)) (row 17 (by decide) (by decide) (by decide)) (row 18 (by decide) (by decide) (by decide)) (row 19 (by decide) (by decide) (by decide)) (row 20 (by decide) (by decide) (by decide))
        · exact mt.of (cel 4 (by decide) (by decide) (by decide)) (cel 5 (by decide) (by decide) (by decide)) (row 132 (by decide) (by decide) (by decide)) (row 133 (by decide) (by decide) (by decide)) (row 134 (by decide) (by decide) (by decide)) (row 135 (by decide) (by decide) (by decide)) (row 136 (by decide) (by decide) (by decide)) (row 137 (by decide) (by decide) (by decide)) (fun i _ _ => by rw [row 131 (by decide) (by decide) (by decide)])
        · exact ax.of (row 123 (by decide) (by decide) (by decide)) (row 124 (by decide) (by decide) (by decide)) (row 125 (by decide) (by decide) (by decide)) (row 126 (by decide) (by decide) (by decide)) (row 127 (by decide) (by decide) (by decide)) (row 128 (by decide) (by decide) (by decide)) (row 129 (by decide) (by decide) (by decide)) (cel 37 (by decide) (by decide) (by decide)) (cel 38 (by decide) (by decide) (by decide)) (cel 39 (by decide) (by decide) (by decide)) (cel 40 (by decide) (by decide) (by decide)) (row 151 (by decide) (by decide) (by decide)) (row 152 (by decide) (by decide) (by decide)) (row 153 (by decide) (by decide) (by decide)) (row 154 (by decide) (by decide) (by decide))
        · rw [row (-1) (by decide) (by decide) (by decide)]; exact sx
    · rw [a2] at b2
      injection b2 with b2
      injection b2 with e1 e2
      exact absurd e1 hk1
  · -- read
    obtain ⟨qm, hq⟩ : ∃ qm, qm = mkN (1, (L.length : Int) - 1, mup c' 123 0 0) := ⟨_, rfl⟩
    have qrow (y : Int) (h1 : y ≠ 156) (h2 : y ≠ 123) : qm y = c' y := by
      funext j
      rw [hq]
      show mup (mup c' 123 0 0) 156 0 ((L.length : Int) - 1) y j = c' y j
      rw [mup_ref h1, mup_ref h2]
    have cm (y : Int) (h : ¬ (8 ≤ y ∧ y ≤ 20)) : c' y = m y := a4 y h
    have hM2 : MTx qm (m 3) (m 2 1) := by
      unfold MTx
      rw [qrow 130 (by decide) (by decide), qrow 131 (by decide) (by decide), cm 130 (by decide), cm 131 (by decide)]
      exact hM
    rcases load_pair hC hM2 ht h13 with ⟨k2, c2, m2, b1, b2, b3, b4, b5⟩ | ⟨L2, c2, m2, b1, b2, b3, b4, b5, b6, b7, b8, b9⟩
    · rw [a2] at b2
      injection b2 with b2
      injection b2 with e1 e2
      omega
    · rw [a2] at b2
      injection b2 with b2
      injection b2 with e1 e2
      injection e2 with e2 e3
      have ect : CT (mup c' 123 0 0) (TL (m 3) L2) := by
        rw [e3]
        refine b3.of ?_ ?_ ?_ ?_ ?_ ?_ ?_ ?_ ?_ ?_ <;> first | (funext j; exact mup_ref (by decide)) | exact mup_ref (by decide)
      refine ⟨(1, (L.length : Int) - 1, mup c' 123 0 0), ((L2.length : Int) - 1, m2), a2, Or.inl rfl, ?_, by rw [← hq]; exact b5, b8, fun _ => e2, ?_, ?_⟩
      · show mup c' 123 0 0 (-1) = m (-1)
        funext j
        rw [mup_ref (by decide), cm (-1) (by decide)]
      · rw [← hq]
        funext j
        exact b7 156 j (fun e => by
          rcases e with e | e | e
          · exact absurd e.1 (by decide)
          · exact absurd e.1 (by decide)
          · exact absurd e.2 (by decide))
      · show RI S m2
        have fro (y j : Int) (h1 : y ≠ 130) (h2 : y ≠ 131) (h3 : ¬ (132 ≤ y ∧ y ≤ 141)) : m2 y j = qm y j := b7 y j (fun e => by
          rcases e with e | e | e
          · exact h1 e.1
          · exact h2 e.1
          · exact h3 e)
        have row (y : Int) (h1 : y ≠ 130) (h2 : y ≠ 131) (h3 : ¬ (132 ≤ y ∧ y ≤ 141)) (h4 : y ≠ 156) (h5 : y ≠ 123) (h6 : ¬ (8 ≤ y ∧ y ≤ 20)) : m2 y = m y := by
          funext j
          rw [fro y j h1 h2 h3, qrow y h4 h5, cm y h6]
        have rowc (y : Int) (h1 : y ≠ 130) (h2 : y ≠ 131) (h3 : ¬ (132 ≤ y ∧ y ≤ 141)) (h4 : y ≠ 156) : m2 y = mup c' 123 0 0 y := by
          funext j
          rw [fro y j h1 h2 h3, hq]
          show mup (mup c' 123 0 0) 156 0 _ y j = _
          rw [mup_ref h4]
        have cel (j : Int) (h : ¬ (j = 0 ∨ j = 4 ∨ j = 5 ∨ j = 8 ∨ j = 13 ∨ j = 17 ∨ j = 19 ∨ j = 20 ∨ j = 37)) : m2 130 j = m 130 j := by
          rw [b7 130 j (fun e => by
            rcases e with e | e | e
            · exact h e.2
            · exact absurd e.1 (by decide)
            · exact absurd e.1 (by decide)), qrow 130 (by decide) (by decide), cm 130 (by decide)]
        have r131 (j : Int) (h : j < 336) : m2 131 j = m 131 j := by
          rw [b7 131 j (fun e => by
            rcases e with e | e | e
            · exact absurd e.1 (by decide)
            · omega
            · exact absurd e.1 (by decide)), qrow 131 (by decide) (by decide), cm 131 (by decide)]
        refine ⟨TL (m 3) L2, WT_TL b1, ?_, ?_, ?_, ?_, ?_, b6, ?_, ?_⟩
        · exact tx.of (by rw [row 2 (by decide) (by decide) (by decide) (by decide) (by decide) (by decide)]) (row 3 (by decide) (by decide) (by decide) (by decide) (by decide) (by decide)) (cel 2 (by decide)) (fun i _ _ => r131 i (by omega))
        · exact qx.of (by rw [row 4 (by decide) (by decide) (by decide) (by decide) (by decide) (by decide)]) (row 5 (by decide) (by decide) (by decide) (by decide) (by decide) (by decide)) (cel 3 (by decide)) (fun i _ _ => r131 i (by omega))
        · rw [row 1 (by decide) (by decide) (by decide) (by decide) (by decide) (by decide), cel 25 (by decide)]; exact fx
        · exact ox.of (by rw [row 6 (by decide) (by decide) (by decide) (by decide) (by decide) (by decide)]) (row 7 (by decide) (by decide) (by decide) (by decide) (by decide) (by decide)) (cel 45 (by decide)) (row 155 (by decide) (by decide) (by decide) (by decide) (by decide) (by decide))
        · have rc (y : Int) (h : 8 ≤ y ∧ y ≤ 20) : m2 y = mup c' 123 0 0 y := rowc y (by omega) (by omega) (by omega) (by omega)
          exact ect.of (by rw [rc 12 (by decide)]) (by rw [rc 12 (by decide)]) (by rw [rc 13 (by decide)]) (rc 14 (by decide)) (rc 15 (by decide)) (rc 16 (by decide)) (rc 17 (by decide)) (rc 18 (by decide)) (rc 19 (by decide)) (rc 20 (by decide))
        · left
          refine ⟨?_, b9⟩
          rw [rowc 123 (by decide) (by decide) (by decide) (by decide), mup_same]
        · rw [row (-1) (by decide) (by decide) (by decide) (by decide) (by decide) (by decide)]; exact sx
