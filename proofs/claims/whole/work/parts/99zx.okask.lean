/-! ASK: ok_ask -/
theorem ok_ask {S : Int → Int} : OkT (RI S) (fun k => k = 3 ∨ k = 2 ∨ k = 5) kd_ask fX_ask fM_ask := by
  intro m hm
  obtain ⟨T, wt, tx, qx, fx, ox, ct, mt, ax, sx⟩ := hm
  by_cases t0 : Tn T = 0
  · have l : m 123 0 = 0 := by
      rcases ax with h | h
      · exact h.1
      · have := h.2.2.1
        omega
    have e1 : fX_ask m = some (3, 0, m) := by
      unfold fX_ask
      rw [ct.1, if_pos t0]
    obtain ⟨q, eq⟩ : ∃ q, q = mup (mup (mup m 130 0 0) 130 37 (-1)) 130 0 1 := ⟨_, rfl⟩
    have e2 : fM_ask m = some (0, q) := by
      unfold fM_ask
      rw [mt.1, if_pos t0, eq]
      rfl
    have row (y : Int) (h : y ≠ 130) : q y = m y := by rw [eq, row_up h, row_up h, row_up h]
    have cel (j : Int) (h0 : j ≠ 0) (h1 : j ≠ 37) : q 130 j = m 130 j := by rw [eq, mup_idx h0, mup_idx h1, mup_idx h0]
    have h0 : q 130 0 = 1 := by rw [eq, mup_same]
    suffices hRI : RI S q from ⟨(3, 0, m), (0, q), e1, Or.inr (Or.inl rfl), rfl, e2, h0, (fun h => absurd (show (3 : Nat) = 1 from h) (by decide)), row 156 (by decide), hRI⟩
    refine ⟨T, wt, ?_, ?_, ?_, ?_, ?_, ?_, Or.inl ⟨?_, ?_⟩, ?_⟩
    · exact tx.of (by rw [row 2 (by decide)]) (row 3 (by decide)) (cel 2 (by decide) (by decide)) (fun i _ _ => by rw [row 131 (by decide)])
    · exact qx.of (by rw [row 4 (by decide)]) (row 5 (by decide)) (cel 3 (by decide) (by decide)) (fun i _ _ => by rw [row 131 (by decide)])
    · rw [row 1 (by decide), cel 25 (by decide) (by decide)]; exact fx
    · exact ox.of (by rw [row 6 (by decide)]) (row 7 (by decide)) (cel 45 (by decide) (by decide)) (row 155 (by decide))
    · exact ct.row (fun y a b => row y (by omega))
    · exact mt.of (cel 4 (by decide) (by decide)) (cel 5 (by decide) (by decide)) (row 132 (by decide)) (row 133 (by decide)) (row 134 (by decide)) (row 135 (by decide)) (row 136 (by decide)) (row 137 (by decide)) (fun i _ _ => by rw [row 131 (by decide)])
    · rw [row 123 (by decide)]; exact l
    · rw [eq, mup_idx (by decide), mup_same]
    · rw [row (-1) (by decide)]; exact sx
  · have t1 : 1 ≤ Tn T := by have := wt.1; omega
    have hq : QC m (m 5) (m 4 1) := ⟨rfl, fun _ _ _ => rfl, qx.1, fun i a b => (qx.2.2 i a b).2⟩
    have hE : EM m T (m 5) (m 4 1) := ⟨⟨qx.2.1, fun i a b => (qx.2.2 i a b).1, qx.1, fun i a b => (qx.2.2 i a b).2⟩, mt⟩
    obtain ⟨kx, x, c', y, q', p1, -, p3, p4, -, -, -, -, -⟩ := ask_pair wt ct hq hE t1
    obtain ⟨qm, eqm⟩ : ∃ qm, qm = mkN (kx, x, c') := ⟨_, rfl⟩
    have qc (y : Int) (h : y ≠ 156) : qm y = c' y := by
      rw [eqm]
      unfold _root_.Jvm.Pilot.CAskedTableLaw_law_r4394_852de3.mkN
      by_cases k : kx = 1
      · simp only [if_pos k]; exact row_up h
      · simp only [if_neg k]
    have cm (y : Int) (h1 : y ≠ 1) (h : ¬ (21 ≤ y ∧ y ≤ 129)) : c' y = m y := xa_row p4 h1 h
    have hE2 : EM qm T (m 5) (m 4 1) := by
      have r (y : Int) (h : 130 ≤ y) (h2 : y ≠ 156) : qm y = m y := by rw [qc y h2, cm y (by omega) (by omega)]
      exact ⟨hE.1.of (by rw [r 130 (by decide) (by decide)]) (r 131 (by decide) (by decide)), mt.of (by rw [r 130 (by decide) (by decide)]) (by rw [r 130 (by decide) (by decide)]) (r 132 (by decide) (by decide)) (r 133 (by decide) (by decide)) (r 134 (by decide) (by decide)) (r 135 (by decide) (by decide)) (r 136 (by decide) (by decide)) (r 137 (by decide) (by decide)) (fun i _ _ => by rw [r 131 (by decide) (by decide)])⟩
    obtain ⟨kx2, x2, c2, y2, q2, b1, b2, b3, b4, b5, b6, b7, b8, b9⟩ := ask_pair wt ct hq hE2 t1
    rw [p1] at b1
    injection b1 with b1
    injection b1 with i1 b1
    injection b1 with i2 i3
    subst i1 i2 i3
    have qr (y : Int) (h1 : y ≠ 130) (h2 : ¬ (142 ≤ y ∧ y ≤ 154)) (h3 : y ≠ 156) : q2 y = c' y := by rw [aq_row b5 h1 h2, qc y h3]
    have qo (y : Int) (h1 : y ≠ 130) (h2 : ¬ (142 ≤ y ∧ y ≤ 154)) (h3 : y ≠ 156) (h4 : y ≠ 1) (h5 : ¬ (21 ≤ y ∧ y ≤ 129)) : q2 y = m y := by rw [qr y h1 h2 h3, cm y h4 h5]
    have qcel (j : Int) (h : ¬ (j = 0 ∨ (19 ≤ j ∧ j ≤ 26) ∨ (34 ≤ j ∧ j ≤ 40) ∨ j = 47 ∨ j = 48)) : q2 130 j = m 130 j := by
      rw [b5 130 j (fun e => by
        rcases e with e | e
        · exact h e.2
        · omega), qc 130 (by decide), cm 130 (by decide) (by decide)]
    suffices hRI : RI S q2 from ⟨(kx, x, c'), (y2, q2), p1, (by simp only; omega), cm (-1) (by decide) (by decide), (by rw [← eqm]; exact b2), b6, b8, (by rw [← eqm]; exact aq_row b5 (by decide) (by decide)), hRI⟩
    refine ⟨T, wt, ?_, ?_, ?_, ?_, ?_, (hE2.fr b5).2, ?_, ?_⟩
    · exact tx.of (by rw [qo 2 (by decide) (by decide) (by decide) (by decide) (by decide)]) (qo 3 (by decide) (by decide) (by decide) (by decide) (by decide)) (qcel 2 (by decide)) (fun i _ _ => by rw [qo 131 (by decide) (by decide) (by decide) (by decide) (by decide)])
    · exact qx.of (by rw [qo 4 (by decide) (by decide) (by decide) (by decide) (by decide)]) (qo 5 (by decide) (by decide) (by decide) (by decide) (by decide)) (qcel 3 (by decide)) (fun i _ _ => by rw [qo 131 (by decide) (by decide) (by decide) (by decide) (by decide)])
    · rw [qr 1 (by decide) (by decide) (by decide)]; exact b7
    · exact ox.of (by rw [qo 6 (by decide) (by decide) (by decide) (by decide) (by decide)]) (qo 7 (by decide) (by decide) (by decide) (by decide) (by decide)) (qcel 45 (by decide)) (qo 155 (by decide) (by decide) (by decide) (by decide) (by decide))
    · exact ct.row (fun y a b => qo y (by omega) (by omega) (by omega) (by omega) (by omega))
    · have mc (y : Int) (h : 123 ≤ y) (h2 : y ≤ 129) : q2 y = mrg c' q2 y := by rw [mrg_c (by omega), qr y (by omega) (by omega) (by omega)]
      have mq (y : Int) (h : 130 ≤ y) : q2 y = mrg c' q2 y := by rw [mrg_q (by omega)]
      exact b9.of (mc 123 (by decide) (by decide)) (mc 124 (by decide) (by decide)) (mc 125 (by decide) (by decide)) (mc 126 (by decide) (by decide)) (mc 127 (by decide) (by decide)) (mc 128 (by decide) (by decide)) (mc 129 (by decide) (by decide)) (by rw [mq 130 (by decide)]) (by rw [mq 130 (by decide)]) (by rw [mq 130 (by decide)]) (by rw [mq 130 (by decide)]) (mq 151 (by decide)) (mq 152 (by decide)) (mq 153 (by decide)) (mq 154 (by decide))
    · rw [qo (-1) (by decide) (by decide) (by decide) (by decide) (by decide)]; exact sx
