/-! ASK: a whole question -/
abbrev qrP (y _j : Int) : Prop := y = 21 ∨ y = 121
abbrev quP (y j : Int) : Prop := (y = 130 ∧ ((19 ≤ j ∧ j ≤ 26) ∨ j = 34 ∨ (38 ≤ j ∧ j ≤ 40) ∨ j = 47 ∨ j = 48)) ∨ (142 ≤ y ∧ y ≤ 149)
abbrev fdP (y j : Int) : Prop := y = 130 ∧ (j = 26 ∨ (38 ≤ j ∧ j ≤ 40) ∨ j = 47 ∨ j = 48)
theorem cn_qu {q q' : aM} (h : Fr cnP q q') : Fr quP q q' := h.wk (fun y j e => by
  rcases e with e | e
  · exact Or.inl ⟨e.1, by omega⟩
  · exact Or.inr e)
theorem fd_qu {q q' : aM} (h : Fr fdP q q') : Fr quP q q' := h.wk (fun y j e => Or.inl ⟨e.1, by omega⟩)
theorem qu_aq {q q' : aM} (h : Fr quP q q') : Fr aqP q q' := h.wk (fun y j e => by
  rcases e with e | e
  · exact Or.inl ⟨e.1, by omega⟩
  · exact Or.inr ⟨e.1, by omega⟩)
theorem cq_qr {c c' : aM} (h : Fr cqP c c') : Fr qrP c c' := h.wk (fun y j e => by
  rcases e with e | e
  · exact Or.inl e.1
  · exact Or.inr e)
section
variable {T : Tb} {u : Int → Int} {n N : Int}
def rwE (c c' : aM) : Prop := ∀ y, 22 ≤ y → y ≤ 120 → c' y = c y
theorem qr_rw {c c' : aM} (h : Fr qrP c c') : rwE c c' := fun y a b => by
  funext j
  exact h y j (fun e => by omega)
theorem Cx.base {c c' : aM} (hx : Cx c T u n N) (e : rwE c c') : Cx c' T u n N := by
  have h96 := hx.N96
  obtain ⟨h1, ⟨a, b, d, f, g⟩, h3⟩ := hx
  refine ⟨h1, ⟨by rw [e 22 (by decide) (by decide)]; exact a, b, fun k k0 k1 => ?_, fun k k0 k1 => by rw [e _ (by omega) (by omega)]; exact f k k0 k1, by rw [e _ (by omega) (by omega)]; exact g⟩, h3⟩
  have := d k k0 k1
  have es : st c' k = st c k := by
    unfold st
    by_cases hk : k = 0
    · rw [if_pos hk, if_pos hk]
    · rw [if_neg hk, if_neg hk, e _ (by omega) (by omega)]
  rw [es, e _ (by omega) (by omega)]
  exact this
theorem RS.base {c c' q : aM} {p : Int} (h96 : N ≤ 96) (h : RS c q T u n N p) (e : rwE c c') : RS c' q T u n N p := by
  obtain ⟨a, b, d, f⟩ := h
  exact ⟨a, by rw [e _ (by omega) (by omega)]; exact b, d, f⟩
theorem rst_base {c c' q : aM} (h96 : N ≤ 96) (e : rwE c c') : ∀ {L : List Int}, rst c N q L → rst c' N q L
  | [], _ => trivial
  | s :: L, h => ⟨by
      rcases h.1 with g | g | g | g
      · exact Or.inl g
      · exact Or.inr (Or.inl g)
      · exact Or.inr (Or.inr (Or.inl g))
      · right; right; right
        have s0 := g.1
        have s1 := g.2.1
        unfold cmR at g ⊢
        rw [e (24 + s) (by omega) (by omega), e (24 + (s + 1)) (by omega) (by omega), e (24 + (s + 2)) (by omega) (by omega)]
        exact g, rst_base h96 e h.2⟩
theorem RQ.base {c c' q : aM} {L : List Int} (h96 : N ≤ 96) (h : RQ c N q L) (e : rwE c c') : RQ c' N q L := ⟨h.1, rst_base h96 e h.2⟩
/-- both at a token -/
def Z (c q : aM) (T : Tb) (u : Int → Int) (n N p : Int) : Prop := Cx c T u n N ∧ CS c c N p ∧ RS c q T u n N p
/-- the class has found something wrong -/
def ZW (c : aM) (T : Tb) (u : Int → Int) (n N w : Int) : Prop := Cx c T u n N ∧ CW c c N w ∧ 0 ≤ w
theorem Z.re {c0 c q : aM} {p : Int} (hx : Cx c0 T u n N) (hc : CS c0 c N p) (hr : RS c0 q T u n N p) : Z c q T u n N p := by
  have e := qr_rw (cq_qr hc.1)
  have h96 := hx.N96
  exact ⟨hx.base e, ⟨Fr.rf, hc.2⟩, hr.base h96.2 e⟩
theorem ZW.re {c0 c : aM} {w : Int} (hx : Cx c0 T u n N) (hc : CW c0 c N w) (h0 : 0 ≤ w) : ZW c T u n N w := ⟨hx.base (qr_rw (cq_qr hc.1)), ⟨Fr.rf, hc.2⟩, h0⟩
theorem Z.tk {c q : aM} {p : Int} (h : Z c q T u n N p) : Tk T u n (c (24 + p)) := h.1.tk h.2.1.2.2.2.1.1 h.2.1.2.2.2.1.2
theorem Z.no {c q : aM} {p : Int} (h : Z c q T u n N p) : ZW (mup c 21 5 (c (24 + p) 1)) T u n N (c (24 + p) 1) := ZW.re h.1 (h.2.1.no _) h.tk.1.1
theorem Z.nx {c q : aM} {p : Int} (h : Z c q T u n N p) (k0 : c (24 + p) 0 ≠ 0) (k6 : c (24 + p) 0 ≠ 6) : ∃ q', fM_next q = some q' ∧ Z (mup c 21 4 (p + 1)) q' T u n N (p + 1) ∧ Fr nxP q q' := by
  obtain ⟨q', e, hr, f, hp⟩ := s_next h.1 h.2.2 k0 k6
  exact ⟨q', e, Z.re h.1 (h.2.1.go hp) hr, f⟩
theorem up21 {c : aM} {j v : Int} : rwE c (mup c 21 j v) := fun y a b => row_up (by omega)
theorem Z.cu {c q : aM} {p j v : Int} (h : Z c q T u n N p) (hj : 6 ≤ j) : Z (mup c 21 j v) q T u n N p := by
  obtain ⟨h1, ⟨a, b, d, f, g⟩, h3⟩ := h
  have h96 := h1.N96
  exact ⟨h1.base up21, ⟨Fr.rf, by rw [mup_idx (by omega)]; exact b, by rw [mup_idx (by omega)]; exact d, f, by rw [mup_idx (by omega)]; exact g⟩, h3.base h96.2 up21⟩
theorem ZW.cu {c : aM} {w j v : Int} (h : ZW c T u n N w) (hj : 6 ≤ j) : ZW (mup c 21 j v) T u n N w := by
  obtain ⟨h1, ⟨a, b, d, f⟩, h3⟩ := h
  exact ⟨h1.base up21, ⟨Fr.rf, by rw [mup_idx (by omega)]; exact b, by rw [mup_idx (by omega)]; exact d, by rw [mup_idx (by omega)]; exact f⟩, h3⟩
theorem Z.qu {c q q' : aM} {p : Int} (h : Z c q T u n N p) (f : Fr fdP q q') : Z c q' T u n N p :=
  ⟨h.1, h.2.1, h.2.2.1.fr (qu_aq (fd_qu f)), h.2.2.2.1.of (fun j a b => f 130 j (fun e => by omega)), (f 130 25 (fun e => by omega)).trans h.2.2.2.2.1, h.2.2.2.2.2⟩
/-- the fields of both -/
def FLD (T : Tb) (c q : aM) : Prop := (1 ≤ c 21 6 ∧ c 21 6 ≤ 5) ∧ q 130 38 = c 21 6 - 1 ∧ (c 21 6 = 1 → q 130 47 = c 21 8 ∧ q 130 48 = c 21 9) ∧ (2 ≤ c 21 6 → q 130 39 = c 21 8 ∧ c 21 9 = 0) ∧ (c 21 8 = -1 ∨ (0 ≤ c 21 8 ∧ c 21 8 < Tn T)) ∧ (c 21 9 = 0 ∨ c 21 9 = 1) ∧ (3 ≤ c 21 6 → q 130 40 = c 21 7 ∧ 0 ≤ c 21 7 ∧ c 21 7 < Tn T) ∧ (c 21 6 = 3 → tyS T (c 21 7) ≤ 1)
theorem FLD.of {c c' q q' : aM} (h : FLD T c q) (e1 : ∀ j, 6 ≤ j → j ≤ 9 → c' 21 j = c 21 j) (e2 : ∀ j, (38 ≤ j ∧ j ≤ 40) ∨ j = 47 ∨ j = 48 → q' 130 j = q 130 j) : FLD T c' q' := by
  unfold FLD
  rw [e1 6 (by decide) (by decide), e1 7 (by decide) (by decide), e1 8 (by decide) (by decide), e1 9 (by decide) (by decide), e2 38 (by decide), e2 39 (by decide), e2 40 (by decide), e2 47 (by decide), e2 48 (by decide)]
  exact h
def STP (N : Int) (c q : aM) : Prop := ∃ L, CL c L ∧ RQ c N q L ∧ wf L ∧ (L.length : Int) ≤ 96
theorem STP.of {c c' q q' : aM} (h96 : N ≤ 96) (h : STP N c q) (e1 : c' 21 3 = c 21 3) (e2 : c' 121 = c 121) (e : rwE c c') (e3 : q' 130 26 = q 130 26) (e4 : ∀ y, 142 ≤ y → y ≤ 148 → q' y = q y) : STP N c' q' := by
  obtain ⟨L, a, b, d⟩ := h
  exact ⟨L, a.of e1 e2, (b.of e3 e4).base h96 e, d⟩
/-- what reading comes to -/
def OUT (T : Tb) (N : Int) (c q : aM) (rc rq : Option (Int × aM)) : Prop := ∃ v c', rc = some (v, c') ∧ Fr qrP c c' ∧ ((v = -1 ∧ ∃ q', rq = some (1, q') ∧ Fr quP q q' ∧ FLD T c' q' ∧ STP N c' q' ∧ q' 130 25 = -1) ∨ (0 ≤ v ∧ ∃ q', rq = some (0, q') ∧ q' 130 25 = v ∧ Fr quP q q'))
theorem OUT.tr {c c1 q q1 : aM} {rc rq : Option (Int × aM)} (h : OUT T N c1 q1 rc rq) (fc : Fr qrP c c1) (fq : Fr quP q q1) : OUT T N c q rc rq := by
  obtain ⟨v, c', a, b, d⟩ := h
  refine ⟨v, c', a, fc.tr b, ?_⟩
  rcases d with ⟨d1, q', d2, d3, d4⟩ | ⟨d1, q', d2, d3, d4⟩
  · exact Or.inl ⟨d1, q', d2, fq.tr d3, d4⟩
  · exact Or.inr ⟨d1, q', d2, d3, fq.tr d4⟩
theorem OUT.bad {c c1 q q1 : aM} {w : Int} {rc rq : Option (Int × aM)} (hc : rc = some (w, c1)) (hq : rq = some (0, q1)) (w0 : 0 ≤ w) (h25 : q1 130 25 = w) (fc : Fr qrP c c1) (fq : Fr quP q q1) : OUT T N c q rc rq := ⟨w, c1, hc, fc, Or.inr ⟨w0, q1, hq, h25, fq⟩⟩
/-! the rest, once something was wrong -/
theorem w_125 {c : aM} {w : Int} (h : ZW c T u n N w) : fQ_read_125 c = some (w, c) := by
  unfold fQ_read_125
  rw [w_kind h.1 h.2.1 h.2.2]
  simp only [Option.bind_some]
  rw [h.2.1.2.2.1]
theorem w_91 {c : aM} {w x : Int} (h : ZW c T u n N w) : fQ_read_91 c x = some (w, c) := by
  unfold fQ_read_91
  by_cases hx : x = 0
  · rw [if_pos hx]; exact w_125 h
  · rw [if_neg hx, w_take h.1 h.2.1 h.2.2]
    simp only [Option.bind_some]
    rw [if_pos trivial]
    exact w_125 h
theorem w_76 {c : aM} {w x : Int} (h : ZW c T u n N w) : fQ_read_76 c x = some (w, c) := by
  unfold fQ_read_76
  rw [w_take h.1 h.2.1 h.2.2]
  simp only [Option.bind_some]
  rw [if_pos trivial]
  exact w_91 h
theorem w_53 {c : aM} {w x : Int} (h : ZW c T u n N w) : fQ_read_53 c x = some (w, c) := by
  unfold fQ_read_53
  by_cases hx : x = 0
  · rw [if_pos hx, w_take h.1 h.2.1 h.2.2]
    simp only [Option.bind_some]
    rw [if_pos trivial]
    exact w_76 h
  · rw [if_neg hx]; exact w_76 h
theorem rf25 {q : aM} {v : Int} : Fr quP q (mup q 130 25 v) := Fr.rf.up (Or.inl ⟨rfl, by omega⟩)
theorem q21 {c : aM} {j v : Int} : Fr qrP c (mup c 21 j v) := Fr.rf.up (Or.inl rfl)
theorem nx_qu {q q' : aM} (h : Fr nxP q q') : Fr quP q q' := cn_qu (nx_cn h)
/-- the end of the question -/
theorem p_end {c q : aM} {p : Int} (h : Z c q T u n N p) (hf : FLD T c q) (hs : STP N c q) : OUT T N c q (fQ_read_125 c) (fM_question_315 q) := by
  have h96 := h.1.N96
  have kd := o_kd h.tk
  unfold fQ_read_125 fM_question_315
  rw [k_kind h.1 h.2.1, h.2.2.2.1.1]
  simp only [Option.bind_some]
  by_cases h6 : c (24 + p) 0 = 6
  · rw [if_pos h6, if_pos (kd.2.2.1.mpr h6)]
    refine ⟨_, _, rfl, q21, Or.inl ⟨by rw [mup_idx (by decide)]; exact h.2.1.2.2.1, q, rfl, Fr.rf, hf.of (fun j a b => mup_idx (by omega)) (fun j _ => rfl), hs.of h96.2 (mup_idx (by decide)) (row_up (by decide)) up21 rfl (fun y _ _ => rfl), h.2.2.2.2.1⟩⟩
  · rw [if_neg h6, if_neg (fun e => h6 (kd.2.2.1.mp e)), owr h.1 h.2.2]
    rw [mup_same]
    refine OUT.bad rfl (q1 := mup q 130 25 (c (24 + p) 1)) ?_ h.tk.1.1 (mup_same _ _ _ _) q21 rf25
    simp only
    rw [if_pos trivial]
/-- the order -/
theorem p_order {c q : aM} {p x : Int} (h : Z c q T u n N p) (hf : FLD T c q) (hs : STP N c q) (hx : (x = 0 ∧ 2 ≤ c 21 6) ∨ (x = 1 ∧ c 21 6 = 1)) : OUT T N c q (fQ_read_91 c x) (fM_question_255 q) := by
  have h96 := h.1.N96
  have hw := h.1.1.1
  unfold fQ_read_91 fM_question_255
  have f38 := hf.2.1
  rcases hx with ⟨x0, h6⟩ | ⟨x0, h6⟩
  · rw [if_pos x0, if_neg (by omega)]
    exact p_end h hf hs
  rw [if_neg (by omega), if_pos (by omega), k_take h.1 h.2.1, ow h.1 h.2.2 (k := 13) kS_pk.2.2.2.2.2.2.2.1 (by decide) (by decide)]
  simp only [Option.bind_some]
  by_cases h13 : c (24 + p) 3 = 13
  · rw [if_pos h13, if_pos h13]
    simp only
    rw [if_neg (by decide), if_neg (by decide)]
    have kk := (o_res h.1.1 h.tk (by omega)).2
    obtain ⟨q1, e1, h1, f1⟩ := h.nx (by omega) (by omega)
    rw [e1]
    simp only [Option.bind_some]
    obtain ⟨c1, ec1⟩ : ∃ c1, c1 = mup c 21 4 (p + 1) := ⟨_, rfl⟩
    rw [← ec1] at h1 ⊢
    have fc1 : Fr qrP c c1 := by rw [ec1]; exact q21
    rw [k_name h1.1 h1.2.1, onm h1.1 h1.2.2]
    simp only [Option.bind_some]
    have so := o_sort h1.tk
    obtain ⟨d, hd⟩ : ∃ d, d = c1 (24 + (p + 1)) 4 := ⟨_, rfl⟩
    rw [← hd] at so ⊢
    obtain ⟨q2, eq2⟩ : ∃ q2, q2 = mup q1 130 47 d := ⟨_, rfl⟩
    rw [← eq2]
    have fd2 : Fr fdP q1 q2 := by rw [eq2]; exact Fr.rf.up ⟨rfl, by omega⟩
    have h2 := h1.qu fd2
    have fq2 : Fr quP q q2 := (nx_qu f1).tr (fd_qu fd2)
    unfold fM_passName
    rw [onm h2.1 h2.2.2, ← hd]
    simp only [Option.bind_some]
    by_cases d1 : d = -1
    · rw [if_neg (fun g => g.1 d1), if_pos (by omega), owr h2.1 h2.2.2, gd_pos (Or.inl rfl)]
      simp only [Option.bind_some]
      rw [if_pos trivial]
      have hz := h1.no.cu (j := 8) (v := d) (by decide)
      rw [w_take hz.1 hz.2.1 hz.2.2]
      simp only [Option.bind_some]
      rw [gd_pos (Or.inl trivial), w_125 (hz.cu (j := 9) (v := 0) (by decide))]
      exact OUT.bad rfl rfl h1.tk.1.1 (mup_same _ _ _ _) (((fc1.up (Or.inl rfl)).up (Or.inl rfl)).up (Or.inl rfl)) (fq2.tr rf25)
    · have s4 := so.1.resolve_left d1
      rw [if_pos ⟨d1, Or.inl trivial⟩, if_neg (by omega)]
      obtain ⟨q3, e3, h3, f3⟩ := h2.nx (by omega) (by omega)
      rw [e3]
      simp only [Option.bind_some]
      rw [if_neg (by decide)]
      have h4 := h3.cu (j := 8) (v := d) (by decide)
      obtain ⟨c4, ec4⟩ : ∃ c4, c4 = mup (mup c1 21 4 (p + 1 + 1)) 21 8 d := ⟨_, rfl⟩
      rw [← ec4] at h4 ⊢
      have fc4 : Fr qrP c c4 := by rw [ec4]; exact (fc1.up (Or.inl rfl)).up (Or.inl rfl)
      have fq3 : Fr quP q q3 := fq2.tr (nx_qu f3)
      rw [k_take h4.1 h4.2.1, ow h4.1 h4.2.2 (k := 14) kS_pk.2.2.2.2.2.2.2.2.1 (by decide) (by decide)]
      simp only [Option.bind_some]
      have c46 : c4 21 6 = c 21 6 := by rw [ec4, mup_idx (by decide), mup_idx (by decide), ec1, mup_idx (by decide)]
      have c47 : c4 21 7 = c 21 7 := by rw [ec4, mup_idx (by decide), mup_idx (by decide), ec1, mup_idx (by decide)]
      have c48 : c4 21 8 = d := by rw [ec4, mup_same]
      have q38 : q3 130 38 = q 130 38 := by rw [f3 130 38 (fun e => by omega), eq2, mup_idx (by decide), f1 130 38 (fun e => by omega)]
      have q47 : q3 130 47 = d := by rw [f3 130 47 (fun e => by omega), eq2, mup_same]
      have fld (c5 q5 : aM) (v : Int) (hv : v = 0 ∨ v = 1) (a6 : c5 21 6 = c4 21 6) (a8 : c5 21 8 = c4 21 8) (a9 : c5 21 9 = v) (b38 : q5 130 38 = q3 130 38) (b47 : q5 130 47 = q3 130 47) (b48 : q5 130 48 = v) : FLD T c5 q5 := by
        unfold FLD
        rw [a6, a8, a9, b38, b47, b48, q38, q47, c46, c48, h6, f38, h6]
        exact ⟨by decide, rfl, fun _ => ⟨rfl, rfl⟩, fun h => absurd h (by decide), Or.inr ⟨s4.1, s4.2.1⟩, hv, fun h => absurd h (by decide), fun h => absurd h (by decide)⟩
      have stp (c5 q5 : aM) (a3 : c5 21 3 = c4 21 3) (a121 : c5 121 = c4 121) (ar : rwE c4 c5) (b26 : q5 130 26 = q3 130 26) (br : ∀ y, 142 ≤ y → y ≤ 148 → q5 y = q3 y) : STP N c5 q5 := by
        refine hs.of h96.2 ?_ ?_ ?_ ?_ ?_
        · rw [a3, ec4, mup_idx (by decide), mup_idx (by decide), ec1, mup_idx (by decide)]
        · rw [a121, ec4, row_up (by decide), row_up (by decide), ec1, row_up (by decide)]
        · intro y y0 y1
          rw [ar y y0 y1, ec4, row_up (by omega), row_up (by omega), ec1, row_up (by omega)]
        · rw [b26, f3 130 26 (fun e => by omega), eq2, mup_idx (by decide), f1 130 26 (fun e => by omega)]
        · intro y y0 y1
          rw [br y y0 y1, nx_row f3 y (by omega), eq2, row_up (by omega), nx_row f1 y (by omega)]
      by_cases h14 : c4 (24 + (p + 1 + 1)) 3 = 14
      · rw [if_pos h14, if_pos h14]
        simp only
        rw [gd_pos (Or.inr trivial), gd_pos (Or.inr trivial), if_neg (by decide)]
        have kk2 := (o_res h4.1.1 h4.tk (by omega)).2
        have fd5 : Fr fdP q3 (mup q3 130 48 1) := Fr.rf.up ⟨rfl, by omega⟩
        obtain ⟨q6, e6, h6', f6⟩ := (h4.qu fd5).nx (by omega) (by omega)
        rw [e6]
        simp only [Option.bind_some]
        refine OUT.tr (p_end (h6'.cu (j := 9) (v := 1) (by decide)) (fld _ _ 1 (Or.inr rfl) (by rw [mup_idx (by decide), mup_idx (by decide)]) (by rw [mup_idx (by decide), mup_idx (by decide)]) (mup_same _ _ _ _) (by rw [f6 130 38 (fun e => by omega), mup_idx (by decide)]) (by rw [f6 130 47 (fun e => by omega), mup_idx (by decide)]) (by rw [f6 130 48 (fun e => by omega), mup_same])) (stp _ _ (by rw [mup_idx (by decide), mup_idx (by decide)]) (by rw [row_up (by decide), row_up (by decide)]) (fun y y0 y1 => by rw [row_up (by omega), row_up (by omega)]) (by rw [f6 130 26 (fun e => by omega), mup_idx (by decide)]) (fun y y0 y1 => by rw [nx_row f6 y (by omega), row_up (by omega)]))) ((fc4.up (Or.inl rfl)).up (Or.inl rfl)) ((fq3.tr (fd_qu fd5)).tr (nx_qu f6))
      · rw [if_neg h14, if_neg h14]
        simp only
        rw [gd_pos (Or.inl trivial), gd_pos (Or.inl trivial), if_pos trivial]
        have fd5 : Fr fdP q3 (mup q3 130 48 0) := Fr.rf.up ⟨rfl, by omega⟩
        exact OUT.tr (p_end ((h4.qu fd5).cu (j := 9) (v := 0) (by decide)) (fld _ _ 0 (Or.inl rfl) (mup_idx (by decide)) (mup_idx (by decide)) (mup_same _ _ _ _) (mup_idx (by decide)) (mup_idx (by decide)) (mup_same _ _ _ _)) (stp _ _ (mup_idx (by decide)) (row_up (by decide)) up21 (mup_idx (by decide)) (fun y y0 y1 => row_up (by omega)))) (fc4.up (Or.inl rfl)) (fq3.tr (fd_qu fd5))
  · rw [if_neg h13, if_neg h13]
    simp only
    rw [if_pos trivial, if_pos trivial]
    exact p_end h hf hs
/-- the condition -/
theorem p_where {c q : aM} {p x : Int} (h : Z c q T u n N p) (hf : FLD T c q) (h3 : c 21 3 = 0) (h26 : q 130 26 = 0) (hx : (x = 0 ∧ 2 ≤ c 21 6) ∨ (x = 1 ∧ c 21 6 = 1)) : OUT T N c q (fQ_read_76 c x) (fM_question_232 q) := by
  have h96 := h.1.N96
  unfold fQ_read_76 fM_question_232
  rw [k_take h.1 h.2.1, ow h.1 h.2.2 (k := 7) kS_pk.2.1 (by decide) (by decide)]
  simp only [Option.bind_some]
  by_cases h7 : c (24 + p) 3 = 7
  · rw [if_pos h7, if_pos h7]
    simp only
    rw [if_neg (by decide), if_neg (by decide)]
    have kk := (o_res h.1.1 h.tk (by omega)).2
    obtain ⟨q1, e1, h1, f1⟩ := h.nx (by omega) (by omega)
    rw [e1]
    simp only [Option.bind_some]
    obtain ⟨c1, ec1⟩ : ∃ c1, c1 = mup c 21 4 (p + 1) := ⟨_, rfl⟩
    rw [← ec1] at h1 ⊢
    have fc1 : Fr qrP c c1 := by rw [ec1]; exact q21
    obtain ⟨c2, e2, hcase⟩ := go_where h1.1 h1.2.1 h1.2.2 (by rw [ec1, mup_idx (by decide)]; exact h3)
    rw [e2]
    simp only [Option.bind_some]
    rcases hcase with ⟨q2, p2, L, g1, g2, g3, g4, g5, g6, g7, g8⟩ | ⟨w, q2, b1, b2, b3, b4, b5⟩
    · rw [g1]
      simp only [Option.bind_some]
      rw [if_neg (by decide)]
      have hz := Z.re h1.1 g2 g4
      have ce (j : Int) (a : 6 ≤ j) (b : j ≤ 9) : c2 21 j = c 21 j := by
        rw [g2.1 21 j (fun e => by omega), ec1, mup_idx (by omega)]
      refine OUT.tr (p_order hz (hf.of ce (fun j hj => ?_)) ⟨L, g3, g6.base h96.2 (qr_rw (cq_qr g2.1)), g8⟩ (by rw [ce 6 (by decide) (by decide)]; exact hx)) (fc1.tr (cq_qr g2.1)) ((nx_qu f1).tr (cn_qu g5))
      rw [g5 130 j (fun e => by omega), f1 130 j (fun e => by omega)]
    · rw [b3]
      simp only [Option.bind_some]
      rw [if_pos trivial, w_91 (ZW.re h1.1 b2 b1)]
      exact OUT.bad rfl rfl b1 b4 (fc1.tr (cq_qr b2.1)) ((nx_qu f1).tr (cn_qu b5))
  · rw [if_neg h7, if_neg h7]
    simp only
    rw [if_pos trivial, if_pos trivial]
    exact p_order h hf ⟨[], ⟨h3, trivial⟩, ⟨h26, trivial⟩, trivial, by simp⟩ hx
/-- by a column -/
theorem p_by {c q : aM} {p x : Int} (h : Z c q T u n N p) (hf : FLD T c q) (h3 : c 21 3 = 0) (h26 : q 130 26 = 0) (hx : (x = 0 ∧ 2 ≤ c 21 6) ∨ (x = 1 ∧ c 21 6 = 1)) : OUT T N c q (fQ_read_53 c x) (fM_question_194 q) := by
  have h96 := h.1.N96
  have f38 := hf.2.1
  unfold fQ_read_53 fM_question_194
  rcases hx with ⟨x0, h6⟩ | ⟨x0, h6⟩
  · rw [if_pos x0, if_pos (by omega), k_take h.1 h.2.1, ow h.1 h.2.2 (k := 6) kS_pk.1 (by decide) (by decide)]
    simp only [Option.bind_some]
    by_cases h7 : c (24 + p) 3 = 6
    · rw [if_pos h7, if_pos h7]
      simp only
      rw [if_neg (by decide), if_neg (by decide)]
      have kk := (o_res h.1.1 h.tk (by omega)).2
      obtain ⟨q1, e1, h1, f1⟩ := h.nx (by omega) (by omega)
      rw [e1]
      simp only [Option.bind_some]
      obtain ⟨c1, ec1⟩ : ∃ c1, c1 = mup c 21 4 (p + 1) := ⟨_, rfl⟩
      rw [← ec1] at h1 ⊢
      have fc1 : Fr qrP c c1 := by rw [ec1]; exact q21
      rw [k_name h1.1 h1.2.1, onm h1.1 h1.2.2]
      simp only [Option.bind_some]
      have so := o_sort h1.tk
      obtain ⟨d, hd⟩ : ∃ d, d = c1 (24 + (p + 1)) 4 := ⟨_, rfl⟩
      rw [← hd] at so ⊢
      obtain ⟨q2, eq2⟩ : ∃ q2, q2 = mup q1 130 39 d := ⟨_, rfl⟩
      rw [← eq2]
      have fd2 : Fr fdP q1 q2 := by rw [eq2]; exact Fr.rf.up ⟨rfl, by omega⟩
      have h2 := h1.qu fd2
      have fq2 : Fr quP q q2 := (nx_qu f1).tr (fd_qu fd2)
      unfold fM_passName
      rw [onm h2.1 h2.2.2, ← hd]
      simp only [Option.bind_some]
      by_cases d1 : d = -1
      · rw [if_neg (fun g => g.1 d1), if_pos (by omega), owr h2.1 h2.2.2, gd_pos (Or.inl rfl)]
        simp only [Option.bind_some]
        rw [if_pos trivial, w_76 (h1.no.cu (j := 8) (v := d) (by decide))]
        exact OUT.bad rfl rfl h1.tk.1.1 (mup_same _ _ _ _) ((fc1.up (Or.inl rfl)).up (Or.inl rfl)) (fq2.tr rf25)
      · have s4 := so.1.resolve_left d1
        rw [if_pos ⟨d1, Or.inl trivial⟩, if_neg (by omega)]
        obtain ⟨q3, e3, h3', f3⟩ := h2.nx (by omega) (by omega)
        rw [e3]
        simp only [Option.bind_some]
        rw [if_neg (by decide)]
        have cj (j : Int) (a : j ≠ 4) (b : j ≠ 8) : (mup (mup c1 21 4 (p + 1 + 1)) 21 8 d) 21 j = c 21 j := by
          rw [mup_idx b, mup_idx a, ec1, mup_idx a]
        have qj (j : Int) (a : j = 26 ∨ (38 ≤ j ∧ j ≤ 40) ∨ j = 47 ∨ j = 48) (b : j ≠ 39) : q3 130 j = q 130 j := by
          rw [f3 130 j (fun e => by omega), eq2, mup_idx b, f1 130 j (fun e => by omega)]
        refine OUT.tr (p_where (h3'.cu (j := 8) (v := d) (by decide)) ?_ (by rw [cj 3 (by decide) (by decide)]; exact h3) (by rw [qj 26 (by omega) (by decide)]; exact h26) (Or.inl ⟨x0, by rw [cj 6 (by decide) (by decide)]; exact h6⟩)) ((fc1.up (Or.inl rfl)).up (Or.inl rfl)) (fq2.tr (nx_qu f3))
        obtain ⟨a1, a2, a3, a4, a5, a6, a7, a8⟩ := hf
        unfold FLD
        rw [cj 6 (by decide) (by decide), cj 7 (by decide) (by decide), cj 9 (by decide) (by decide), mup_same, qj 38 (by omega) (by decide), qj 40 (by omega) (by decide), f3 130 39 (fun e => by omega), eq2, mup_same]
        exact ⟨a1, a2, by omega, fun _ => ⟨rfl, (a4 h6).2⟩, Or.inr ⟨s4.1, s4.2.1⟩, a6, a7, a8⟩
    · rw [if_neg h7, if_neg h7]
      simp only
      rw [if_pos trivial, if_pos trivial]
      exact p_where h hf h3 h26 (Or.inl ⟨x0, h6⟩)
  · rw [if_neg (by omega), if_neg (by omega)]
    exact p_where h hf h3 h26 (Or.inr ⟨x0, h6⟩)
end
