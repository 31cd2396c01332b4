/-! ASK: what the reference sees of a token -/
abbrev aqP (y j : Int) : Prop := (y = 130 ∧ (j = 0 ∨ (19 ≤ j ∧ j ≤ 26) ∨ (34 ≤ j ∧ j ≤ 40) ∨ j = 47 ∨ j = 48)) ∨ (142 ≤ y ∧ y ≤ 154)
def EM (q : aM) (T : Tb) (u : Int → Int) (n : Int) : Prop := QM q u n ∧ MT q T
theorem aq_row {q q' : aM} (h : Fr aqP q q') {y : Int} (h1 : y ≠ 130) (h2 : ¬ (142 ≤ y ∧ y ≤ 154)) : q' y = q y := by
  funext j
  refine h y j (fun e => ?_)
  rcases e with e | e
  · exact h1 e.1
  · exact h2 e
theorem EM.fr {q q' : aM} {T : Tb} {u : Int → Int} {n : Int} (h : EM q T u n) (f : Fr aqP q q') : EM q' T u n :=
  ⟨h.1.of (f 130 3 (fun e => by omega)) (aq_row f (by decide) (by decide)), h.2.of (f 130 4 (fun e => by omega)) (f 130 5 (fun e => by omega)) (aq_row f (by decide) (by decide)) (aq_row f (by decide) (by decide)) (aq_row f (by decide) (by decide)) (aq_row f (by decide) (by decide)) (aq_row f (by decide) (by decide)) (aq_row f (by decide) (by decide)) (fun i _ _ => by rw [aq_row f (by decide) (by decide)])⟩
theorem nx_aq {q q' : aM} (h : Fr nxP q q') : Fr aqP q q' := h.wk (fun y j e => Or.inl ⟨e.1, by omega⟩)
theorem shapeS_rng {s : List Int} : 0 ≤ shapeS s ∧ shapeS s ≤ 3 := by
  unfold shapeS
  split
  · split <;> decide
  · split <;> decide
theorem Tk.sum {T : Tb} {u : Int → Int} {n : Int} {τ : Int → Int} (h : Tk T u n τ) : (τ 0 = 1 ∧ τ 1 < n ∧ TkW T u n τ) ∨ (τ 0 ≠ 1 ∧ emp τ ∧ (0 ≤ τ 0 ∧ τ 0 ≤ 6) ∧ (τ 0 = 2 → 1 ≤ τ 5 ∧ τ 5 ≤ 3 ∧ τ 1 < n) ∧ (τ 0 ≠ 2 → τ 5 = -1) ∧ ((τ 0 = 3 ∨ τ 0 = 4 ∨ τ 0 = 5) → τ 1 < n ∧ sgR (u (τ 1)) (nx u n (τ 1)) (τ 1) τ) ∧ (τ 0 = 6 → τ 1 = n)) := by
  obtain ⟨⟨t0, tn⟩, h⟩ := h
  rcases h with ⟨hlt, h32, hW | hD | hQ | hS⟩ | hE
  · exact Or.inl ⟨hW.2.2.2.2.2.1, hlt, hW⟩
  · right
    obtain ⟨w1, w2, w3, w4, w5, w6, w8⟩ := hD
    rcases w8 with ⟨a, b, c⟩ | ⟨a, b, c, d⟩
    · exact ⟨by omega, w6, by omega, by omega, fun _ => c, by omega, by omega⟩
    · have := shapeS_rng (s := us u (τ 1) (τ 2))
      have h5 : 1 ≤ τ 5 ∧ τ 5 ≤ 3 := by
        rw [c]
        unfold fK_sortOf
        split <;> omega
      exact ⟨by omega, w6, by omega, fun _ => ⟨h5.1, h5.2, hlt⟩, by omega, by omega, by omega⟩
  · right
    obtain ⟨w1, w2, e, w4, w5, w6, w7, w8⟩ := hQ
    rcases w8 with ⟨x1, x2, x3, x4⟩ | ⟨x1, x2, x3, x4⟩
    · exact ⟨by omega, w2, by omega, by omega, fun _ => x3, by omega, by omega⟩
    · exact ⟨by omega, w2, by omega, by omega, by omega, by omega, by omega⟩
  · right
    obtain ⟨w1, w2, w3, w4, w5, w6⟩ := hS
    have k : τ 0 = 3 ∨ τ 0 = 4 ∨ τ 0 = 5 ∨ τ 0 = 0 := by
      unfold sgR at w6
      omega
    exact ⟨by omega, w4, by omega, by omega, fun _ => w5, fun _ => ⟨hlt, w6⟩, by omega⟩
  · right
    obtain ⟨w1, w2, w3, w4, w5⟩ := hE
    exact ⟨by omega, w4, by omega, by omega, fun _ => w5, by omega, fun _ => w2⟩
theorem us_lo {T : Tb} {u : Int → Int} {n : Int} {τ : Int → Int} (h : TkW T u n τ) : ∀ c ∈ us u (τ 1) (τ 2), lo c = true := by
  unfold us
  exact sl_mem (fun j j0 j1 => h.2.2.2.1 j j0 j1)
theorem us_len {u : Int → Int} {a b : Int} : (us u a b).length = (b - a).toNat := sl_len _ _ _ _
theorem kS_len8 : ∀ k : Fin 16, (kS (k.val : Int)).length ≤ 8 := by decide +kernel
theorem kS_len8' {k : Int} (h0 : 0 ≤ k) (h1 : k < 16) : (kS k).length ≤ 8 := by
  have := kS_len8 ⟨k.toNat, by omega⟩
  rwa [show (((⟨k.toNat, by omega⟩ : Fin 16)).val : Int) = k by simp only; omega] at this
theorem o_kd {T : Tb} {u : Int → Int} {n : Int} {τ : Int → Int} (h : Tk T u n τ) : (kd22 τ = 1 ↔ τ 0 = 1) ∧ (kd22 τ = 5 ↔ (τ 0 = 3 ∨ τ 0 = 4 ∨ τ 0 = 5)) ∧ (kd22 τ = 0 ↔ τ 0 = 6) ∧ (τ 0 = 2 → kd22 τ = τ 5 + 1) ∧ (τ 0 ≠ 2 → kd22 τ ≠ 2 ∧ kd22 τ ≠ 3 ∧ kd22 τ ≠ 4) := by
  unfold kd22
  rcases h.sum with ⟨h0, -⟩ | ⟨h0, h1, h2, h3, h4, -⟩
  · rw [if_neg (by omega), if_pos h0]
    omega
  · by_cases h6 : τ 0 = 6
    · rw [if_pos h6]; omega
    rw [if_neg h6, if_neg h0]
    by_cases h7 : τ 0 = 2
    · rw [if_pos h7]; omega
    rw [if_neg h7]
    by_cases h8 : τ 0 = 0
    · rw [if_pos h8]; omega
    rw [if_neg h8]; omega
/-- the word of a token as the reference packs it -/
theorem o_pack {q : aM} {T : Tb} {u : Int → Int} {n : Int} {τ : Int → Int} (hE : QM q u n) (hR : RT q τ) (h0 : τ 0 = 1) (hW : TkW T u n τ) (t0 : 0 ≤ τ 1) : fM_word q (q 130 23) (q 130 24) = some (if 8 < τ 2 - τ 1 then -1 else pk8 (us u (τ 1) (τ 2))) := by
  have hn := hE.2.2.1
  have w2 := hW.2.1
  have w3 := hW.2.2.1
  rw [hR.2.1, (hR.2.2.1 (by omega)).1, r_word (by omega) (by omega) (by omega) (fun j j0 j1 => by
    have := hE.2.1 (j - 240) (by omega) (by omega)
    rw [show 240 + (j - 240) = j by omega] at this
    rw [this]
    have := hE.2.2.2 (j - 240) (by omega) (by omega)
    omega), usM hE t0 w3, show 240 + τ 2 - (240 + τ 1) = τ 2 - τ 1 by omega]
theorem o_word {q : aM} {T : Tb} {u : Int → Int} {n : Int} {τ : Int → Int} (hE : EM q T u n) (hR : RT q τ) (hT : Tk T u n τ) (k : Int) (k0 : 1 ≤ k) (k1 : k ≤ 14) : fM_isWord q (pk8 (kS k)) = some (if τ 3 = k then 1 else 0) := by
  unfold fM_isWord
  have kd := o_kd hT
  rcases hT.sum with ⟨h0, hl, hW⟩ | ⟨h0, h1, -⟩
  · rw [hR.1, if_pos (kd.1.mpr h0), o_pack hE.1 hR h0 hW hT.1.1]
    simp only [Option.bind_some]
    have e3 := hW.2.2.2.2.2.2.1
    rw [e3]
    by_cases h8 : 8 < τ 2 - τ 1
    · rw [if_pos h8, if_neg (fun e => ?_), if_neg (fun e => ?_)]
      · have e := (wordS_iff k0 k1).mp e
        have l1 := us_len (u := u) (a := τ 1) (b := τ 2)
        have l2 := kS_len8' (k := k) (by omega) (by omega)
        rw [e] at l1
        omega
      · have e := cmp3_eq0.mp e
        have := (pk8_rng (s := kS k) (fun c hc => by
          have := kS_pos' (k := k) (by omega) (by omega) c hc
          have h127 : ∀ k : Fin 16, ∀ c ∈ kS (k.val : Int), c ≤ 127 := by decide +kernel
          have := h127 ⟨k.toNat, by omega⟩ c (by rw [show (((⟨k.toNat, by omega⟩ : Fin 16)).val : Int) = k by simp only; omega]; exact hc)
          omega)).1
        omega
    · rw [if_neg h8]
      by_cases hk : wordS (us u (τ 1) (τ 2)) = k
      · rw [if_pos (cmp3_eq0.mpr ((pk_word (us_lo hW) k0 k1).mpr hk)), if_pos hk]
      · rw [if_neg (fun e => hk ((pk_word (us_lo hW) k0 k1).mp (cmp3_eq0.mp e))), if_neg hk]
  · rw [hR.1, if_neg (fun e => h0 (kd.1.mp e)), if_neg (by have := h1.1; omega)]
theorem o_sign {q : aM} {T : Tb} {u : Int → Int} {n : Int} {τ : Int → Int} (hE : EM q T u n) (hR : RT q τ) (hT : Tk T u n τ) : fM_isSign q 40 = some (if τ 0 = 4 then 1 else 0) ∧ fM_isSign q 41 = some (if τ 0 = 5 then 1 else 0) := by
  have kd := o_kd hT
  have hn := hE.1.2.2.1
  unfold fM_isSign
  by_cases h5 : τ 0 = 3 ∨ τ 0 = 4 ∨ τ 0 = 5
  · rcases hT.sum with ⟨h0, hl, hW⟩ | ⟨h0, h1, h2, h3, h4, h6, -⟩
    · omega
    obtain ⟨hl, hs⟩ := h6 h5
    have t0 := hT.1.1
    rw [hR.1, if_pos (kd.2.1.mpr h5), hR.2.1, (hR.2.2.1 (by omega)).1, w32_id (by omega) (by omega), hE.1.2.1 _ t0 hl, if_pos (kd.2.1.mpr h5), gd_pos (by omega), gd_pos (by omega)]
    unfold sgR at hs
    constructor
    · by_cases e : τ 0 = 4
      · rw [if_pos (by omega), if_pos (by omega), if_pos e]
      · rw [if_neg e]
        by_cases e2 : 240 + τ 2 = 240 + τ 1 + 1
        · rw [if_pos e2, if_neg (by omega)]
        · rw [if_neg e2]
    · by_cases e : τ 0 = 5
      · rw [if_pos (by omega), if_pos (by omega), if_pos e]
      · rw [if_neg e]
        by_cases e2 : 240 + τ 2 = 240 + τ 1 + 1
        · rw [if_pos e2, if_neg (by omega)]
        · rw [if_neg e2]
  · rw [hR.1, if_neg (fun e => h5 (kd.2.1.mp e)), if_neg (by omega), if_neg (fun e => h5 (kd.2.1.mp e)), if_neg (by omega)]
    exact ⟨rfl, rfl⟩
theorem named_loop {q : aM} {T : Tb} {v d : Int} (wt : WT T) (e4 : q 130 4 = Tn T) (hd : d = -1 ∨ (0 ≤ d ∧ d < Tn T)) (hit : ∀ c, 0 ≤ c → c < Tn T → (q 132 c = v ↔ c = d)) : fM_named_32 q (-1) v 0 = some d := by
  have w1 := wt.1
  unfold fM_named_32
  obtain ⟨r, h1, h2⟩ := aLoop_ok (f := fM_named_32_b q v) (Inv := fun x : Int × Int => 0 ≤ x.2 ∧ x.2 ≤ Tn T ∧ x.1 = if 0 ≤ d ∧ d < x.2 then d else -1) (μ := fun x => (Tn T - x.2).toNat) (Post := fun r => r = d) (by
    rintro ⟨x1, x4⟩ ⟨g1, g2, g3⟩
    simp only at g1 g2 g3
    unfold fM_named_32_b
    simp only
    rw [e4]
    by_cases hi : x4 < Tn T
    · left
      rw [if_pos hi, gd_pos (by omega), w32_id (by omega) (by omega)]
      by_cases hv : q 132 x4 = v
      · rw [if_pos (cmp3_eq0.mpr hv)]
        have := (hit x4 g1 hi).mp hv
        refine ⟨_, rfl, ⟨by simp only; omega, by simp only; omega, ?_⟩, by simp only; omega⟩
        simp only
        rw [if_pos (by omega)]
        exact this
      · rw [if_neg (fun e => hv (cmp3_eq0.mp e))]
        have : x4 ≠ d := fun e => hv ((hit x4 g1 hi).mpr e)
        refine ⟨_, rfl, ⟨by simp only; omega, by simp only; omega, ?_⟩, by simp only; omega⟩
        simp only
        rw [g3]
        by_cases hd2 : 0 ≤ d ∧ d < x4
        · rw [if_pos hd2, if_pos (by omega)]
        · rw [if_neg hd2, if_neg (by omega)]
    · right
      rw [if_neg hi]
      refine ⟨_, rfl, ?_⟩
      rw [g3]
      split <;> omega) FU (-1, 0) ⟨by simp only; omega, by simp only; omega, by simp only; rw [if_neg (by omega)]⟩ (by show (Tn T - 0).toNat < 1000000; omega)
  rw [h1, h2]
theorem o_named {q : aM} {T : Tb} {u : Int → Int} {n : Int} {τ : Int → Int} (wt : WT T) (hE : EM q T u n) (hR : RT q τ) (hT : Tk T u n τ) : fM_named q = some (τ 4) := by
  have kd := o_kd hT
  have e4 := hE.2.1
  unfold fM_named
  have hpos (c : Int) (c0 : 0 ≤ c) (c1 : c < Tn T) : 0 ≤ pk8 (Tm T c) := (pk8_rng (fun x hx => by
    have := lo_iff.mp ((wt.2.2.2.1 c c0 c1).2.2.1 x hx)
    omega)).1
  rcases hT.sum with ⟨h0, hl, hW⟩ | ⟨h0, h1, -⟩
  · rw [hR.1, if_pos (kd.1.mpr h0), o_pack hE.1 hR h0 hW hT.1.1]
    simp only [Option.bind_some]
    have hc := hW.2.2.2.2.2.2.2.1
    have rng : τ 4 = -1 ∨ (0 ≤ τ 4 ∧ τ 4 < Tn T) := by
      rcases hc with h | h
      · exact Or.inl h.1
      · exact Or.inr ⟨h.1, h.2.1⟩
    apply named_loop wt e4 rng
    intro c c0 c1
    rw [(hE.2.2.2.1 c c0 c1).1]
    have l6 := (wt.2.2.2.1 c c0 c1).2.1
    have eqd : Tm T c = us u (τ 1) (τ 2) ↔ c = τ 4 := by
      rcases hc with h | h
      · exact ⟨fun e => absurd e (h.2 c c0 c1), fun e => by omega⟩
      · refine ⟨fun e => ?_, fun e => by rw [e]; exact h.2.2⟩
        rw [← h.2.2] at e
        rcases Int.lt_trichotomy c (τ 4) with g | g | g
        · exact absurd e (wt.2.2.2.2.1 c (τ 4) c0 g h.2.1)
        · exact g
        · exact absurd e.symm (wt.2.2.2.2.1 (τ 4) c h.1 g c1)
    rw [← eqd]
    by_cases h8 : 8 < τ 2 - τ 1
    · rw [if_pos h8]
      have := hpos c c0 c1
      refine ⟨fun e => by omega, fun e => ?_⟩
      have l1 := us_len (u := u) (a := τ 1) (b := τ 2)
      rw [← e] at l1
      omega
    · rw [if_neg h8]
      exact cmp3_eq0.symm.trans (pk_raw (wt.2.2.2.1 c c0 c1).2.2.1 (us_lo hW))
  · rw [hR.1, if_neg (fun e => h0 (kd.1.mp e)), h1.2]
    apply named_loop wt e4 (Or.inl rfl)
    intro c c0 c1
    rw [(hE.2.2.2.1 c c0 c1).1]
    have := hpos c c0 c1
    omega
def opN (o : Int) : Int := if o = 2 then 0 else if o = 5 then 1 else if o = 1 then 2 else if o = 3 then 3 else if o = 4 then 4 else 5
theorem o_op {q : aM} {T : Tb} {u : Int → Int} {n : Int} {τ : Int → Int} (hE : EM q T u n) (hR : RT q τ) (hT : Tk T u n τ) : fM_operator q = some (if τ 0 = 3 then opN (τ 7) else -1) ∧ (τ 0 = 3 → 1 ≤ τ 7 ∧ τ 7 ≤ 6) := by
  have kd := o_kd hT
  have hn := hE.1.2.2.1
  unfold fM_operator
  by_cases h5 : τ 0 = 3 ∨ τ 0 = 4 ∨ τ 0 = 5
  · rcases hT.sum with ⟨h0, hl, hW⟩ | ⟨h0, h1, h2, h3, h4, h6, -⟩
    · omega
    obtain ⟨hl, hs⟩ := h6 h5
    have t0 := hT.1.1
    have r7 : τ 0 = 3 → 1 ≤ τ 7 ∧ τ 7 ≤ 6 := by unfold sgR at hs; omega
    refine ⟨?_, r7⟩
    have e24 := (hR.2.2.1 (by omega)).1
    rw [hR.1, if_pos (kd.2.1.mpr h5), hR.2.1, e24, gd_pos (by omega), hE.1.2.1 _ t0 hl]
    obtain ⟨cc, hcc⟩ : ∃ cc, cc = u (τ 1) := ⟨_, rfl⟩
    rw [← hcc] at hs ⊢
    unfold fM_operator_38
    rw [hR.2.1]
    have two (h : τ 2 = τ 1 + 2) (hlt : τ 1 + 1 < n) : w32 (240 + τ 2 - (240 + τ 1)) = 2 ∧ w32 (240 + τ 1 + 1) = 240 + (τ 1 + 1) ∧ q 131 (240 + (τ 1 + 1)) = u (τ 1 + 1) := by
      refine ⟨?_, ?_, hE.1.2.1 _ (by omega) hlt⟩
      · rw [w32_id (by omega) (by omega)]; omega
      · rw [w32_id (by omega) (by omega)]; omega
    have one (h : τ 2 = τ 1 + 1) : w32 (240 + τ 2 - (240 + τ 1)) = 1 := by
      rw [w32_id (by omega) (by omega)]; omega
    have nxlt (d : Int) (hd : 0 ≤ d) (h : nx u n (τ 1) = d) : τ 1 + 1 < n ∧ u (τ 1 + 1) = d := by
      unfold nx at h
      by_cases hx : τ 1 + 1 < n
      · rw [if_pos hx] at h
        exact ⟨hx, h⟩
      · rw [if_neg hx] at h
        omega
    unfold fM_operator_58
    rcases hs with y | y | y | y | y | y | y | y | y
    · obtain ⟨y1, y2, y3⟩ := y
      subst y1
      rw [one y3, if_neg (by decide), if_pos rfl, if_neg (by decide), if_neg (by decide), if_neg (by decide), if_neg (by omega)]
    · obtain ⟨y1, y2, y3⟩ := y
      subst y1
      rw [one y3, if_neg (by decide), if_pos rfl, if_neg (by decide), if_neg (by decide), if_neg (by decide), if_neg (by omega)]
    · obtain ⟨y1, y2, y3, y4⟩ := y
      subst y1
      rw [one y3, if_neg (by decide), if_pos rfl, if_pos rfl, if_pos y2, y4]
      rfl
    · obtain ⟨y1, y2, y3, y4, y5⟩ := y
      subst y1
      obtain ⟨a1, a2⟩ := nxlt 62 (by decide) y2
      obtain ⟨b1, b2, b3⟩ := two y4 a1
      rw [b1, b2, b3, a2, if_pos rfl, if_neg (by decide), gd_pos (by omega), if_neg (by decide), if_pos rfl, if_neg (by decide), if_pos rfl, if_pos y3, y5]
      rfl
    · obtain ⟨y1, y2, y3, y4, y5⟩ := y
      subst y1
      obtain ⟨a1, a2⟩ := nxlt 61 (by decide) y2
      obtain ⟨b1, b2, b3⟩ := two y4 a1
      rw [b1, b2, b3, a2, if_pos rfl, if_neg (by decide), gd_pos (by omega), if_neg (by decide), if_pos rfl, if_neg (by decide), if_neg (by decide), if_pos y3, y5]
      rfl
    · obtain ⟨y1, y2, y3, y4, y5, y6⟩ := y
      subst y1
      rw [one y5, if_neg (by decide), if_pos rfl, if_neg (by decide), if_pos rfl, if_pos rfl, if_pos y4, y6]
      rfl
    · obtain ⟨y1, y2, y3, y4, y5⟩ := y
      subst y1
      obtain ⟨a1, a2⟩ := nxlt 61 (by decide) y2
      obtain ⟨b1, b2, b3⟩ := two y4 a1
      rw [b1, b2, b3, a2, if_pos rfl, if_neg (by decide), gd_pos (by omega), if_neg (by decide), if_neg (by decide), if_pos rfl, if_neg (by decide), if_pos y3, y5]
      rfl
    · obtain ⟨y1, y2, y3, y4, y5⟩ := y
      subst y1
      rw [one y4, if_neg (by decide), if_pos rfl, if_neg (by decide), if_neg (by decide), if_pos rfl, if_pos rfl, if_pos y3, y5]
      rfl
    · omega
  · rw [hR.1, if_neg (fun e => h5 (kd.2.1.mp e)), if_neg (by omega)]
    exact ⟨rfl, by omega⟩
theorem o_wrong {q : aM} {T : Tb} {u : Int → Int} {n : Int} {τ : Int → Int} (hE : EM q T u n) (hR : RT q τ) (hT : Tk T u n τ) (h25 : q 130 25 = -1) : fM_wrong q = (0, mup q 130 25 (τ 1)) := by
  have kd := o_kd hT
  have hn := hE.1.2.2.1
  have t := hT.1
  unfold fM_wrong
  rw [h25, if_pos (by decide), hR.1]
  by_cases h6 : τ 0 = 6
  · rw [if_pos (kd.2.2.1.mpr h6), hE.1.1]
    rcases hT.sum with ⟨h0, -⟩ | ⟨h0, h1, h2, h3, h4, h5, h7⟩
    · omega
    · rw [h7 h6]
  · rw [if_neg (fun e => h6 (kd.2.2.1.mp e)), hR.2.1, w32_id (by omega) (by omega), show 240 + τ 1 - 240 = τ 1 by omega]
theorem sortOf_eq {t : Int} (h0 : 0 ≤ t) (h1 : t ≤ 3) : fM_sortOf t = fK_sortOf t - 1 ∧ 1 ≤ fK_sortOf t ∧ fK_sortOf t ≤ 3 := by
  unfold fM_sortOf fK_sortOf
  by_cases h2 : t < 2
  · rw [if_pos h2]
    split <;> omega
  · rw [if_neg h2, w32_id (by omega) (by omega), if_neg (by omega)]
    omega
/-- the sort of what a token stands for, as the reference counts it -/
def srM (τ : Int → Int) : Int := if τ 5 = -1 then 9 else τ 5 - 1
theorem o_sort {T : Tb} {u : Int → Int} {n : Int} {τ : Int → Int} (hT : Tk T u n τ) : (τ 4 = -1 ∨ (0 ≤ τ 4 ∧ τ 4 < Tn T ∧ τ 0 = 1 ∧ τ 5 = fK_sortOf (tyS T (τ 4)) ∧ (1 ≤ τ 5 ∧ τ 5 ≤ 3) ∧ fM_sortOf (tyS T (τ 4)) = srM τ)) ∧ (τ 4 = -1 → (τ 5 = -1 ∨ (1 ≤ τ 5 ∧ τ 5 ≤ 3)) ∧ (if kd22 τ = 2 then 0 else if kd22 τ = 3 then 1 else if kd22 τ = 4 then 2 else 9) = srM τ) := by
  have kd := o_kd hT
  unfold srM
  rcases hT.sum with ⟨h0, hl, hW⟩ | ⟨h0, h1, h2, h3, h4, -⟩
  · have hc := hW.2.2.2.2.2.2.2.1
    have h5 := hW.2.2.2.2.2.2.2.2
    have k1 := kd.1.mpr h0
    refine ⟨?_, fun e => ?_⟩
    · rcases hc with h | h
      · exact Or.inl h.1
      · right
        rw [if_neg (by omega)] at h5
        have := ty_rng (T := T) (c := τ 4)
        have sq := sortOf_eq this.1 this.2
        refine ⟨h.1, h.2.1, h0, h5, by omega, ?_⟩
        rw [if_neg (by omega), sq.1, h5]
    · rw [if_pos e] at h5
      rw [k1, h5]
      exact ⟨Or.inl rfl, rfl⟩
  · refine ⟨Or.inl h1.2, fun _ => ?_⟩
    by_cases h22 : τ 0 = 2
    · have k := kd.2.2.2.1 h22
      have r := h3 h22
      refine ⟨Or.inr ⟨r.1, r.2.1⟩, ?_⟩
      rw [k, if_neg (show ¬ τ 5 = -1 by omega)]
      by_cases e1 : τ 5 = 1
      · rw [if_pos (by omega)]; omega
      rw [if_neg (by omega)]
      by_cases e2 : τ 5 = 2
      · rw [if_pos (by omega)]; omega
      rw [if_neg (by omega), if_pos (by omega)]; omega
    · have k := kd.2.2.2.2 h22
      refine ⟨Or.inl (h4 h22), ?_⟩
      rw [if_neg k.1, if_neg k.2.1, if_neg k.2.2, if_pos (h4 h22)]
theorem o_res {T : Tb} {u : Int → Int} {n : Int} {τ : Int → Int} (wt : WT T) (hT : Tk T u n τ) (h : 6 ≤ τ 3 ∧ τ 3 ≤ 14) : τ 4 = -1 ∧ τ 0 = 1 := by
  rcases hT.sum with ⟨h0, hl, hW⟩ | ⟨h0, h1, h2, h3, h4, -⟩
  · refine ⟨?_, h0⟩
    have hc := hW.2.2.2.2.2.2.2.1
    have e3 := hW.2.2.2.2.2.2.1
    rcases hc with h' | h'
    · exact h'.1
    · have := (wt.2.2.2.1 (τ 4) h'.1 h'.2.1).2.2.2
      rw [h'.2.2, ← e3] at this
      unfold wRes at this
      rw [if_pos h] at this
      exact absurd this (by decide)
  · have := h1.1
    omega
theorem o_w15 {T : Tb} {u : Int → Int} {n : Int} {τ : Int → Int} (hT : Tk T u n τ) (h : τ 3 ≠ 15) : τ 0 = 1 := by
  rcases hT.sum with ⟨h0, -⟩ | ⟨h0, h1, -⟩
  · exact h0
  · exact absurd h1.1 h
