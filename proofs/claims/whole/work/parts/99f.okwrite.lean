/-! WRITE: the reference's lines, and the call -/
theorem kS_let : ∀ k : Fin 6, (∀ c ∈ kS (k.val : Int), 1 ≤ c ∧ c ≤ 127) ∧ (kS (k.val : Int)).length ≤ 8 := by decide +kernel
theorem kS_let' {k : Int} (h0 : 0 ≤ k) (h1 : k < 6) : (∀ c ∈ kS k, 1 ≤ c ∧ c ≤ 127) ∧ (kS k).length ≤ 8 := by
  have := kS_let ⟨k.toNat, by omega⟩
  rw [show (((⟨k.toNat, by omega⟩ : Fin 6).val : Nat) : Int) = k by show ((k.toNat : Nat) : Int) = k; omega] at this
  exact this
theorem wM_agg {m0 : aM} {T : Tb} {kind key of n : Int} {kr vl lk bs : Int → Int} (wt : WT T) (mt : MT m0 T) (h : AgO T kind key of kr vl lk bs n) (hk : m0 130 38 = kind - 1) (hkey : m0 130 39 = key) (hof : 3 ≤ kind → m0 130 40 = of) (hn : m0 130 37 = n) (h151 : 0 ≤ key → ∀ k, 0 ≤ k → k < n → m0 151 k = kr k) (h152 : kind = 2 → ∀ k, 0 ≤ k → k < n → m0 152 k = vl k ∧ lk k = 0) (h154 : 3 ≤ kind → ∀ k, 0 ≤ k → k < n → (lk k = 0 ↔ 0 ≤ m0 154 k)) (h153 : kind = 3 → ∀ k, 0 ≤ k → k < n → lk k = 0 → m0 153 k = vl k) (hb : 4 ≤ kind → ∀ k, 0 ≤ k → k < n → lk k = 0 → m0 154 k = bs k) :
    ∀ m, Ag oM m0 m → 0 ≤ m 130 45 → m 130 45 + ((aggL T kind key of kr vl lk bs n).length : Int) ≤ 2000 → ∃ m', (if m0 130 39 < 0 then fM_write_135 m else (fM_sayWord m (m0 132 (m0 130 39))).bind fun v8 => (fM_say v8 44).bind fun v9 => fM_write_135 v9) = some (m' 130 45, m') ∧ App oM m m' (aggL T kind key of kr vl lk bs n) := by
  obtain ⟨⟨k2, k5⟩, ⟨n0, n16⟩, hky, hkr, hvl, hbs⟩ := h
  have w1 := wt.1
  have c38 {m : aM} (ha : Ag oM m0 m) : m 130 38 = kind - 1 := (AgM.cel ha 38 (by decide) (by decide) (by decide)).trans hk
  have c39 {m : aM} (ha : Ag oM m0 m) : m 130 39 = key := (AgM.cel ha 39 (by decide) (by decide) (by decide)).trans hkey
  have wline (k : Int) (q0 : 0 ≤ k) (q1 : k < n) : Wr oM m0 (fun m => fM_sayLine m k) (lineL T kind key of kr vl lk bs k) := by
    have w10 : Wr oM m0 (fun m => fM_sayLine_102 m) [10] := (wM_say (m0 := m0) (c := 10)).congr (fun m _ => by
      unfold fM_sayLine_102
      cases fM_say m 10 <;> rfl)
    have w27 : Wr oM m0 (fun m => fM_sayLine_27 m k) ((if lk k = 0 then (if kind = 2 ∨ kind = 3 then numS (vl k) else cellS T (bs k) of) else []) ++ [10]) := by
      by_cases e2 : kind = 2
      · obtain ⟨a1, a2⟩ := h152 e2 k q0 q1
        rw [if_pos a2, if_pos (Or.inl e2)]
        refine ((wM_num (m0 := m0) (hvl (Or.inl e2) k q0 q1 a2)).seq w10).congr (fun m ha => ?_)
        unfold fM_sayLine_27
        rw [c38 ha, if_pos (by omega), gd_pos (by omega), AgM.row ha 152 (by decide) (by decide), a1]
      · have hlk := h154 (by omega) k q0 q1
        by_cases hl : lk k = 0
        · have h154k := hlk.mp hl
          rw [if_pos hl]
          by_cases e3 : kind = 3
          · rw [if_pos (Or.inr e3)]
            refine ((wM_num (m0 := m0) (hvl (Or.inr e3) k q0 q1 hl)).seq w10).congr (fun m ha => ?_)
            unfold fM_sayLine_27
            rw [c38 ha, if_neg (by omega), gd_pos (by omega), AgM.row ha 154 (by decide) (by decide), if_neg (by omega), if_pos (by omega), AgM.row ha 153 (by decide) (by decide), h153 e3 k q0 q1 hl]
          · rw [if_neg (by omega)]
            obtain ⟨⟨o0, o1⟩, b1, -⟩ := hbs (by omega)
            have hr := b1 k q0 q1 hl
            refine ((wM_cell wt mt hr.1 hr.2 o0 o1).seq w10).congr (fun m ha => ?_)
            unfold fM_sayLine_27 fM_sayLine_79
            rw [c38 ha, if_neg (by omega), gd_pos (by omega), AgM.row ha 154 (by decide) (by decide), if_neg (by omega), if_neg (by omega), gd_pos (by omega), AgM.cel ha 40 (by decide) (by decide) (by decide), hof (by omega), hb (by omega) k q0 q1 hl, if_neg (by omega)]
        · have h154k : m0 154 k < 0 := by
            have : ¬ 0 ≤ m0 154 k := fun q => hl (hlk.mpr q)
            omega
          rw [if_neg hl]
          refine w10.congr (fun m ha => ?_)
          unfold fM_sayLine_27 fM_sayLine_79
          rw [c38 ha, if_neg (by omega), gd_pos (by omega), AgM.row ha 154 (by decide) (by decide), if_pos h154k, gd_pos (by omega), if_pos h154k]
    unfold lineL
    by_cases e : key = -1
    · rw [if_pos e]
      exact w27.congr (fun m ha => by unfold fM_sayLine; rw [c39 ha, if_pos (by omega)])
    · rw [if_neg e]
      have hr := (hkr (by omega)).1 k q0 q1
      refine (((wM_cell wt mt hr.1 hr.2 (show 0 ≤ key by omega) (by omega)).seq (wM_say (m0 := m0) (c := 44))).seq w27).congr (fun m ha => ?_)
      unfold fM_sayLine
      rw [c39 ha, if_neg (by omega), gd_pos (by omega), AgM.row ha 151 (by decide) (by decide), h151 (by omega) k q0 q1]
      cases fM_sayCell m (kr k) key <;> rfl
  have w192 := Wr.loopV (fin := fun m : aM => (m 130 45, m)) (o := oM) (m0 := m0) (b := fM_write_192_b) (l := lineL T kind key of kr vl lk bs) (n := n) (by omega) (by
    intro i i0 i1 m ha hm hrr
    obtain ⟨m', e, p⟩ := wline i i0 i1 m ha hm hrr
    have e : fM_sayLine m i = some m' := e
    refine ⟨m', ?_, p⟩
    unfold fM_write_192_b
    simp only
    rw [AgM.cel ha 37 (by decide) (by decide) (by decide), hn, if_pos i1, e, w32_id (by omega) (by omega)]
    rfl) (by
    intro m ha
    unfold fM_write_192_b
    simp only
    rw [AgM.cel ha 37 (by decide) (by decide) (by decide), hn, if_neg (by omega)])
  have w135 : ∀ m, Ag oM m0 m → 0 ≤ m 130 45 → m 130 45 + ((kS kind ++ ([10] ++ cat (lineL T kind key of kr vl lk bs) 0 n.toNat)).length : Int) ≤ 2000 → ∃ m', fM_write_135 m = some (m' 130 45, m') ∧ App oM m m' (kS kind ++ ([10] ++ cat (lineL T kind key of kr vl lk bs) 0 n.toNat)) := by
    intro m ha hm hrr
    rw [List.length_append, List.length_append] at hrr
    have hrr : m 130 45 + (((kS kind).length + (1 + (cat (lineL T kind key of kr vl lk bs) 0 n.toNat).length) : Nat) : Int) ≤ 2000 := hrr
    have hl := kS_let' (k := kind) (by omega) (by omega)
    obtain ⟨m1, e1, p1⟩ := wM_word (m0 := m0) hl.1 hl.2 m ha hm (show m 130 45 + _ ≤ 2000 by omega)
    have e1 : fM_sayWord m (pk8 (kS kind)) = some m1 := e1
    have q1 : m1 130 45 = m 130 45 + ((kS kind).length : Int) := p1.1
    obtain ⟨m2, e2, p2⟩ := wM_say (m0 := m0) (c := 10) m1 (ha.tr p1.2.2.2) (show 0 ≤ m1 130 45 by omega) (show m1 130 45 + 1 ≤ 2000 by omega)
    have e2 : fM_say m1 10 = some m2 := e2
    have q2 : m2 130 45 = m1 130 45 + 1 := p2.1
    obtain ⟨m3, e3, p3⟩ := w192 m2 ((ha.tr p1.2.2.2).tr p2.2.2.2) (show 0 ≤ m2 130 45 by omega) (show m2 130 45 + _ ≤ 2000 by omega)
    refine ⟨m3, ?_, p1.app (p2.app p3)⟩
    have e181 : fM_write_181 m (pk8 (kS kind)) = some (m3 130 45, m3) := by
      unfold fM_write_181
      rw [e1]
      simp only [Option.bind_some]
      rw [e2]
      exact e3
    unfold fM_write_135
    rw [c38 ha]
    have hc : kind = 2 ∨ kind = 3 ∨ kind = 4 ∨ kind = 5 := by omega
    rcases hc with hc | hc | hc | hc
    · rw [if_pos (by omega)]; subst hc; exact e181
    · rw [if_neg (by omega), if_pos (by omega)]; subst hc; exact e181
    · rw [if_neg (by omega), if_neg (by omega), if_pos (by omega)]; subst hc; exact e181
    · rw [if_neg (by omega), if_neg (by omega), if_neg (by omega)]; subst hc; exact e181
  intro m ha hm hrr
  unfold aggL at hrr ⊢
  by_cases e : key = -1
  · rw [if_pos e, List.nil_append] at hrr ⊢
    rw [hkey, if_pos (by omega)]
    exact w135 m ha hm hrr
  · rw [if_neg e] at hrr ⊢
    rw [List.length_append, List.length_append] at hrr
    have hrr : m 130 45 + (((Tm T key).length + 1 + (kS kind ++ ([10] ++ cat (lineL T kind key of kr vl lk bs) 0 n.toNat)).length : Nat) : Int) ≤ 2000 := hrr
    have hkk : 0 ≤ key ∧ key < Tn T := by omega
    obtain ⟨n1, n2, n3, -⟩ := wt.2.2.2.1 key hkk.1 hkk.2
    rw [hkey, if_neg (by omega), (mt.2.2.1 key hkk.1 hkk.2).1]
    obtain ⟨m1, e1, p1⟩ := wM_word (m0 := m0) (s := Tm T key) (fun c hc => by have := lo_iff.mp (n3 c hc); omega) (by omega) m ha hm (show m 130 45 + _ ≤ 2000 by omega)
    have e1 : fM_sayWord m (pk8 (Tm T key)) = some m1 := e1
    have q1 : m1 130 45 = m 130 45 + ((Tm T key).length : Int) := p1.1
    obtain ⟨m2, e2, p2⟩ := wM_say (m0 := m0) (c := 44) m1 (ha.tr p1.2.2.2) (show 0 ≤ m1 130 45 by omega) (show m1 130 45 + 1 ≤ 2000 by omega)
    have e2 : fM_say m1 44 = some m2 := e2
    have q2 : m2 130 45 = m1 130 45 + 1 := p2.1
    obtain ⟨m3, e3, p3⟩ := w135 m2 ((ha.tr p1.2.2.2).tr p2.2.2.2) (by omega) (by omega)
    refine ⟨m3, ?_, (p1.app p2).app p3⟩
    rw [e1]
    simp only [Option.bind_some]
    rw [e2]
    exact e3
section WriteCall
variable {S : Int → Int}
theorem ok_write {x : Int} (hx : x = 0 ∨ x = 1) : OkT (RI S) (fun k => k = 3) kd_write (fun m => fX_write m x) (fun m => fM_write m x) := by
  intro m hm
  simp only
  obtain ⟨T, wt, tx, qx, fx, ox, ct, mt, ax, sx⟩ := id hm
  have ko : fC_keepFirst m 6 0 = mup m 6 1 0 := by
    unfold fC_keepFirst
    rw [if_neg (by decide), if_neg (by have := ox.1.1; omega)]
  -- nothing to write
  have no (h1 : fX_write m x = some (3, 0, m)) (h2 : ∀ m', Thr m m' → fM_write m' x = some (0, mup m' 130 0 1)) : ∃ v v2, fX_write m x = some v ∧ (v.1 = 1 ∨ v.1 = 3) ∧ v.2.2 (-1) = m (-1) ∧ fM_write (mkN v) x = some v2 ∧ v2.2 130 0 = kd_write v.1 ∧ (v.1 = 1 → v.2.1 = v2.1) ∧ v2.2 156 = mkN v 156 ∧ RI S v2.2 := by
    refine ⟨(3, 0, m), (0, mup (mkN (3, 0, m)) 130 0 1), h1, Or.inr rfl, rfl, h2 _ Thr.mkN, mup_same (mkN (3, 0, m)) 130 0 1, fun h => absurd h (show ¬ (3 : Nat) = 1 by decide), ?_, hm.thr (Thr.mkN.tr Thr.mk1)⟩
    funext j
    show mup (mkN (3, 0, m)) 130 0 1 156 j = mkN (3, 0, m) 156 j
    exact mup_ref (by decide)
  -- the same list on both sides
  have yes (l : List Int) (hl : (l.length : Int) ≤ 700) (hok : okL l) (hC : ∃ v, fX_write m x = some (1, v 6 1, v) ∧ App oC (mup m 6 1 0) v l) (hM : ∀ v, App oC (mup m 6 1 0) v l → ∃ m2, fM_write (mup v 156 0 (v 6 1)) x = some (m2 130 45, m2) ∧ App oM (mup (mup (mup v 156 0 (v 6 1)) 130 0 0) 130 45 0) m2 l) : ∃ v v2, fX_write m x = some v ∧ (v.1 = 1 ∨ v.1 = 3) ∧ v.2.2 (-1) = m (-1) ∧ fM_write (mkN v) x = some v2 ∧ v2.2 130 0 = kd_write v.1 ∧ (v.1 = 1 → v.2.1 = v2.1) ∧ v2.2 156 = mkN v 156 ∧ RI S v2.2 := by
    obtain ⟨v, e1, p1⟩ := hC
    obtain ⟨m2, e2, p2⟩ := hM v p1
    obtain ⟨r1, r2, r3, r4, r5, r6⟩ := RI_write hm hl hok p1 p2
    have eN : mkN (1, v 6 1, v) = mup v 156 0 (v 6 1) := rfl
    refine ⟨(1, v 6 1, v), (m2 130 45, m2), e1, Or.inl rfl, r2, by rw [eN]; exact e2, r5, fun _ => ?_, by rw [eN]; exact r6, r1⟩
    show v 6 1 = m2 130 45
    rw [r3, r4]
  -- what the worlds are in which they write
  have ctC : CT (mup m 6 1 0) T := by
    refine ct.of ?_ ?_ ?_ ?_ ?_ ?_ ?_ ?_ ?_ ?_ <;> first | (funext j; exact mup_ref (by decide)) | exact mup_ref (by decide)
  have agC : Ag oC (mup m 6 1 0) (mup m 6 1 0) := Ag.rf
  have c61 : mup m 6 1 0 6 1 = 0 := mup_same _ _ _ _
  have rowC (z : Int) (hz : z ≠ 6) : mup m 6 1 0 z = m z := by funext j; exact mup_ref hz
  have mmrow (v : aM) (p : ∃ l, App oC (mup m 6 1 0) v l) (z : Int) (h1 : z ≠ 130) (h2 : z ≠ 156) (h3 : z ≠ 6) (h4 : z ≠ 7) : mup (mup (mup v 156 0 (v 6 1)) 130 0 0) 130 45 0 z = m z := by
    obtain ⟨l, p⟩ := p
    funext j
    rw [mup_ref h1, mup_ref h1, mup_ref h2, AgC.row p.2.2.2 z h3 h4, mup_ref h3]
  have mmcel (v : aM) (p : ∃ l, App oC (mup m 6 1 0) v l) (j : Int) (h1 : j ≠ 45) (h2 : j ≠ 0) : mup (mup (mup v 156 0 (v 6 1)) 130 0 0) 130 45 0 130 j = m 130 j := by
    obtain ⟨l, p⟩ := p
    rw [mup_idx h1, mup_idx h2, mup_ref (by decide), AgC.row p.2.2.2 130 (by decide) (by decide), mup_ref (by decide)]
  have mtM (v : aM) (p : ∃ l, App oC (mup m 6 1 0) v l) : MT (mup (mup (mup v 156 0 (v 6 1)) 130 0 0) 130 45 0) T :=
    mt.of (mmcel v p 4 (by decide) (by decide)) (mmcel v p 5 (by decide) (by decide)) (mmrow v p 132 (by decide) (by decide) (by decide) (by decide)) (mmrow v p 133 (by decide) (by decide) (by decide) (by decide)) (mmrow v p 134 (by decide) (by decide) (by decide) (by decide)) (mmrow v p 135 (by decide) (by decide) (by decide) (by decide)) (mmrow v p 136 (by decide) (by decide) (by decide) (by decide)) (mmrow v p 137 (by decide) (by decide) (by decide) (by decide)) (fun i _ _ => by rw [mmrow v p 131 (by decide) (by decide) (by decide) (by decide)])
  have v130 (v : aM) (p : ∃ l, App oC (mup m 6 1 0) v l) (j : Int) : mup v 156 0 (v 6 1) 130 j = m 130 j := by
    obtain ⟨l, p⟩ := p
    rw [mup_ref (by decide), AgC.row p.2.2.2 130 (by decide) (by decide), mup_ref (by decide)]
  have v132 (v : aM) (p : ∃ l, App oC (mup m 6 1 0) v l) (j : Int) : mup v 156 0 (v 6 1) 132 j = m 132 j := by
    obtain ⟨l, p⟩ := p
    rw [mup_ref (by decide), AgC.row p.2.2.2 132 (by decide) (by decide), mup_ref (by decide)]
  have m45 (v : aM) : mup (mup (mup v 156 0 (v 6 1)) 130 0 0) 130 45 0 130 45 = 0 := mup_same _ _ _ _
  rcases hx with hx | hx
  · subst hx
    by_cases hT : Tn T = 0
    · refine no ?_ (fun m' ht => ?_)
      · unfold fX_write
        rw [if_pos rfl, ct.1, if_pos hT]
      · unfold fM_write
        rw [if_pos rfl, ht.cel 4 (by decide), mt.1, if_pos hT]
        rfl
    · have w1 := wt.1
      have w2 := wt.2.1
      have hl := rows_len wt (ρ := fun k => k) (n := Tr T) (by omega) (by omega) (fun k k0 k1 => ⟨k0, k1⟩) (fun i j _ ij _ => by omega)
      refine yes _ hl (okL_rows wt (by omega) (fun k k0 k1 => ⟨k0, k1⟩)) ?_ ?_
      · obtain ⟨v, e, p⟩ := wC_table wt ctC (mup m 6 1 0) agC (by show 0 ≤ mup m 6 1 0 6 1; rw [c61]; decide) (by show mup m 6 1 0 6 1 + _ ≤ 700; rw [c61]; omega)
        have e : fT_writeTo (mup m 6 1 0) 6 = some v := e
        refine ⟨v, ?_, p⟩
        unfold fX_write fX_write_37
        rw [if_pos rfl, ct.1, if_neg hT, if_pos rfl, ko, e]
        rfl
      · intro v p
        have wr := wM_rows wt (mtM v ⟨_, p⟩) (by omega) (x := 0) (n := Tr T) (ρ := fun k => k) (by omega) (Or.inl ⟨rfl, by rw [mmcel v ⟨_, p⟩ 5 (by decide) (by decide), mt.2.1], rfl⟩) (fun k k0 k1 => ⟨k0, k1⟩) (mup (mup (mup v 156 0 (v 6 1)) 130 0 0) 130 45 0) Ag.rf (by rw [m45]; decide) (by rw [m45]; omega)
        obtain ⟨m2, e, p2⟩ := wr
        refine ⟨m2, ?_, p2⟩
        unfold fM_write fM_write_27
        rw [if_pos rfl, v130 v ⟨_, p⟩ 4, mt.1, if_neg hT, if_neg (by decide), if_pos rfl]
        exact e
  · subst hx
    rcases id ax with ⟨a0, a1⟩ | ⟨a0, a1, aT, ⟨a2, a3⟩, ⟨a4, a5⟩, a6, a7, a8, a9, a10, a11, a12⟩
    · refine no ?_ (fun m' ht => ?_)
      · unfold fX_write
        rw [if_neg (by decide), if_pos a0]
      · unfold fM_write
        rw [if_neg (by decide), ht.cel 37 (by decide), a1, if_pos (by decide)]
        rfl
    · by_cases e1 : m 123 1 = 1
      · obtain ⟨b1, b2⟩ := a7 e1
        have hl := rows_len wt (ρ := m 124) (n := m 123 4) (by omega) (by omega) (fun k k0 k1 => (b1 k k0 k1).2) b2
        refine yes _ hl (okL_rows wt (by omega) (fun k k0 k1 => (b1 k k0 k1).2)) ?_ ?_
        · have r123 := rowC 123 (by decide)
          have r124 := rowC 124 (by decide)
          have wr := wC_rows wt ctC (by rw [r123]; exact e1) (by rw [r123]; omega) (by rw [r123, r124]; exact fun k k0 k1 => (b1 k k0 k1).2)
          rw [r123, r124] at wr
          obtain ⟨v, e, p⟩ := wr (mup m 6 1 0) agC (by show 0 ≤ mup m 6 1 0 6 1; rw [c61]; decide) (by show mup m 6 1 0 6 1 + _ ≤ 700; rw [c61]; omega)
          have e : fA_writeTo (mup m 6 1 0) 6 = some v := e
          refine ⟨v, ?_, p⟩
          unfold fX_write fX_write_37
          rw [if_neg (by decide), if_neg (by rw [a0]; decide), if_neg (by decide), ko, e]
          rfl
        · intro v p
          have e151 : ∀ k, 0 ≤ k → k < m 123 4 → m 151 k = m 124 k := fun k k0 k1 => (b1 k k0 k1).1.symm
          have r151 := mmrow v ⟨_, p⟩ 151 (by decide) (by decide) (by decide) (by decide)
          have elist : cat (fun k => rowL (cellS T (m 151 k)) (Tn T)) 0 (m 123 4).toNat = cat (fun k => rowL (cellS T (m 124 k)) (Tn T)) 0 (m 123 4).toNat := by
            have : ∀ (k : Nat) (i : Int), 0 ≤ i → i + (k : Int) ≤ m 123 4 → cat (fun k => rowL (cellS T (m 151 k)) (Tn T)) i k = cat (fun k => rowL (cellS T (m 124 k)) (Tn T)) i k := by
              intro k
              induction k with
              | zero => intro i _ _; rfl
              | succ k ih =>
                intro i i0 i1
                show rowL (cellS T (m 151 i)) (Tn T) ++ _ = rowL (cellS T (m 124 i)) (Tn T) ++ _
                rw [e151 i i0 (by omega), ih (i + 1) (by omega) (by omega)]
            exact this _ 0 (by omega) (by omega)
          have wr := wM_rows wt (mtM v ⟨_, p⟩) aT (x := 1) (n := m 123 4) (ρ := m 151) (by omega) (Or.inr ⟨by decide, by rw [mmcel v ⟨_, p⟩ 37 (by decide) (by decide), a1], r151.symm⟩) (fun k k0 k1 => by rw [e151 k k0 k1]; exact (b1 k k0 k1).2) (mup (mup (mup v 156 0 (v 6 1)) 130 0 0) 130 45 0) Ag.rf (by rw [m45]; decide) (by rw [m45, elist]; omega)
          rw [elist] at wr
          obtain ⟨m2, e, p2⟩ := wr
          refine ⟨m2, ?_, p2⟩
          unfold fM_write fM_write_27
          rw [if_neg (by decide), v130 v ⟨_, p⟩ 37, a1, if_neg (by omega), if_neg (by decide), if_neg (by decide), v130 v ⟨_, p⟩ 38, a6, if_pos (by omega)]
          exact e
      · obtain ⟨b1, b2, b3, b4⟩ := a8 (by omega)
        have ho : AgO T (m 123 1) (m 123 3) (m 123 2) (m 126) (m 128) (m 129) (m 127) (m 123 4) := by
          refine ⟨⟨by omega, a5⟩, ⟨a2, a3⟩, b2, fun h0 => ⟨fun k k0 k1 => ((b4 h0).1 k k0 k1).2, (b4 h0).2⟩, fun hk k k0 k1 hl => ?_, fun hk => ⟨(a10 (by omega)).2.1, fun k k0 k1 hl => ((a12 hk).1 k k0 k1 hl).2.1, (a12 hk).2⟩⟩
          rcases hk with hk | hk
          · have c1 := (a9 hk k k0 k1).1
            have c2 := b3 k k0 k1
            rw [c1, ← c2.1]
            exact ⟨by omega, by omega⟩
          · exact (a11 hk k k0 k1 hl).2
        refine yes _ (agg_len wt ho) (agg_ok wt ho) ?_ ?_
        · have r123 := rowC 123 (by decide)
          have r126 := rowC 126 (by decide)
          have r127 := rowC 127 (by decide)
          have r128 := rowC 128 (by decide)
          have r129 := rowC 129 (by decide)
          have wr := wC_agg wt ctC (by rw [r123, r126, r127, r128, r129]; exact ho)
          rw [r123, r126, r127, r128, r129] at wr
          have hl := agg_len wt ho
          obtain ⟨v, e, p⟩ := wr (mup m 6 1 0) agC (by show 0 ≤ mup m 6 1 0 6 1; rw [c61]; decide) (by show mup m 6 1 0 6 1 + _ ≤ 700; rw [c61]; omega)
          have e : fA_writeTo (mup m 6 1 0) 6 = some v := e
          refine ⟨v, ?_, p⟩
          unfold fX_write fX_write_37
          rw [if_neg (by decide), if_neg (by rw [a0]; decide), if_neg (by decide), ko, e]
          rfl
        · intro v p
          have hl := agg_len wt ho
          have r151 := mmrow v ⟨_, p⟩ 151 (by decide) (by decide) (by decide) (by decide)
          have r152 := mmrow v ⟨_, p⟩ 152 (by decide) (by decide) (by decide) (by decide)
          have r153 := mmrow v ⟨_, p⟩ 153 (by decide) (by decide) (by decide) (by decide)
          have r154 := mmrow v ⟨_, p⟩ 154 (by decide) (by decide) (by decide) (by decide)
          have wr := wM_agg wt (mtM v ⟨_, p⟩) ho (by rw [mmcel v ⟨_, p⟩ 38 (by decide) (by decide)]; exact a6) (by rw [mmcel v ⟨_, p⟩ 39 (by decide) (by decide)]; exact b1) (fun hk => by rw [mmcel v ⟨_, p⟩ 40 (by decide) (by decide)]; exact (a10 hk).1) (by rw [mmcel v ⟨_, p⟩ 37 (by decide) (by decide)]; exact a1) (fun h0 k k0 k1 => by rw [r151]; exact ((b4 h0).1 k k0 k1).1.symm) (fun hk k k0 k1 => by rw [r152]; exact ⟨(a9 hk k k0 k1).1.symm, (a9 hk k k0 k1).2⟩) (fun hk k k0 k1 => by rw [r154]; exact ((a10 hk).2.2 k k0 k1).2) (fun hk k k0 k1 hl => by rw [r153]; exact (a11 hk k k0 k1 hl).1.symm) (fun hk k k0 k1 hl => by rw [r154]; exact ((a12 hk).1 k k0 k1 hl).1.symm) (mup (mup (mup v 156 0 (v 6 1)) 130 0 0) 130 45 0) Ag.rf (by rw [m45]; decide) (by rw [m45]; omega)
          obtain ⟨m2, e, p2⟩ := wr
          refine ⟨m2, ?_, p2⟩
          have c39 := mmcel v ⟨_, p⟩ 39 (by decide) (by decide)
          have c132 := mmrow v ⟨_, p⟩ 132 (by decide) (by decide) (by decide) (by decide)
          rw [c39, c132] at e
          unfold fM_write fM_write_27
          rw [if_neg (by decide), v130 v ⟨_, p⟩ 37, a1, if_neg (by omega), if_neg (by decide), if_neg (by decide), v130 v ⟨_, p⟩ 38, a6, if_neg (by omega), v130 v ⟨_, p⟩ 39, v132 v ⟨_, p⟩]
          by_cases hneg : m 130 39 < 0
          · rw [if_pos hneg] at e ⊢
            exact e
          · rw [if_neg hneg] at e ⊢
            rw [gd_pos (by have := wt.1; omega)]
            exact e
end WriteCall
