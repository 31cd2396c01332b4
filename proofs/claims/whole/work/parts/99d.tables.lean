/-! WRITE -/
def okL (l : List Int) : Prop := ∀ c ∈ l, chOK c
theorem okL.app {a b : List Int} (h1 : okL a) (h2 : okL b) : okL (a ++ b) := fun c hc => (List.mem_append.mp hc).elim (h1 c) (h2 c)
theorem okL_cat {l : Int → List Int} : ∀ (n : Nat) (i : Int), (∀ k, i ≤ k → k < i + (n : Int) → okL (l k)) → okL (cat l i n) := by
  intro n
  induction n with
  | zero => intro i _ c hc; cases hc
  | succ n ih =>
    intro i h
    exact (h i (by omega) (by omega)).app (ih (i + 1) (fun k k0 k1 => h k (by omega) (by omega)))
theorem okL_one {c : Int} (h : chOK c) : okL [c] := fun x hx => by rw [List.mem_singleton] at hx; rw [hx]; exact h
theorem okL_rowL {f : Int → List Int} {n : Int} (hn : 0 ≤ n) (h : ∀ c, 0 ≤ c → c < n → okL (f c)) : okL (rowL f n) := by
  unfold rowL
  refine okL_cat _ _ (fun k k0 k1 => (h k k0 (by omega)).app (okL_one ?_))
  split <;> exact ⟨by decide, by decide⟩
theorem okL_dbl {s : List Int} (h : okL s) : okL (dbl s) := by
  intro c hc
  unfold dbl at hc
  obtain ⟨x, hx, hc⟩ := List.mem_flatMap.mp hc
  unfold dbl1 at hc
  by_cases e : x = 34
  · rw [if_pos e] at hc
    simp at hc
    subst hc
    exact ⟨by decide, by decide⟩
  · rw [if_neg e, List.mem_singleton] at hc
    rw [hc]
    exact h x hx
theorem okL_num {v : Int} : okL (numS v) := by
  have hd : ∀ (a : Int) (k : Nat), okL (dl a k) := by
    intro a k
    induction k with
    | zero => exact okL_one (show 0 ≤ 48 + a % 10 ∧ 48 + a % 10 ≤ 255 by omega)
    | succ k ih =>
      intro c hc
      rcases List.mem_cons.mp hc with rfl | hc
      · show 0 ≤ 48 + a / 10 ^ (k + 1) % 10 ∧ 48 + a / 10 ^ (k + 1) % 10 ≤ 255
        omega
      · exact ih c hc
  unfold numS
  refine okL.app ?_ (hd _ _)
  split
  · exact okL_one ⟨by decide, by decide⟩
  · intro c hc; cases hc
theorem okL_kS : ∀ k : Fin 18, ∀ c ∈ kS (k.val : Int), 0 ≤ c ∧ c ≤ 255 := by decide +kernel
theorem okL_kS' {k : Int} (h0 : 0 ≤ k) (h1 : k < 18) : okL (kS k) := by
  have := okL_kS ⟨k.toNat, by omega⟩
  rw [show (((⟨k.toNat, by omega⟩ : Fin 18).val : Nat) : Int) = k by show ((k.toNat : Nat) : Int) = k; omega] at this
  exact this
theorem okL_cell {T : Tb} (wt : WT T) {r c : Int} (h1 : 0 ≤ r) (h2 : r < Tr T) (h3 : 0 ≤ c) (h4 : c < Tn T) : okL (cellS T r c) := by
  have ht : okL (Tt T r c) := fun x hx => ((wt.2.2.2.2.2.1 r c h1 h2 h3 h4).2 x hx).ch
  unfold cellS
  split
  · intro c hc; cases hc
  · split
    · exact (okL_one (c := 34) ⟨by decide, by decide⟩).app ((okL_dbl ht).app (okL_one ⟨by decide, by decide⟩))
    · exact ht
theorem okL_name {T : Tb} (wt : WT T) {c : Int} (h3 : 0 ≤ c) (h4 : c < Tn T) : okL (Tm T c) := fun x hx => by
  have := lo_iff.mp ((wt.2.2.2.1 c h3 h4).2.2.1 x hx)
  exact ⟨by omega, by omega⟩
theorem okL_rows {T : Tb} (wt : WT T) {ρ : Int → Int} {n : Int} (hn : 0 ≤ n) (hr : ∀ k, 0 ≤ k → k < n → 0 ≤ ρ k ∧ ρ k < Tr T) : okL (rowL (Tm T) (Tn T) ++ cat (fun k => rowL (cellS T (ρ k)) (Tn T)) 0 n.toNat) := by
  refine (okL_rowL wt.1.1 (fun c c0 c1 => okL_name wt c0 c1)).app (okL_cat _ _ (fun k k0 k1 => ?_))
  have h := hr k k0 (by omega)
  exact okL_rowL wt.1.1 (fun c c0 c1 => okL_cell wt h.1 h.2 c0 c1)
/-- a loop that ends with what it makes of the memory -/
theorem Wr.loopV {V : Type} {fin : aM → V} {o : wO} {m0 : aM} {b : aM × Int → Option ((aM × Int) ⊕ V)} {l : Int → List Int} {n : Int} (hn : 0 ≤ n ∧ n ≤ 1000)
    (hb : ∀ i, 0 ≤ i → i < n → ∀ m, Ag o m0 m → 0 ≤ m o.1 o.2.1 → m o.1 o.2.1 + ((l i).length : Int) ≤ o.2.2.2.1 → ∃ m', b (m, i) = some (Sum.inl (m', i + 1)) ∧ App o m m' (l i))
    (he : ∀ m, Ag o m0 m → b (m, n) = some (Sum.inr (fin m))) : ∀ m, Ag o m0 m → 0 ≤ m o.1 o.2.1 → m o.1 o.2.1 + ((cat l 0 n.toNat).length : Int) ≤ o.2.2.2.1 → ∃ m', aLoop b FU (m, 0) = some (fin m') ∧ App o m m' (cat l 0 n.toNat) := by
  have key : ∀ (k : Nat) (i : Int) (f : Nat), 0 ≤ i → i + (k : Int) = n → k < f → ∀ m, Ag o m0 m → 0 ≤ m o.1 o.2.1 → m o.1 o.2.1 + ((cat l i k).length : Int) ≤ o.2.2.2.1 → ∃ m', aLoop b f (m, i) = some (fin m') ∧ App o m m' (cat l i k) := by
    intro k
    induction k with
    | zero =>
      intro i f h0 hi hf m ha hm hr
      obtain ⟨f, rfl⟩ : ∃ g, f = g + 1 := ⟨f - 1, by omega⟩
      have hin : i = n := by omega
      subst hin
      exact ⟨m, aL_end (he m ha), App.nil⟩
    | succ k ih =>
      intro i f h0 hi hf m ha hm hr
      obtain ⟨f, rfl⟩ : ∃ g, f = g + 1 := ⟨f - 1, by omega⟩
      have hr' : m o.1 o.2.1 + ((l i ++ cat l (i + 1) k).length : Int) ≤ o.2.2.2.1 := hr
      rw [List.length_append] at hr'
      obtain ⟨m1, e, p⟩ := hb i h0 (by omega) m ha hm (by omega)
      obtain ⟨m2, e2, p2⟩ := ih (i + 1) f (by omega) (by omega) (by omega) m1 (ha.tr p.2.2.2) (by rw [p.1]; omega) (by rw [p.1]; omega)
      exact ⟨m2, (aL_go e).trans e2, p.app p2⟩
  intro m ha hm hr
  exact key n.toNat 0 FU (by omega) (by omega) (by show n.toNat < 1000000; omega) m ha hm hr
/-- after both have written the same -/
theorem RI_write {S : Int → Int} {m v m2 : aM} {y : Int} {l : List Int} (hm : RI S m) (hl : (l.length : Int) ≤ 700) (hok : okL l) (hc : App oC (mup m 6 1 0) v l) (hM : App oM (mup (mup (mup v 156 0 y) 130 0 0) 130 45 0) m2 l) : RI S m2 ∧ v (-1) = m (-1) ∧ v 6 1 = (l.length : Int) ∧ m2 130 45 = (l.length : Int) ∧ m2 130 0 = 0 ∧ m2 156 = mup v 156 0 y 156 := by
  obtain ⟨T, wt, tx, qx, fx, ox, ct, mt, ax, sx⟩ := hm
  have v61 : v 6 1 = (l.length : Int) := by
    have h : v 6 1 = mup m 6 1 0 6 1 + (l.length : Int) := hc.1
    rw [mup_same] at h
    omega
  have v7 (i : Nat) (hi : i < l.length) : v 7 (i : Int) = l.getD i 0 := by
    have h : v 7 (mup m 6 1 0 6 1 + (i : Int)) = l.getD i 0 := hc.2.2.1 i hi
    rw [mup_same, show (0 : Int) + (i : Int) = (i : Int) by omega] at h
    exact h
  have rv (z : Int) (h1 : z ≠ 6) (h2 : z ≠ 7) : v z = m z := by
    rw [AgC.row hc.2.2.2 z h1 h2]
    funext j
    exact mup_ref h1
  have m45 : m2 130 45 = (l.length : Int) := by
    have h : m2 130 45 = mup (mup (mup v 156 0 y) 130 0 0) 130 45 0 130 45 + (l.length : Int) := hM.1
    rw [mup_same] at h
    omega
  have m155 (i : Nat) (hi : i < l.length) : m2 155 (i : Int) = l.getD i 0 := by
    have h : m2 155 (mup (mup (mup v 156 0 y) 130 0 0) 130 45 0 130 45 + (i : Int)) = l.getD i 0 := hM.2.2.1 i hi
    rw [mup_same, show (0 : Int) + (i : Int) = (i : Int) by omega] at h
    exact h
  have r2 (z : Int) (h1 : z ≠ 130) (h2 : z ≠ 155) (h3 : z ≠ 156) : m2 z = v z := by
    rw [AgM.row hM.2.2.2 z h1 h2]
    funext j
    rw [mup_ref h1, mup_ref h1, mup_ref h3]
  have rw2 (z : Int) (h1 : z ≠ 130) (h2 : z ≠ 155) (h3 : z ≠ 156) (h4 : z ≠ 6) (h5 : z ≠ 7) : m2 z = m z := by rw [r2 z h1 h2 h3, rv z h4 h5]
  have cl (j : Int) (h1 : j ≠ 45) (h2 : j ≠ 19) (h3 : j ≠ 20) (h4 : j ≠ 0) : m2 130 j = m 130 j := by
    rw [AgM.cel hM.2.2.2 j h1 h2 h3, mup_idx h1, mup_idx h4, mup_ref (by decide), rv 130 (by decide) (by decide)]
  refine ⟨⟨T, wt, ?_, ?_, ?_, ?_, ?_, ?_, ?_, ?_⟩, by rw [rv (-1) (by decide) (by decide)], v61, m45, ?_, ?_⟩
  · exact tx.of (by rw [rw2 2 (by decide) (by decide) (by decide) (by decide) (by decide)]) (rw2 3 (by decide) (by decide) (by decide) (by decide) (by decide)) (cl 2 (by decide) (by decide) (by decide) (by decide)) (fun i _ _ => by rw [rw2 131 (by decide) (by decide) (by decide) (by decide) (by decide)])
  · exact qx.of (by rw [rw2 4 (by decide) (by decide) (by decide) (by decide) (by decide)]) (rw2 5 (by decide) (by decide) (by decide) (by decide) (by decide)) (cl 3 (by decide) (by decide) (by decide) (by decide)) (fun i _ _ => by rw [rw2 131 (by decide) (by decide) (by decide) (by decide) (by decide)])
  · rw [rw2 1 (by decide) (by decide) (by decide) (by decide) (by decide), cl 25 (by decide) (by decide) (by decide) (by decide)]; exact fx
  · have e6 : m2 6 1 = (l.length : Int) := by rw [r2 6 (by decide) (by decide) (by decide), v61]
    refine ⟨⟨by omega, by omega⟩, by rw [e6, m45], fun i i0 i1 => ?_⟩
    rw [e6] at i1
    have h1 := m155 i.toNat (by omega)
    have h2 := v7 i.toNat (by omega)
    rw [show ((i.toNat : Nat) : Int) = i by omega] at h1 h2
    rw [r2 7 (by decide) (by decide) (by decide), h1, h2]
    refine ⟨rfl, hok _ ?_⟩
    rw [List.getD_eq_getElem?_getD, List.getElem?_eq_getElem (show i.toNat < l.length by omega)]
    exact List.getElem_mem _
  · exact ct.of (by rw [rw2 12 (by decide) (by decide) (by decide) (by decide) (by decide)]) (by rw [rw2 12 (by decide) (by decide) (by decide) (by decide) (by decide)]) (by rw [rw2 13 (by decide) (by decide) (by decide) (by decide) (by decide)]) (rw2 14 (by decide) (by decide) (by decide) (by decide) (by decide)) (rw2 15 (by decide) (by decide) (by decide) (by decide) (by decide)) (rw2 16 (by decide) (by decide) (by decide) (by decide) (by decide)) (rw2 17 (by decide) (by decide) (by decide) (by decide) (by decide)) (rw2 18 (by decide) (by decide) (by decide) (by decide) (by decide)) (rw2 19 (by decide) (by decide) (by decide) (by decide) (by decide)) (rw2 20 (by decide) (by decide) (by decide) (by decide) (by decide))
  · exact mt.of (cl 4 (by decide) (by decide) (by decide) (by decide)) (cl 5 (by decide) (by decide) (by decide) (by decide)) (rw2 132 (by decide) (by decide) (by decide) (by decide) (by decide)) (rw2 133 (by decide) (by decide) (by decide) (by decide) (by decide)) (rw2 134 (by decide) (by decide) (by decide) (by decide) (by decide)) (rw2 135 (by decide) (by decide) (by decide) (by decide) (by decide)) (rw2 136 (by decide) (by decide) (by decide) (by decide) (by decide)) (rw2 137 (by decide) (by decide) (by decide) (by decide) (by decide)) (fun i _ _ => by rw [rw2 131 (by decide) (by decide) (by decide) (by decide) (by decide)])
  · exact ax.of (rw2 123 (by decide) (by decide) (by decide) (by decide) (by decide)) (rw2 124 (by decide) (by decide) (by decide) (by decide) (by decide)) (rw2 125 (by decide) (by decide) (by decide) (by decide) (by decide)) (rw2 126 (by decide) (by decide) (by decide) (by decide) (by decide)) (rw2 127 (by decide) (by decide) (by decide) (by decide) (by decide)) (rw2 128 (by decide) (by decide) (by decide) (by decide) (by decide)) (rw2 129 (by decide) (by decide) (by decide) (by decide) (by decide)) (cl 37 (by decide) (by decide) (by decide) (by decide)) (cl 38 (by decide) (by decide) (by decide) (by decide)) (cl 39 (by decide) (by decide) (by decide) (by decide)) (cl 40 (by decide) (by decide) (by decide) (by decide)) (rw2 151 (by decide) (by decide) (by decide) (by decide) (by decide)) (rw2 152 (by decide) (by decide) (by decide) (by decide) (by decide)) (rw2 153 (by decide) (by decide) (by decide) (by decide) (by decide)) (rw2 154 (by decide) (by decide) (by decide) (by decide) (by decide))
  · rw [rw2 (-1) (by decide) (by decide) (by decide) (by decide) (by decide)]; exact sx
  · rw [AgM.cel hM.2.2.2 0 (by decide) (by decide) (by decide), mup_idx (by decide), mup_same]
  · rw [AgM.row hM.2.2.2 156 (by decide) (by decide)]
    funext j
    rw [mup_ref (by decide), mup_ref (by decide)]
section Tables
variable {m0 : aM} {T : Tb}
theorem wC_table (wt : WT T) (ct : CT m0 T) : Wr oC m0 (fun m => fT_writeTo m 6) (rowL (Tm T) (Tn T) ++ cat (fun k => rowL (cellS T k) (Tn T)) 0 (Tr T).toNat) := by
  have w := wt.2.1
  refine ((wC_names wt ct).seq (g := fun m => fT_writeTo_7 m 6 0) ?_).congr (fun m _ => rfl)
  have := Wr.loop (o := oC) (m0 := m0) (b := fT_writeTo_7_b 6) (l := fun k => rowL (cellS T k) (Tn T)) (le := []) (n := Tr T) (by omega) (by
    intro i h0 h1 m ha hm hr
    obtain ⟨m', e, p⟩ := wC_row wt ct h0 h1 m ha hm hr
    have e : fT_writeRow m i 6 = some m' := e
    refine ⟨m', ?_, p⟩
    unfold fT_writeTo_7_b
    simp only
    rw [(AgC.ct ha ct).2.1, if_pos h1, e, w32_id (by omega) (by omega)]
    rfl) (by
    intro m ha hm hr
    refine ⟨m, ?_, App.nil⟩
    unfold fT_writeTo_7_b
    simp only
    rw [(AgC.ct ha ct).2.1, if_neg (by omega)])
  exact this.to (List.append_nil _)
theorem wC_rows (wt : WT T) (ct : CT m0 T) (hk : m0 123 1 = 1) (h0 : 0 ≤ m0 123 4 ∧ m0 123 4 ≤ 16) (hr : ∀ k, 0 ≤ k → k < m0 123 4 → 0 ≤ m0 124 k ∧ m0 124 k < Tr T) : Wr oC m0 (fun m => fA_writeTo m 6) (rowL (Tm T) (Tn T) ++ cat (fun k => rowL (cellS T (m0 124 k)) (Tn T)) 0 (m0 123 4).toNat) := by
  refine ((wC_names wt ct).seq (g := fun m => fA_writeTo_17 m 6 0) ?_).congr (fun m ha => by unfold fA_writeTo; rw [AgC.row ha 123 (by decide) (by decide), if_pos hk])
  have := Wr.loop (o := oC) (m0 := m0) (b := fA_writeTo_17_b 6) (l := fun k => rowL (cellS T (m0 124 k)) (Tn T)) (le := []) (n := m0 123 4) (by omega) (by
    intro i i0 i1 m ha hm hrr
    have h := hr i i0 i1
    obtain ⟨m', e, p⟩ := wC_row wt ct h.1 h.2 m ha hm hrr
    have e : fT_writeRow m (m0 124 i) 6 = some m' := e
    refine ⟨m', ?_, p⟩
    unfold fA_writeTo_17_b
    simp only
    rw [AgC.row ha 123 (by decide) (by decide), if_pos i1, gd_pos (by omega), AgC.row ha 124 (by decide) (by decide), e, w32_id (by omega) (by omega)]
    rfl) (by
    intro m ha hm hrr
    refine ⟨m, ?_, App.nil⟩
    unfold fA_writeTo_17_b
    simp only
    rw [AgC.row ha 123 (by decide) (by decide), if_neg (by omega)])
  exact this.to (List.append_nil _)
/-- the reference's rows: all, or those of the answer -/
theorem wM_rows (wt : WT T) (mt : MT m0 T) (hT : 1 ≤ Tn T) {x n : Int} {ρ : Int → Int} (hn : 0 ≤ n ∧ n ≤ 16) (hx : (x = 0 ∧ n = m0 130 5 ∧ ρ = fun k => k) ∨ (x ≠ 0 ∧ n = m0 130 37 ∧ ρ = m0 151)) (hr : ∀ k, 0 ≤ k → k < n → 0 ≤ ρ k ∧ ρ k < Tr T) : ∀ m, Ag oM m0 m → 0 ≤ m 130 45 → m 130 45 + ((rowL (Tm T) (Tn T) ++ cat (fun k => rowL (cellS T (ρ k)) (Tn T)) 0 n.toNat).length : Int) ≤ 2000 → ∃ m', fM_write_55 m x = some (m' 130 45, m') ∧ App oM m m' (rowL (Tm T) (Tn T) ++ cat (fun k => rowL (cellS T (ρ k)) (Tn T)) 0 n.toNat) := by
  intro m ha hm hrr
  rw [List.length_append] at hrr
  obtain ⟨m1, e1, p1⟩ := wM_names wt mt hT m ha hm (show m 130 45 + _ ≤ 2000 by omega)
  have e1 : fM_sayNames m = some m1 := e1
  have p11 : m1 130 45 = m 130 45 + ((rowL (Tm T) (Tn T)).length : Int) := p1.1
  have lp := Wr.loopV (fin := fun m : aM => (m 130 45, m)) (o := oM) (m0 := m0) (b := fM_write_61_b x) (l := fun k => rowL (cellS T (ρ k)) (Tn T)) (n := n) (by omega) (by
    intro i i0 i1 q hq q0 q1
    have h := hr i i0 i1
    obtain ⟨q', e, p⟩ := wM_row wt mt hT h.1 h.2 q hq q0 q1
    have e : fM_sayRow q (ρ i) = some q' := e
    refine ⟨q', ?_, p⟩
    unfold fM_write_61_b fM_write_77 fM_write_95
    simp only
    rcases hx with ⟨x0, xn, xr⟩ | ⟨x0, xn, xr⟩
    · have er : ρ i = i := by rw [xr]
      rw [er] at e
      rw [if_pos x0, AgM.cel hq 5 (by decide) (by decide) (by decide), ← xn, if_pos i1, if_pos x0, e, w32_id (by omega) (by omega)]
      rfl
    · have er : ρ i = m0 151 i := by rw [xr]
      rw [er] at e
      rw [if_neg x0, AgM.cel hq 37 (by decide) (by decide) (by decide), ← xn, if_pos i1, if_neg x0, gd_pos (by omega), AgM.row hq 151 (by decide) (by decide), e, w32_id (by omega) (by omega)]
      rfl) (by
    intro q hq
    unfold fM_write_61_b fM_write_77
    simp only
    rcases hx with ⟨x0, xn, xr⟩ | ⟨x0, xn, xr⟩
    · rw [if_pos x0, AgM.cel hq 5 (by decide) (by decide) (by decide), ← xn, if_neg (by omega)]
    · rw [if_neg x0, AgM.cel hq 37 (by decide) (by decide) (by decide), ← xn, if_neg (by omega)])
  obtain ⟨m2, e2, p2⟩ := lp m1 (ha.tr p1.2.2.2) (show 0 ≤ m1 130 45 by omega) (show m1 130 45 + _ ≤ 2000 by omega)
  refine ⟨m2, ?_, p1.app p2⟩
  unfold fM_write_55 fM_write_61
  rw [e1]
  exact e2
end Tables
