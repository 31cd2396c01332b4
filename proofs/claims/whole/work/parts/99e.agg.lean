/-! WRITE: the lines of an aggregate, and the call -/
/-- a line: kind, key, column; key row, value, whether it lacks, best row -/
def lineL (T : Tb) (kind key of : Int) (kr vl lk bs : Int → Int) (k : Int) : List Int :=
  (if key = -1 then [] else cellS T (kr k) key ++ [44]) ++ ((if lk k = 0 then (if kind = 2 ∨ kind = 3 then numS (vl k) else cellS T (bs k) of) else []) ++ [10])
def aggL (T : Tb) (kind key of : Int) (kr vl lk bs : Int → Int) (n : Int) : List Int :=
  (if key = -1 then [] else Tm T key ++ [44]) ++ (kS kind ++ ([10] ++ cat (lineL T kind key of kr vl lk bs) 0 n.toNat))
/-- what is due of an aggregate's answer -/
def AgO (T : Tb) (kind key of : Int) (kr vl lk bs : Int → Int) (n : Int) : Prop := (2 ≤ kind ∧ kind ≤ 5) ∧ (0 ≤ n ∧ n ≤ 16) ∧ (key = -1 ∨ (0 ≤ key ∧ key < Tn T)) ∧
  (0 ≤ key → (∀ k, 0 ≤ k → k < n → 0 ≤ kr k ∧ kr k < Tr T) ∧ ∀ i j, 0 ≤ i → i < j → j < n → kr i ≠ kr j) ∧
  (kind = 2 ∨ kind = 3 → ∀ k, 0 ≤ k → k < n → lk k = 0 → i64 (vl k)) ∧
  (4 ≤ kind → (0 ≤ of ∧ of < Tn T) ∧ (∀ k, 0 ≤ k → k < n → lk k = 0 → 0 ≤ bs k ∧ bs k < Tr T) ∧ ∀ i j, 0 ≤ i → i < j → j < n → lk i = 0 → lk j = 0 → bs i ≠ bs j)
/-- those that lack nothing, each once -/
theorem inj_sum2 {g : Nat → Int} {lk ρ : Int → Int} {n N : Nat} (hg : ∀ k, k < N → 0 ≤ g k) (hr : ∀ k, 0 ≤ k → k < (n : Int) → lk k = 0 → 0 ≤ ρ k ∧ ρ k < (N : Int)) (hi : ∀ i j, 0 ≤ i → i < j → j < (n : Int) → lk i = 0 → lk j = 0 → ρ i ≠ ρ j) : sm (fun k => if lk (k : Int) = 0 then g (ρ (k : Int)).toNat else 0) n ≤ sm g N := by
  have e : ∀ k : Nat, sm (fun k => if lk (k : Int) = 0 then g (ρ (k : Int)).toNat else 0) k = ((((List.range k).filter (fun k : Nat => decide (lk (k : Int) = 0))).map (fun k : Nat => (ρ (k : Int)).toNat)).map g).sum := by
    intro k
    induction k with
    | zero => rfl
    | succ k ih =>
      rw [List.range_succ, List.filter_append, List.map_append, List.map_append, List.sum_append, ← ih]
      show _ + (if lk (k : Int) = 0 then g (ρ (k : Int)).toNat else 0) = _
      congr 1
      by_cases h : lk (k : Int) = 0
      · rw [if_pos h]
        simp [h]
      · rw [if_neg h]
        simp [h]
  rw [e]
  refine nodup_sum N _ hg ?_ ?_
  · have aux : ∀ k : Nat, k ≤ n → (((List.range k).filter (fun k : Nat => decide (lk (k : Int) = 0))).map (fun k : Nat => (ρ (k : Int)).toNat)).Nodup := by
      intro k
      induction k with
      | zero => intro _; exact List.nodup_nil
      | succ k ih =>
        intro hk
        rw [List.range_succ, List.filter_append, List.map_append, List.nodup_append]
        refine ⟨ih (by omega), ?_, ?_⟩
        · by_cases h : lk (k : Int) = 0 <;> simp [h]
        · intro a ha b hb
          rw [List.mem_map] at ha
          obtain ⟨x, hx, rfl⟩ := ha
          rw [List.mem_filter, List.mem_range, decide_eq_true_iff] at hx
          rw [List.mem_map] at hb
          obtain ⟨y, hy, rfl⟩ := hb
          rw [List.mem_filter, List.mem_singleton, decide_eq_true_iff] at hy
          obtain ⟨rfl, hy⟩ := hy
          have h1 := hr (x : Int) (by omega) (by omega) hx.2
          have h2 := hr (y : Int) (by omega) (by omega) hy
          have h3 := hi (x : Int) (y : Int) (by omega) (by omega) (by omega) hx.2 hy
          omega
    exact aux n (Nat.le_refl _)
  · intro a ha
    rw [List.mem_map] at ha
    obtain ⟨x, hx, rfl⟩ := ha
    rw [List.mem_filter, List.mem_range, decide_eq_true_iff] at hx
    have h1 := hr (x : Int) (by omega) (by omega) hx.2
    omega
theorem kS_len : ∀ k : Fin 6, ((kS (k.val : Int)).length : Int) ≤ 5 := by decide +kernel
section Agg
variable {T : Tb} {kind key of n : Int} {kr vl lk bs : Int → Int}
theorem agg_len (wt : WT T) (h : AgO T kind key of kr vl lk bs n) : ((aggL T kind key of kr vl lk bs n).length : Int) ≤ 700 := by
  obtain ⟨⟨k2, k5⟩, ⟨n0, n16⟩, hkey, hkr, hvl, hbs⟩ := h
  have hK : ((kS kind).length : Int) ≤ 5 := by
    have := kS_len ⟨kind.toNat, by omega⟩
    rw [show (((⟨kind.toNat, by omega⟩ : Fin 6).val : Nat) : Int) = kind by show ((kind.toNat : Nat) : Int) = kind; omega] at this
    exact this
  unfold aggL
  rw [List.length_append, List.length_append, List.length_append]
  have hh : (((if key = -1 then [] else Tm T key ++ [44]) : List Int).length : Int) ≤ 7 := by
    by_cases e : key = -1
    · rw [if_pos e]; decide
    · rw [if_neg e, List.length_append]
      have := (wt.2.2.2.1 key (by omega) (by omega)).2.1
      simp only [List.length_cons, List.length_nil]
      omega
  have hc := cat_len (l := lineL T kind key of kr vl lk bs) n.toNat 0
  -- the keys
  have hkeys : sm (fun k : Nat => (((if key = -1 then [] else cellS T (kr (k : Int)) key ++ [44]) : List Int).length : Int)) n.toNat ≤ 241 + n * 3 := by
    by_cases e : key = -1
    · simp only [if_pos e]
      have : sm (fun _ : Nat => (([] : List Int).length : Int)) n.toNat = (n.toNat : Int) * 0 := sm_const n.toNat
      rw [this]
      omega
    · have hk0 : 0 ≤ key := by omega
      obtain ⟨r1, r2⟩ := hkr hk0
      have a1 : sm (fun k : Nat => (((if key = -1 then [] else cellS T (kr (k : Int)) key ++ [44]) : List Int).length : Int)) n.toNat ≤ sm (fun k : Nat => (fun r : Nat => Lw (Tt T (r : Int) key)) (kr (k : Int)).toNat + 3) n.toNat := by
        refine sm_mono _ (fun k hk => ?_)
        have hr := r1 (k : Int) (by omega) (by omega)
        rw [if_neg e, List.length_append]
        show _ ≤ Lw (Tt T (((kr (k : Int)).toNat : Nat) : Int) key) + 3
        rw [show (((kr (k : Int)).toNat : Nat) : Int) = kr (k : Int) by omega]
        have := cellS_len (T := T) (r := kr (k : Int)) (c := key)
        simp only [List.length_cons, List.length_nil]
        omega
      have a2 := inj_sum (g := fun r : Nat => Lw (Tt T (r : Int) key)) (ρ := kr) (n := n.toNat) (N := (Tr T).toNat) (fun k _ => Lw_nn) (fun k k0 k1 => by have := r1 k k0 (by omega); omega) (fun i j i0 ij jn => r2 i j i0 ij (by omega))
      have a3 := col_len wt (c := key) hk0 (by omega)
      have a4 : sm (fun k : Nat => (fun r : Nat => Lw (Tt T (r : Int) key)) (kr (k : Int)).toNat + 3) n.toNat = sm (fun k : Nat => (fun r : Nat => Lw (Tt T (r : Int) key)) (kr (k : Int)).toNat) n.toNat + (n.toNat : Int) * 3 := by
        rw [sm_add (f := fun k : Nat => (fun r : Nat => Lw (Tt T (r : Int) key)) (kr (k : Int)).toNat) (g := fun _ => 3), sm_const]
      simp only at a1 a2 a4
      omega
  -- the values
  have hvals : sm (fun k : Nat => (((if lk (k : Int) = 0 then (if kind = 2 ∨ kind = 3 then numS (vl (k : Int)) else cellS T (bs (k : Int)) of) else []) : List Int).length : Int)) n.toNat ≤ 320 := by
    by_cases e : kind = 2 ∨ kind = 3
    · have a1 : sm (fun k : Nat => (((if lk (k : Int) = 0 then (if kind = 2 ∨ kind = 3 then numS (vl (k : Int)) else cellS T (bs (k : Int)) of) else []) : List Int).length : Int)) n.toNat ≤ sm (fun _ : Nat => (20 : Int)) n.toNat := by
        refine sm_mono _ (fun k hk => ?_)
        rw [if_pos e]
        by_cases hl : lk (k : Int) = 0
        · rw [if_pos hl]; exact numS_len
        · rw [if_neg hl]; decide
      rw [sm_const] at a1
      omega
    · obtain ⟨⟨o0, o1⟩, b1, b2⟩ := hbs (by omega)
      have a1 : sm (fun k : Nat => (((if lk (k : Int) = 0 then (if kind = 2 ∨ kind = 3 then numS (vl (k : Int)) else cellS T (bs (k : Int)) of) else []) : List Int).length : Int)) n.toNat ≤ sm (fun k : Nat => (if lk (k : Int) = 0 then (fun r : Nat => Lw (Tt T (r : Int) of)) (bs (k : Int)).toNat else 0) + 2) n.toNat := by
        refine sm_mono _ (fun k hk => ?_)
        rw [if_neg e]
        by_cases hl : lk (k : Int) = 0
        · have hr := b1 (k : Int) (by omega) (by omega) hl
          rw [if_pos hl, if_pos hl]
          show _ ≤ Lw (Tt T (((bs (k : Int)).toNat : Nat) : Int) of) + 2
          rw [show (((bs (k : Int)).toNat : Nat) : Int) = bs (k : Int) by omega]
          exact cellS_len
        · rw [if_neg hl, if_neg hl]; decide
      have a2 := inj_sum2 (g := fun r : Nat => Lw (Tt T (r : Int) of)) (lk := lk) (ρ := bs) (n := n.toNat) (N := (Tr T).toNat) (fun k _ => Lw_nn) (fun k k0 k1 hl => by have := b1 k k0 (by omega) hl; omega) (fun i j i0 ij jn li lj => b2 i j i0 ij (by omega) li lj)
      have a3 := col_len wt (c := of) o0 o1
      have a4 : sm (fun k : Nat => (if lk (k : Int) = 0 then (fun r : Nat => Lw (Tt T (r : Int) of)) (bs (k : Int)).toNat else 0) + 2) n.toNat = sm (fun k : Nat => if lk (k : Int) = 0 then (fun r : Nat => Lw (Tt T (r : Int) of)) (bs (k : Int)).toNat else 0) n.toNat + (n.toNat : Int) * 2 := by
        rw [sm_add (f := fun k : Nat => if lk (k : Int) = 0 then (fun r : Nat => Lw (Tt T (r : Int) of)) (bs (k : Int)).toNat else 0) (g := fun _ => 2), sm_const]
      simp only at a1 a2 a4
      omega
  have hline : sm (fun k : Nat => ((lineL T kind key of kr vl lk bs (0 + (k : Int))).length : Int)) n.toNat = sm (fun k : Nat => (((if key = -1 then [] else cellS T (kr (k : Int)) key ++ [44]) : List Int).length : Int)) n.toNat + (sm (fun k : Nat => (((if lk (k : Int) = 0 then (if kind = 2 ∨ kind = 3 then numS (vl (k : Int)) else cellS T (bs (k : Int)) of) else []) : List Int).length : Int)) n.toNat + (n.toNat : Int) * 1) := by
    have e1 : (fun k : Nat => ((lineL T kind key of kr vl lk bs (0 + (k : Int))).length : Int)) = fun k : Nat => (((if key = -1 then [] else cellS T (kr (k : Int)) key ++ [44]) : List Int).length : Int) + ((((if lk (k : Int) = 0 then (if kind = 2 ∨ kind = 3 then numS (vl (k : Int)) else cellS T (bs (k : Int)) of) else []) : List Int).length : Int) + 1) := by
      funext k
      unfold lineL
      rw [show (0 : Int) + (k : Int) = (k : Int) by omega, List.length_append, List.length_append]
      simp only [List.length_cons, List.length_nil]
      omega
    rw [e1, sm_add (f := fun k : Nat => (((if key = -1 then [] else cellS T (kr (k : Int)) key ++ [44]) : List Int).length : Int)), sm_add (f := fun k : Nat => (((if lk (k : Int) = 0 then (if kind = 2 ∨ kind = 3 then numS (vl (k : Int)) else cellS T (bs (k : Int)) of) else []) : List Int).length : Int)) (g := fun _ => 1), sm_const]
  simp only [List.length_cons, List.length_nil]
  omega
theorem agg_ok (wt : WT T) (h : AgO T kind key of kr vl lk bs n) : okL (aggL T kind key of kr vl lk bs n) := by
  obtain ⟨⟨k2, k5⟩, ⟨n0, n16⟩, hkey, hkr, hvl, hbs⟩ := h
  unfold aggL
  refine okL.app ?_ ((okL_kS' (by omega) (by omega)).app ((okL_one ⟨by decide, by decide⟩).app (okL_cat _ _ (fun k k0 k1 => ?_))))
  · by_cases e : key = -1
    · rw [if_pos e]; intro c hc; cases hc
    · rw [if_neg e]
      exact (okL_name wt (by omega) (by omega)).app (okL_one ⟨by decide, by decide⟩)
  · unfold lineL
    refine okL.app ?_ (okL.app ?_ (okL_one ⟨by decide, by decide⟩))
    · by_cases e : key = -1
      · rw [if_pos e]; intro c hc; cases hc
      · rw [if_neg e]
        have hr := (hkr (by omega)).1 k k0 (by omega)
        exact (okL_cell wt hr.1 hr.2 (by omega) (by omega)).app (okL_one ⟨by decide, by decide⟩)
    · by_cases hl : lk k = 0
      · rw [if_pos hl]
        by_cases e : kind = 2 ∨ kind = 3
        · rw [if_pos e]; exact okL_num
        · rw [if_neg e]
          obtain ⟨⟨o0, o1⟩, b1, -⟩ := hbs (by omega)
          have hr := b1 k k0 (by omega) hl
          exact okL_cell wt hr.1 hr.2 o0 o1
      · rw [if_neg hl]; intro c hc; cases hc
end Agg
/-- the class's lines -/
theorem wC_agg {m0 : aM} {T : Tb} (wt : WT T) (ct : CT m0 T) (h : AgO T (m0 123 1) (m0 123 3) (m0 123 2) (m0 126) (m0 128) (m0 129) (m0 127) (m0 123 4)) : Wr oC m0 (fun m => fA_writeTo m 6) (aggL T (m0 123 1) (m0 123 3) (m0 123 2) (m0 126) (m0 128) (m0 129) (m0 127) (m0 123 4)) := by
  obtain ⟨⟨k2, k5⟩, ⟨n0, n16⟩, hkey, hkr, hvl, hbs⟩ := h
  have r123 {m : aM} (ha : Ag oC m0 m) := AgC.row ha 123 (by decide) (by decide)
  have wline (k : Int) (q0 : 0 ≤ k) (q1 : k < m0 123 4) : Wr oC m0 (fun m => fA_writeLine m k 6) (lineL T (m0 123 1) (m0 123 3) (m0 123 2) (m0 126) (m0 128) (m0 129) (m0 127) k) := by
    have w10 : Wr oC m0 (fun m => fA_writeLine_82 m 6) [10] := (wC_add (m0 := m0) (c := 10) (by decide)).congr (fun m _ => by
      unfold fA_writeLine_82
      cases fC_add m 6 10 <;> rfl)
    have w29 : Wr oC m0 (fun m => fA_writeLine_29 m k 6) ((if m0 129 k = 0 then (if m0 123 1 = 2 ∨ m0 123 1 = 3 then numS (m0 128 k) else cellS T (m0 127 k) (m0 123 2)) else []) ++ [10]) := by
      by_cases hl : m0 129 k = 0
      · rw [if_pos hl]
        by_cases e : m0 123 1 = 2 ∨ m0 123 1 = 3
        · rw [if_pos e]
          refine ((wC_num (m0 := m0) (hvl e k q0 q1 hl)).seq w10).congr (fun m ha => ?_)
          have hb : fA_isBest m = 0 := by
            unfold fA_isBest
            rw [r123 ha, if_neg (by omega), if_neg (by omega)]
          unfold fA_writeLine_29 fA_writeLine_63
          rw [gd_pos (by omega), AgC.row ha 129 (by decide) (by decide), if_pos hl, hb, if_pos rfl, gd_pos (by omega), if_pos hl, AgC.row ha 128 (by decide) (by decide)]
        · rw [if_neg e]
          obtain ⟨⟨o0, o1⟩, b1, -⟩ := hbs (by omega)
          have hr := b1 k q0 q1 hl
          refine ((wC_cell wt ct hr.1 hr.2 o0 o1).seq w10).congr (fun m ha => ?_)
          have hb : fA_isBest m = 1 := by
            unfold fA_isBest
            rw [r123 ha]
            by_cases q : m0 123 1 = 4
            · rw [if_pos q]
            · rw [if_neg q, if_pos (by omega)]
          unfold fA_writeLine_29
          rw [gd_pos (by omega), AgC.row ha 129 (by decide) (by decide), if_pos hl, hb, if_neg (by decide), AgC.row ha 127 (by decide) (by decide), r123 ha]
      · rw [if_neg hl]
        refine w10.congr (fun m ha => ?_)
        unfold fA_writeLine_29 fA_writeLine_63
        rw [gd_pos (by omega), AgC.row ha 129 (by decide) (by decide), if_neg hl, gd_pos (by omega), if_neg hl]
    unfold lineL
    by_cases e : m0 123 3 = -1
    · rw [if_pos e]
      exact w29.congr (fun m ha => by unfold fA_writeLine; rw [r123 ha, if_pos e])
    · rw [if_neg e]
      have hr := (hkr (by omega)).1 k q0 q1
      refine (((wC_cell wt ct hr.1 hr.2 (show 0 ≤ m0 123 3 by omega) (by omega)).seq (wC_add (m0 := m0) (c := 44) (by decide))).seq w29).congr (fun m ha => ?_)
      unfold fA_writeLine
      rw [r123 ha, if_neg e, gd_pos (by omega), AgC.row ha 126 (by decide) (by decide)]
      cases fT_writeCell m (m0 126 k) (m0 123 3) 6 <;> rfl
  have w85 : Wr oC m0 (fun m => fA_writeTo_85 m 6 0) (cat (lineL T (m0 123 1) (m0 123 3) (m0 123 2) (m0 126) (m0 128) (m0 129) (m0 127)) 0 (m0 123 4).toNat) := by
    have := Wr.loop (o := oC) (m0 := m0) (b := fA_writeTo_85_b 6) (l := lineL T (m0 123 1) (m0 123 3) (m0 123 2) (m0 126) (m0 128) (m0 129) (m0 127)) (le := []) (n := m0 123 4) (by omega) (by
      intro i i0 i1 m ha hm hrr
      obtain ⟨m', e, p⟩ := wline i i0 i1 m ha hm hrr
      have e : fA_writeLine m i 6 = some m' := e
      refine ⟨m', ?_, p⟩
      unfold fA_writeTo_85_b
      simp only
      rw [r123 ha, if_pos i1, e, w32_id (by omega) (by omega)]
      rfl) (by
      intro m ha hm hrr
      refine ⟨m, ?_, App.nil⟩
      unfold fA_writeTo_85_b
      simp only
      rw [r123 ha, if_neg (by omega)])
    exact this.to (List.append_nil _)
  have w66 : Wr oC m0 (fun m => fA_writeTo_66 m 6) (kS (m0 123 1) ++ ([10] ++ cat (lineL T (m0 123 1) (m0 123 3) (m0 123 2) (m0 126) (m0 128) (m0 129) (m0 127)) 0 (m0 123 4).toNat)) := by
    refine ((wC_word (m0 := m0) (k := m0 123 1) (by omega) (okL_kS' (by omega) (by omega))).seq ((wC_add (m0 := m0) (c := 10) (by decide)).seq w85)).congr (fun m ha => ?_)
    unfold fA_writeTo_66
    rw [r123 ha, gd_pos (by omega)]
  unfold aggL
  by_cases e : m0 123 3 = -1
  · rw [if_pos e]
    exact w66.congr (fun m ha => by unfold fA_writeTo; rw [r123 ha, if_neg (by omega), if_pos e])
  · rw [if_neg e]
    refine (((wC_name wt ct (show 0 ≤ m0 123 3 by omega) (by omega)).seq (wC_add (m0 := m0) (c := 44) (by decide))).seq w66).congr (fun m ha => ?_)
    unfold fA_writeTo
    rw [r123 ha, if_neg (by omega), if_neg e]
    cases fT_writeName m (m0 123 3) 6 <;> rfl
