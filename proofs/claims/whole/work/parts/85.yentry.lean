/-! THE ENTRY: the constants' world at the law's start -/
theorem str_of {args : Array Value} {s : State} {tm : Term} {len : Nat} {f : Nat → Int32} {A : Nat → Prop} (hN : len < 2 ^ 31) (hex : (Cond.exactly tm "java/lang/String").before args s = true) (hco : (Cond.eq (.field tm "java/lang/String" "coder" "B") (.int 0)).before args s = true) (har : (Cond.arrayOf (.field tm "java/lang/String" "value" "[B") .byte).before args s = true) (hle : (Cond.eq (.length (.field tm "java/lang/String" "value" "[B")) (.int (Int32.ofNat len))).before args s = true)
    (hel : ∀ j : Nat, j < len → (Cond.eq (.elem (.field tm "java/lang/String" "value" "[B") (.int (Int32.ofNat j))) (.int (f j))).before args s = true) (hA : ∀ a : Nat, a < s.heap.size → ¬ A a) :
    ∃ q : Nat × Nat, tm.eval args s none [] s = some (.ref q.1) ∧ va_O "java/lang/String" q.1 A s s.heap ∧ va_OF "java/lang/String" "coder" "B" (.int 0) q.1 A s s.heap ∧ va_OF "java/lang/String" "value" "[B" (.ref q.2) q.1 A s s.heap ∧ va_T .byte q.2 len (fun j => .int (f j)) A s s.heap := by
  obtain ⟨a, c, cA, kA, q1, q2, q3, q4, q5, q6, -⟩ := Cond.exactly_spec (args := args) (first := s) (o := none) (s := s) (idx := []) (t := tm) (cls := "java/lang/String") hex
  obtain ⟨t, ht, hT⟩ := va_Tof (f := fun j => .int (f j)) (A := A) hN har (va_eqt hle) (fun j hj => va_eqt (hel j hj)) hA
  exact ⟨(a, t), q1, ⟨cA, q3, q5, by rw [q6]; exact q2, hA a (Array.getElem?_eq_some_iff.mp q3).1⟩, vk_OFof q1 (va_eqt hco) hA, vk_OFof q1 ht hA, hT⟩
theorem arr_of {args : Array Value} {s : State} {ty : FieldType} (h : (Cond.arrayClass ty).before args s = true) (hty : ∀ C, ty ≠ .object C) : ∃ cA, ArrOfT s cA ty ∧ va_RA s cA ty := by
  obtain ⟨cA, kA, comp, h1, h2, h3⟩ := Cond.arrayClass_spec (args := args) (first := s) (o := none) (s := s) (idx := []) h
  refine ⟨cA, fun n z => ⟨fun k h => (by cases h), kA, h2, comp, h3⟩, ?_⟩
  cases ty with
  | object C => exact absurd rfl (hty C)
  | _ => exact h1
theorem arrO_of {args : Array Value} {s : State} {C : String} (h : (Cond.arrayOver (.object C)).before args s = true) : ∃ cA, ArrOfT s cA (.object C) ∧ va_RA s cA (.object C) := by
  obtain ⟨comp, cA, kA, h1, -, h2, h3, h4⟩ := Cond.arrayOver_spec (args := args) (first := s) (o := none) (s := s) (idx := []) h
  exact ⟨cA, fun n z => ⟨fun k h => (by cases h), kA, h2, comp, h3⟩, kA, comp, h2, h3, h1, h4⟩
theorem nest_tabs {w : Cond} (h : isNest w = true) : w.onTables = true := by
  cases w <;> first | rfl | cases h
theorem gw_mem {w : Cond} (h : w ∈ gw) : w ∈ lw_tbl := (List.mem_filter.mp h).1
theorem entry_KS {s : State} {b L : Nat} {xs : Nat → Int32} (hts : ∀ w ∈ lw_tbl, w.before #[Value.ref b] s = true) (hX : va_X b L xs s s.heap) (hbl : b < s.heap.size) (hL : L ≤ 240) (hgv : (Jvm.Cond.and given_1 narrow_1).before #[Value.ref b] s = true) :
    ∃ ev : sV, KS ev s s.heap ∧ v44 ev = b ∧ vN ev = s.heap.size ∧ vXn ev = (L : Int) ∧ vXs ev (-1) = (L : Int) := by
  have hf : ∀ c ∈ fl1, c.before #[Value.ref b] s = true := fun c hc => flat_of_before _ hgv c (fl1_mem hc)
  obtain ⟨A, eA⟩ : ∃ A : Nat → Prop, A = fun q => s.heap.size ≤ q := ⟨_, rfl⟩
  have hA : ∀ a : Nat, a < s.heap.size → ¬ A a := by
    intro a ha hq
    rw [eA] at hq
    exact absurd hq (Nat.not_le.mpr ha)
  -- the Words
  have hWs : ∀ q ∈ sStat, (Cond.laysStatic q.1 q.2.1 q.2.2.1).before #[Value.ref b] s = true ∧ (Cond.initialized q.1).before #[Value.ref b] s = true := fun q hq => ⟨hts _ (t_ls q hq).1, hts _ (t_ls q hq).2⟩
  obtain ⟨aw, hE, hev⟩ := va_Enof2 (args := #[Value.ref b]) (s := s) (E := "AskedTable$Word") (d := "LAskedTable$Word;") (nm := nmW) (F := []) (A := A)
    (fun i hi => hts _ (e_lw ⟨i, hi⟩)) (hts _ e_iw) (fun i hi => hf _ (e_ex ⟨i, hi⟩)) (fun q hq => absurd hq List.not_mem_nil) (fun i j hi hj hij => (e_ne ⟨i, hi⟩ ⟨j, hj⟩ hij).imp (hf _) (hf _)) hA
  -- the Strings
  have hS : ∀ i : Nat, ∃ q : Nat × Nat, 1 ≤ i → i ≤ 17 → (stT i).eval #[Value.ref b] s none [] s = some (.ref q.1) ∧ va_O "java/lang/String" q.1 A s s.heap ∧ va_OF "java/lang/String" "coder" "B" (.int 0) q.1 A s s.heap ∧ va_OF "java/lang/String" "value" "[B" (.ref q.2) q.1 A s s.heap ∧ va_T .byte q.2 (sLen (i : Int)).toNat (fun j => .int (Int32.ofInt (sAt (i : Int) (j : Int)))) A s s.heap := by
    intro i
    by_cases hi : 1 ≤ i ∧ i ≤ 17
    · obtain ⟨k, rfl⟩ : ∃ k, i = k + 1 := ⟨i - 1, by omega⟩
      have hk : k < 17 := by omega
      obtain ⟨g1, g2, g3, g4⟩ := e_sx ⟨k, hk⟩
      have gl := e_sl ⟨k, hk⟩
      obtain ⟨q, hq⟩ := str_of (tm := stT (k + 1)) (len := (sLen ((k + 1 : Nat) : Int)).toNat) (f := fun j => Int32.ofInt (sAt ((k + 1 : Nat) : Int) (j : Int))) (A := A) (Nat.lt_trans gl (by decide)) (hf _ g1) (hf _ g2) (hf _ g3) (hf _ g4) (fun j hj => hf _ (e_se ⟨k, hk⟩ ⟨j, Nat.lt_trans hj gl⟩ hj)) hA
      exact ⟨q, fun _ _ => hq⟩
    · exact ⟨(0, 0), fun h1 h2 => absurd ⟨h1, h2⟩ hi⟩
  obtain ⟨sa, hsa⟩ := Classical.axiomOfChoice hS
  -- DAYS, ALL
  obtain ⟨td, htd, hTd⟩ := va_Tof (args := #[Value.ref b]) (s := s) (N := 12) (f := fun j => .int (Int32.ofInt (dDay (j : Int)))) (A := A) (by decide) (hf _ e_dx.1) (va_eqt (hf _ e_dx.2)) (fun j hj => va_eqt (hf _ (e_de ⟨j, hj⟩))) hA
  obtain ⟨ta, hta, hTa⟩ := va_Tof (args := #[Value.ref b]) (s := s) (N := 15) (f := fun j => .ref (aw j)) (A := A) (by decide) (hf _ e_ax.1) (va_eqt (hf _ e_ax.2)) (fun j hj => va_eqv (hf _ (e_ae ⟨j, hj⟩)) (hev j hj)) hA
  -- the formatter
  obtain ⟨vf, hvf, hvr⟩ := Cond.isRef_spec (args := #[Value.ref b]) (first := s) (o := none) (s := s) (idx := []) (hf _ e_cs.2.1)
  have hfo : ∃ o : Option Nat, vf = va_rf o := by
    cases vf <;> first | exact ⟨none, rfl⟩ | exact ⟨some _, rfl⟩ | cases hvr
  obtain ⟨fo, rfl⟩ := hfo
  -- the classes
  obtain ⟨c30, k30⟩ := arr_of (hts _ t_ac.1) (fun C => nofun)
  obtain ⟨c31, k31⟩ := arr_of (hts _ t_ac.2.1) (fun C => nofun)
  obtain ⟨c32, k32⟩ := arr_of (hts _ t_ac.2.2.1) (fun C => nofun)
  obtain ⟨c33, k33⟩ := arr_of (hts _ t_ac.2.2.2.1) (fun C => nofun)
  obtain ⟨c34, k34⟩ := arrO_of (hts _ t_ac.2.2.2.2)
  have kn {C : String} {T : u_T} {N n : Nat} (h1 : ∀ w ∈ u_ws C T N, w ∈ gw) (h2 : Cond.instantiable C n ∈ lw_tbl) := u_known hts (fun w hw => gw_mem (h1 w hw)) (hts _ h2)
  obtain ⟨d0, i0, m0⟩ := kn cls0.2.2.1 t_in.1
  obtain ⟨d1, i1, m1⟩ := kn cls1.2.2.1 t_in.2.1
  obtain ⟨d2, i2, m2⟩ := kn cls2.2.2.1 t_in.2.2.1
  obtain ⟨d3, i3, m3⟩ := kn cls3.2.2.1 t_in.2.2.2.1
  obtain ⟨d4, i4, m4⟩ := kn cls4.2.2.1 t_in.2.2.2.2.1
  obtain ⟨d5, i5, m5⟩ := kn cls5.2.2.1 t_in.2.2.2.2.2.1
  obtain ⟨d6, i6, m6⟩ := kn cls6.2.2.1 t_in.2.2.2.2.2.2.1
  obtain ⟨d7, i7, m7⟩ := kn cls7.2.2.1 t_in.2.2.2.2.2.2.2.1
  obtain ⟨d8, i8, m8⟩ := kn cls8.2.2.1 t_in.2.2.2.2.2.2.2.2
  obtain ⟨D, hDd⟩ : ∃ D : va_G, ∀ (c : Nat) (q : vw_C), vwCl[c]? = some q → u_Kn s q.1 q.2.1 q.2.2 (D.1 c) (D.2 c) := by
    refine ⟨(fun c => match c with | 0 => d0 | 1 => d1 | 2 => d2 | 3 => d3 | 4 => d4 | 5 => d5 | 6 => d6 | 7 => d7 | _ => d8, fun c => match c with | 0 => i0 | 1 => i1 | 2 => i2 | 3 => i3 | 4 => i4 | 5 => i5 | 6 => i6 | 7 => i7 | _ => i8), fun c q hq => ?_⟩
    match c, hq with
    | 0, hq => cases hq; exact m0
    | 1, hq => cases hq; exact m1
    | 2, hq => cases hq; exact m2
    | 3, hq => cases hq; exact m3
    | 4, hq => cases hq; exact m4
    | 5, hq => cases hq; exact m5
    | 6, hq => cases hq; exact m6
    | 7, hq => cases hq; exact m7
    | 8, hq => cases hq; exact m8
    | n + 9, hq => cases hq
  obtain ⟨cc, hcc⟩ : ∃ cc : Nat → ClassId, cc 30 = c30 ∧ cc 31 = c31 ∧ cc 32 = c32 ∧ cc 33 = c33 ∧ cc 34 = c34 := ⟨fun n => if n = 30 then c30 else if n = 31 then c31 else if n = 32 then c32 else if n = 33 then c33 else c34, rfl, rfl, rfl, rfl, rfl⟩
  obtain ⟨ev, eev⟩ : ∃ ev : sV, ev = (D, aw, (fun i => (sa i).1), (fun i => (sa i).2), td, ta, b, fo, cc, s.heap.size, (fun j => if j = -1 then (L : Int) else (xs j.toNat).toInt), (L : Int)) := ⟨_, rfl⟩
  have evA : vA ev = A := by rw [eev, eA]; rfl
  have evW : vW ev = aw := by rw [eev]; rfl
  have evS : vS ev = fun i => (sa i).1 := by rw [eev]; rfl
  have evB : vB ev = fun i => (sa i).2 := by rw [eev]; rfl
  have ev42 : v42 ev = td := by rw [eev]; rfl
  have ev43 : v43 ev = ta := by rw [eev]; rfl
  have ev44 : v44 ev = b := by rw [eev]; rfl
  have evF : vF ev = fo := by rw [eev]; rfl
  have evC : vC ev = cc := by rw [eev]; rfl
  have evN : vN ev = s.heap.size := by rw [eev]; rfl
  have evXs : vXs ev = fun j => if j = -1 then (L : Int) else (xs j.toNat).toInt := by rw [eev]; rfl
  have evXn : vXn ev = (L : Int) := by rw [eev]; rfl
  have evD : vD ev = D := by rw [eev]; rfl
  refine ⟨ev, ?_, ev44, evN, evXn, by rw [evXs]; exact if_pos rfl⟩
  have zw : ∀ i : Nat, i < 15 → va_Z "AskedTable$Word" (nmW.getD i "") "LAskedTable$Word;" (.ref (aw i)) A s s.heap := fun i hi => (hE.1 i hi).1
  refine ⟨?_, ?_, ?_, ?_, ?_, ?_, ⟨?_, ?_, ?_, ?_⟩, ?_, ?_, ?_, ?_, ?_, ?_, ?_, ⟨?_, ?_⟩, ?_⟩
  · -- statics
    intro q hq
    rw [evA]
    have hl := hWs q hq
    have wd (i : Nat) (hi : i < 15) : cv ev (fun _ => 0) (40, ((i + 1 : Nat) : Int)) = .ref (aw i) := by
      show va_rf (if ((i + 1 : Nat) : Int) = 0 then none else some (vW ev (((i + 1 : Nat) : Int) - 1).toNat)) = _
      rw [if_neg (by omega), evW, show (((i + 1 : Nat) : Int) - 1).toNat = i by omega]
      rfl
    have hq' : q ∈ sStat := hq
    simp only [sStat, List.mem_cons, List.not_mem_nil, or_false] at hq
    rcases hq with rfl | rfl | rfl | rfl | rfl | rfl | rfl | rfl | rfl | rfl | rfl | rfl | rfl | rfl | rfl | rfl | rfl | rfl | rfl
    · exact (wd 0 (by decide)) ▸ zw 0 (by decide)
    · exact (wd 1 (by decide)) ▸ zw 1 (by decide)
    · exact (wd 2 (by decide)) ▸ zw 2 (by decide)
    · exact (wd 3 (by decide)) ▸ zw 3 (by decide)
    · exact (wd 4 (by decide)) ▸ zw 4 (by decide)
    · exact (wd 5 (by decide)) ▸ zw 5 (by decide)
    · exact (wd 6 (by decide)) ▸ zw 6 (by decide)
    · exact (wd 7 (by decide)) ▸ zw 7 (by decide)
    · exact (wd 8 (by decide)) ▸ zw 8 (by decide)
    · exact (wd 9 (by decide)) ▸ zw 9 (by decide)
    · exact (wd 10 (by decide)) ▸ zw 10 (by decide)
    · exact (wd 11 (by decide)) ▸ zw 11 (by decide)
    · exact (wd 12 (by decide)) ▸ zw 12 (by decide)
    · exact (wd 13 (by decide)) ▸ zw 13 (by decide)
    · exact (wd 14 (by decide)) ▸ zw 14 (by decide)
    · show va_Z _ _ _ (.ref (v42 ev)) A s s.heap
      rw [ev42]
      exact va_Zof hl.1 hl.2 htd hA
    · show va_Z _ _ _ (.ref (v43 ev)) A s s.heap
      rw [ev43]
      exact va_Zof hl.1 hl.2 hta hA
    · exact va_Zof hl.1 hl.2 (va_eqt (hf _ e_cs.1)) hA
    · show va_Z _ _ _ (va_rf (vF ev)) A s s.heap
      rw [evF]
      exact va_Zof hl.1 hl.2 hvf hA
  · -- Words' fields
    intro i hi
    rw [evA, evW, evS]
    exact ⟨vk_OFof (hev i hi) (va_eqt (hf _ (e_re ⟨i, hi⟩))) hA, vk_OFof (hev i hi) (va_eqv (hf _ (e_sp ⟨i, hi⟩)) (hsa (i + 1) (by omega) (by omega)).1) hA⟩
  · intro i j hi hj e
    rw [evW] at e
    exact hE.2 i j hi hj e
  · intro i h1 h2
    rw [evA, evS, evB]
    exact (hsa i h1 h2).2
  · rw [evA, ev42]
    exact hTd
  · rw [evA, ev43, evW]
    exact hTa
  · rw [evA, ev44, evXn, evXs]
    obtain ⟨scr, x1, x2, x3, x4, x5⟩ := hX
    refine ⟨scr, x1, x2, x3, ?_, ?_, ?_, hA b hbl⟩
    · rw [x4]; omega
    · rw [x4, show ((L : Int)).toNat = L by omega]
    · intro j hj
      have hj' : j < L := by omega
      show scr.slots[j]? = some (Value.int (Int32.ofInt (if (j : Int) = -1 then (L : Int) else (xs (j : Int).toNat).toInt)))
      rw [x5 j hj', if_neg (show ¬ ((j : Nat) : Int) = -1 by omega), show ((j : Nat) : Int).toNat = j by omega, Int32.ofInt_toInt]
  · intro j
    rw [evXs]
    show in32 (if j = -1 then (L : Int) else (xs j.toNat).toInt)
    by_cases hj : j = -1
    · rw [if_pos hj]
      exact ⟨by omega, by omega⟩
    · rw [if_neg hj]
      exact ⟨Int32.le_toInt _, Int32.toInt_lt _⟩
  · rw [evXn]; omega
  · rw [evXn]; omega
  · intro q hq
    rw [evS]
    obtain ⟨g1, g2, g3, g4, g5⟩ := t_rf q hq
    refine vk_R.of (hts _ g1) ?_
    have := (hsa q.2.2.2 g4 g5).1
    unfold stT at this
    rw [← g2, ← g3] at this
    exact this
  · intro q hq
    obtain ⟨a, c, cA, kA, q1, -⟩ := Cond.exactly_spec (args := #[Value.ref b]) (first := s) (o := none) (s := s) (idx := []) (hf _ (e_mx q hq))
    exact ⟨a, vk_R.of (hts _ (t_ms q hq)) q1⟩
  · rw [evA]
    exact vx_Zqof (hts _ t_lb.1) (hts _ t_lb.2.2) (hf _ e_cs.2.2.1) hA
  · rw [evA]
    exact vx_Zqof (hts _ t_lb.2.1) (hts _ t_lb.2.2) (hf _ e_cs.2.2.2) hA
  · intro w hw
    exact va_Nw.of (nest_tabs (gn_nest hw)) (hts _ (List.mem_filter.mp hw).1)
  · exact va_AO.of (hts _ t_ac.2.2.2.2)
  · intro q hq
    exact va_Nc.of (hf _ (e_nc q hq))
  · rw [evD]
    exact hDd
  · intro k q hq
    unfold tysV at hq
    rw [evC, hcc.1, hcc.2.1, hcc.2.2.1, hcc.2.2.2.1, hcc.2.2.2.2] at hq
    match k, hq with
    | 0, hq => cases hq; exact k30
    | 1, hq => cases hq; exact k31
    | 2, hq => cases hq; exact k32
    | 3, hq => cases hq; exact k33
    | 4, hq => cases hq; exact k34
    | n + 5, hq => cases hq
  · rw [evN]
    exact Nat.le_refl _
