section SdOp
variable {p : Program} {l : Launch} {e : Env} {R : Room} {s : State} {m : MethodId} {args : Array Value} {below : List Frame} {meth : Method} {cd : Code} {Q : State → Prop} {cc : ByteArray} {ev : sV} {nL : Nat} {ad0 : Nat → Nat} {g0 : aG}
variable {pc n : Nat} {L st r : List aV} {mm : aM} {X : aX} {c' : aC} {own : String} {K : aK}
theorem w32_ok (f : Int → Int → Int) (a b : Int) : in32 (w32 (f a b)) := in32_w _
theorem aLoad_i {nx : Nat} (h : aLoad .iaload nx L st mm X = some c') : ∃ k t x r, st = (0, k) :: (t, x) :: r ∧ (t = 31 ∧ aALd k (aLen X x) (0, mm x k) nx L r mm X = some c' ∨ t = 44 ∧ aALd k (mm x (-1)) (0, mm x k) nx L r mm X = some c' ∨ t = 42 ∧ aALd k 12 (0, dDay k) nx L r mm X = some c') := by
  unfold aLoad at h
  split at h
  · rename_i k t x r
    refine ⟨k, t, x, r, rfl, ?_⟩
    by_cases h1 : t = 31
    · subst h1; exact Or.inl ⟨rfl, h⟩
    by_cases h2 : t = 44
    · subst h2; exact Or.inr (Or.inl ⟨rfl, h⟩)
    by_cases h3 : t = 42
    · subst h3; exact Or.inr (Or.inr ⟨rfl, h⟩)
    exfalso
    split at h <;> first | (simp_all; done) | cases h
  · cases h
theorem aLoad_c {nx : Nat} (h : aLoad .caload nx L st mm X = some c') : ∃ k x r, st = (0, k) :: (30, x) :: r ∧ aALd k (aLen X x) (0, mm x k) nx L r mm X = some c' := by
  unfold aLoad at h
  split at h
  · rename_i k t x r
    by_cases h1 : t = 30
    · subst h1; exact ⟨k, x, r, rfl, h⟩
    exfalso
    split at h <;> first | (simp_all; done) | cases h
  · cases h
theorem aLoad_l {nx : Nat} (h : aLoad .laload nx L st mm X = some c') : ∃ k x r, st = (0, k) :: (32, x) :: r ∧ aALd k (aLen X x) (1, mm x k) nx L r mm X = some c' := by
  unfold aLoad at h
  split at h
  · rename_i k t x r
    by_cases h1 : t = 32
    · subst h1; exact ⟨k, x, r, rfl, h⟩
    exfalso
    split at h <;> first | (simp_all; done) | cases h
  · cases h
theorem aLoad_b {nx : Nat} (h : aLoad .baload nx L st mm X = some c') : ∃ k t x r, st = (0, k) :: (t, x) :: r ∧ (t = 33 ∧ aALd k (aLen X x) (0, mm x k) nx L r mm X = some c' ∨ t = 46 ∧ aALd k (sLen x) (0, sAt x k) nx L r mm X = some c') := by
  unfold aLoad at h
  split at h
  · rename_i k t x r
    refine ⟨k, t, x, r, rfl, ?_⟩
    by_cases h1 : t = 33
    · subst h1; exact Or.inl ⟨rfl, h⟩
    by_cases h2 : t = 46
    · subst h2; exact Or.inr ⟨rfl, h⟩
    exfalso
    split at h <;> first | (simp_all; done) | cases h
  · cases h
theorem aLoad_a {nx : Nat} (h : aLoad .aaload nx L st mm X = some c') : ∃ k t x r, st = (0, k) :: (t, x) :: r ∧ (t = 34 ∧ (if 0 ≤ k ∧ k < aLen X x then (if aRf X x k = 0 then none else some (nx, L, ((15, aRf X x k) : aV) :: r, mm, X)) else none) = some c' ∨ t = 43 ∧ aALd k 15 (40, k + 1) nx L r mm X = some c') := by
  unfold aLoad at h
  split at h
  · rename_i k t x r
    refine ⟨k, t, x, r, rfl, ?_⟩
    by_cases h1 : t = 34
    · subst h1; exact Or.inl ⟨rfl, h⟩
    by_cases h2 : t = 43
    · subst h2; exact Or.inr ⟨rfl, h⟩
    exfalso
    split at h <;> first | (simp_all; done) | cases h
  · cases h
theorem aStore_i {nx : Nat} (h : aStore .iastore nx L st mm X = some c') : ∃ v k x r, st = (0, v) :: (0, k) :: (31, x) :: r ∧ aASt k (aLen X x) x v nx L r mm X = some c' := by
  unfold aStore at h
  split at h
  · rename_i u v k t x r
    by_cases h1 : t = 31 ∧ u = 0
    · obtain ⟨rfl, rfl⟩ := h1; exact ⟨v, k, x, r, rfl, h⟩
    exfalso
    split at h <;> first | (simp_all; done) | cases h
  · cases h
theorem aStore_c {nx : Nat} (h : aStore .castore nx L st mm X = some c') : ∃ v k x r, st = (0, v) :: (0, k) :: (30, x) :: r ∧ aASt k (aLen X x) x (v % 65536) nx L r mm X = some c' := by
  unfold aStore at h
  split at h
  · rename_i u v k t x r
    by_cases h1 : t = 30 ∧ u = 0
    · obtain ⟨rfl, rfl⟩ := h1; exact ⟨v, k, x, r, rfl, h⟩
    exfalso
    split at h <;> first | (simp_all; done) | cases h
  · cases h
theorem aStore_b {nx : Nat} (h : aStore .bastore nx L st mm X = some c') : ∃ v k x r, st = (0, v) :: (0, k) :: (33, x) :: r ∧ (v = 0 ∨ v = 1) ∧ aASt k (aLen X x) x v nx L r mm X = some c' := by
  unfold aStore at h
  split at h
  · rename_i u v k t x r
    by_cases h1 : t = 33 ∧ u = 0
    · obtain ⟨rfl, rfl⟩ := h1
      have h : (if v = 0 ∨ v = 1 then aASt k (aLen X x) x v nx L r mm X else none) = some c' := h
      by_cases hz : v = 0 ∨ v = 1
      · rw [if_pos hz] at h
        exact ⟨v, k, x, r, rfl, hz, h⟩
      · rw [if_neg hz] at h; cases h
    exfalso
    split at h <;> first | (simp_all; done) | cases h
  · cases h
theorem aStore_l {nx : Nat} (h : aStore .lastore nx L st mm X = some c') : ∃ v k x r, st = (1, v) :: (0, k) :: (32, x) :: r ∧ aASt k (aLen X x) x v nx L r mm X = some c' := by
  unfold aStore at h
  split at h
  · rename_i u v k t x r
    by_cases h1 : t = 32 ∧ u = 1
    · obtain ⟨rfl, rfl⟩ := h1; exact ⟨v, k, x, r, rfl, h⟩
    exfalso
    split at h <;> first | (simp_all; done) | cases h
  · cases h
theorem aStore_a {nx : Nat} (h : aStore .aastore nx L st mm X = some c') : ∃ v k x r, st = (15, v) :: (0, k) :: (34, x) :: r ∧ (if 0 ≤ k ∧ k < aLen X x then some (nx, L, r, mm, aPutR X x k v) else none) = some c' := by
  unfold aStore at h
  split at h
  · rename_i u v k t x r
    by_cases h1 : t = 34 ∧ u = 15
    · obtain ⟨rfl, rfl⟩ := h1; exact ⟨v, k, x, r, rfl, h⟩
    exfalso
    split at h <;> first | (simp_all; done) | cases h
  · cases h
theorem aLen_inv {nx : Nat} (h : aOp K .arraylength nx pc L st mm X = some c') : ∃ t x r, st = (t, x) :: r ∧ (t = 46 ∧ c' = (nx, L, (0, sLen x) :: r, mm, X) ∨ t = 43 ∧ c' = (nx, L, (0, 15) :: r, mm, X) ∨ t = 42 ∧ c' = (nx, L, (0, 12) :: r, mm, X) ∨ t = 44 ∧ c' = (nx, L, (0, mm x (-1)) :: r, mm, X) ∨ 30 ≤ t ∧ t ≤ 34 ∧ c' = (nx, L, (0, aLen X x) :: r, mm, X)) := by
  unfold aOp at h
  dsimp only at h
  split at h
  · rename_i x r
    exact ⟨46, x, r, rfl, Or.inl ⟨rfl, (Option.some.inj h).symm⟩⟩
  · rename_i x r
    exact ⟨43, x, r, rfl, Or.inr (Or.inl ⟨rfl, (Option.some.inj h).symm⟩)⟩
  · rename_i x r
    exact ⟨42, x, r, rfl, Or.inr (Or.inr (Or.inl ⟨rfl, (Option.some.inj h).symm⟩))⟩
  · rename_i u x r _ _ _
    refine ⟨u, x, r, rfl, ?_⟩
    by_cases hu4 : u = 44
    · rw [if_pos hu4] at h
      exact Or.inr (Or.inr (Or.inr (Or.inl ⟨hu4, (Option.some.inj h).symm⟩)))
    · rw [if_neg hu4] at h
      by_cases hu : 30 ≤ u ∧ u ≤ 34
      · rw [if_pos hu] at h
        exact Or.inr (Or.inr (Or.inr (Or.inr ⟨hu.1, hu.2, (Option.some.inj h).symm⟩)))
      · rw [if_neg hu] at h; cases h
  · cases h
theorem aGet_40 {j ty nx : Nat} (h : aGet (40, j, ty) nx L st mm X = some c') : ∃ x r, st = (40, x) :: r ∧ (if 1 ≤ x ∧ x ≤ 15 then (if ty = 41 then some (nx, L, ((41, x) : aV) :: r, mm, X) else some (nx, L, (0, wRes x) :: r, mm, X)) else none) = some c' := by
  unfold aGet at h
  split at h
  · rename_i u x r
    by_cases hu : u = 40
    · subst hu
      exact ⟨x, r, rfl, h⟩
    · rw [if_neg hu] at h; cases h
  · cases h
theorem aGet_41 {j ty nx : Nat} (h : aGet (41, j, ty) nx L st mm X = some c') : ∃ x r, st = (41, x) :: r ∧ (if ty = 46 then some (nx, L, ((46, x) : aV) :: r, mm, X) else some (nx, L, (0, 0) :: r, mm, X)) = some c' := by
  unfold aGet at h
  split at h
  · rename_i u x r
    by_cases hu : u = 41
    · subst hu
      exact ⟨x, r, rfl, h⟩
    · rw [if_neg hu] at h; cases h
  · cases h
theorem aInit_inv {k nx : Nat} (h : aOp K (.invokespecial k) nx pc L st mm X = some c') : ∃ u x r, st = (u, x) :: r ∧ K.2.2.2.2.contains k = true ∧ (10 ≤ u ∧ u < 30 ∧ aCat r ≤ 8) ∧ c' = (nx, L, r, mm, X) := by
  unfold aOp at h
  dsimp only at h
  split at h
  · rename_i u x r hk
    by_cases hu : 10 ≤ u ∧ u < 30 ∧ aCat r ≤ 8
    · rw [if_pos hu] at h
      exact ⟨u, x, r, rfl, hk, hu, (Option.some.inj h).symm⟩
    · rw [if_neg hu] at h; cases h
  · cases h
theorem cat_sum (ev : sV) (ad : Nat → Nat) (r : List aV) : ((r.map (cv ev ad)).map fun v => v.category).sum = aCat r := by
  induction r with
  | nil => rfl
  | cons v r ih =>
    simp only [List.map_cons, List.sum_cons] at ih ⊢
    rw [ih, cv_cat]
    rfl
theorem dDay_in (k : Int) : in32 (dDay k) := by
  have : ∀ j, j < 12 → -1 ≤ ([31, 28, 31, 30, 31, 30, 31, 31, 30, 31, 30, 31] : List Int).getD j 0 ∧ ([31, 28, 31, 30, 31, 30, 31, 31, 30, 31, 30, 31] : List Int).getD j 0 ≤ 31 := by decide
  unfold dDay in32
  by_cases h : k.toNat < 12
  · have := this _ h
    omega
  · rw [List.getD_eq_getElem?_getD, List.getElem?_eq_none (by simp; omega)]
    decide
theorem kS_in : ∀ l ∈ kStr, l.length < 100 ∧ ∀ v ∈ l, -1 ≤ v ∧ v ≤ 127 := by decide
theorem kS_mem (n : Nat) : (kStr.getD n []) ∈ kStr := by
  by_cases h : n < kStr.length
  · rw [List.getD_eq_getElem?_getD, List.getElem?_eq_getElem h]
    exact List.getElem_mem h
  · rw [List.getD_eq_getElem?_getD, List.getElem?_eq_none (by omega)]
    decide
theorem sAt_in (x k : Int) : in32 (sAt x k) := by
  unfold sAt
  have h := kS_in _ (kS_mem x.toNat)
  by_cases hk : k.toNat < (kStr.getD x.toNat []).length
  · rw [List.getD_eq_getElem?_getD (l := kStr.getD x.toNat []), List.getElem?_eq_getElem hk]
    have := h.2 _ (List.getElem_mem hk)
    exact ⟨by simp only [Option.getD_some]; omega, by simp only [Option.getD_some]; omega⟩
  · rw [List.getD_eq_getElem?_getD (l := kStr.getD x.toNat []), List.getElem?_eq_none (by omega)]
    exact ⟨by decide, by decide⟩
theorem sLen_in (x : Int) : in32 (sLen x) := by
  unfold sLen
  have h := kS_in _ (kS_mem x.toNat)
  exact ⟨by omega, by omega⟩
theorem sLen_0 (x : Int) : 0 ≤ sLen x := by
  unfold sLen
  omega
theorem ofN {x : Int} (h : 0 ≤ x) : Int32.ofNat x.toNat = Int32.ofInt x := by
  show Int32.ofInt ((x.toNat : Nat) : Int) = _
  rw [show ((x.toNat : Nat) : Int) = x by omega]
theorem oInit_i : Cond.instanceMethod objectInit ∈ gw := by decide +kernel
theorem oInit_c : Cond.code objectInit ⟨#[0xb1]⟩ 1 none ∈ gw := by decide +kernel
set_option maxHeartbeats 4000000 in
theorem sd_op (hx : p.tables.exec = Jvm.exec) (hb : cd.code = cc) (hml : cd.maxLocals = nL) (hown : s.vm.findClass own = some m.cls) (hts : ∀ w ∈ gw, w.before args s = true) (hKS : KS ev s s.heap) (hA : ∀ q, s.heap.size ≤ q → vA ev q) (hR : 1 ≤ R.frames ∧ 30 ≤ R.locals) {i : Instr} (hP : pOK own K) (hin : ∀ k f, i = .putfield k → K.1.lookup k = some f → (10 ≤ f.1 ∧ f.1 < 19) ∧ (wt f.2.2 → meth.name = "<init>" ∧ ∀ C T N, vwCl[f.1 - 10]? = some (C, T, N) → C = own ∧ Cond.fieldLink own k C (T f.2.1).2.1 (T f.2.1).2.2.1 ∈ gw)) (hi : iB nL pc n i = true) (hik : iKB own K i = true) (hd : decode cc pc = .ok (i, n))
    (hroom : c'.2.2.2.2.2.1 ≤ R.cells ∧ c'.2.2.2.2.2.2 ≤ R.slots) (h : aOp K i (pc + n) pc L st mm X = some c') (kk : sJ p l e R s m args below meth cd ev nL ad0 g0 Q c') : sJ p l e R s m args below meth cd ev nL ad0 g0 Q (pc, L, st, mm, X) := by
  have hK := hKS.2.2.2.2.2.2.2.2.2.2.2.2.2.2.1
  have hgn := hKS.2.2.2.2.2.2.2.2.2.2.2.1
  cases i with
  | iconst v =>
    obtain ⟨rfl, h1, h2⟩ := of_decide_eq_true hi
    cases h
    exact sd_int ⟨by omega, by omega⟩ (fun H locs ls rest kk => lv_iconst hx hb hd rfl kk) kk
  | bipush v =>
    obtain ⟨rfl, h1, h2⟩ := of_decide_eq_true hi
    cases h
    refine sd_int ⟨by omega, by omega⟩ (fun H locs ls rest kk => lv_bipush hx hb hd ?_ kk) kk
    apply Int32.toInt_inj.mp
    rw [Int8.toInt_toInt32, Int8.toInt_ofInt_of_le h1 h2, t32 ⟨by omega, by omega⟩]
  | sipush v =>
    obtain ⟨rfl, h1, h2⟩ := of_decide_eq_true hi
    cases h
    refine sd_int ⟨by omega, by omega⟩ (fun H locs ls rest kk => lv_sipush hx hb hd ?_ kk) kk
    apply Int32.toInt_inj.mp
    rw [Int16.toInt_toInt32, Int16.toInt_ofInt_of_le h1 h2, t32 ⟨by omega, by omega⟩]
  | lconst v =>
    obtain rfl := of_decide_eq_true hi
    cases h
    refine sd_long ⟨by omega, by omega⟩ (fun H locs ls rest kk => lv_lconst hx hb hd rfl kk) kk
  | ldc k =>
    obtain rfl := of_decide_eq_true hi
    have h : (match (generalizing := false) K.2.1.lookup k with | some v => some (pc + 2, L, v :: st, mm, X) | none => none) = some c' := h
    unfold iKB at hik
    dsimp only at hik
    cases hl : K.2.1.lookup k with
    | none => rw [hl] at h; cases h
    | some v =>
      rw [hl] at h hik
      cases h
      obtain ⟨t, x⟩ := v
      dsimp only at hik
      rw [Bool.or_eq_true] at hik
      rcases hik with hik | hik
      · simp only [Bool.and_eq_true, decide_eq_true_eq] at hik
        obtain ⟨⟨rfl, a⟩, b⟩ := hik
        exact sd_int a (fun H locs ls rest kk => lv_ldc hx hb hown (hts _ b) hd kk) kk
      · simp only [Bool.and_eq_true, decide_eq_true_eq, List.any_eq_true] at hik
        obtain ⟨⟨rfl, a⟩, q, q1, q2, q3, q4⟩ := hik
        refine sJ_st (fun hw => hw.push (v := (41, x)) ⟨by show ¬ (41 : Nat) = 99; decide, a⟩) (fun ad H locs ls hw hH _ kk => ?_) kk
        have := hKS.2.2.2.2.2.2.2.1 q q1
        rw [q2, q3, q4] at this
        exact va_ldcS hx hb hown this hd kk
  | ldc2_w k =>
    obtain rfl := of_decide_eq_true hi
    have h : (match (generalizing := false) K.2.1.lookup k with | some v => some (pc + 3, L, v :: st, mm, X) | none => none) = some c' := h
    unfold iKB at hik
    dsimp only at hik
    cases hl : K.2.1.lookup k with
    | none => rw [hl] at h; cases h
    | some v =>
      rw [hl] at h hik
      cases h
      obtain ⟨t, x⟩ := v
      simp only [Bool.and_eq_true, decide_eq_true_eq] at hik
      obtain ⟨⟨rfl, a⟩, b⟩ := hik
      exact sd_long a (fun H locs ls rest kk => lv_ldc2 hx hb hown (hts _ b) hd kk) kk
  | getstatic k =>
    obtain rfl := of_decide_eq_true hi
    have h : (match (generalizing := false) K.2.1.lookup k with | some v => some (pc + 3, L, v :: st, mm, X) | none => none) = some c' := h
    unfold iKB at hik
    dsimp only at hik
    cases hl : K.2.1.lookup k with
    | none => rw [hl] at h; cases h
    | some v =>
      rw [hl] at h hik
      cases h
      simp only [Bool.and_eq_true, Bool.or_eq_true, decide_eq_true_eq, List.any_eq_true] at hik
      obtain ⟨q, q1, q2, q3⟩ := hik
      refine sd_gets hx hb hown hts hKS ⟨q.1, q.2.1, q.2.2.1, ?_, q3⟩ hd kk
      rw [← q2]
      exact q1
  | iload k =>
    obtain rfl := of_decide_eq_true hi
    exact sd_ld0 (fun H locs ls rest x hl kk => lv_iload hx hb hd hl kk) h kk
  | iload_n k =>
    obtain rfl := of_decide_eq_true hi
    exact sd_ld0 (fun H locs ls rest x hl kk => lv_iload_n hx hb hd rfl hl kk) h kk
  | lload k =>
    obtain rfl := of_decide_eq_true hi
    exact sd_ld1 (fun H locs ls rest x hl kk => lv_lload hx hb hd hl kk) h kk
  | lload_n k =>
    obtain rfl := of_decide_eq_true hi
    exact sd_ld1 (fun H locs ls rest x hl kk => lv_lload_n hx hb hd rfl hl kk) h kk
  | aload k =>
    obtain rfl := of_decide_eq_true hi
    exact sd_ldR (fun H locs ls rest x hl kk => lv_aload hx hb hd hl kk) (fun H locs ls rest hl kk => lv_aloadN hx hb hd hl kk) h kk
  | aload_n k =>
    obtain rfl := of_decide_eq_true hi
    exact sd_ldR (fun H locs ls rest x hl kk => lv_aload_n hx hb hd rfl hl kk) (fun H locs ls rest hl kk => lv_aload_nN hx hb hd rfl hl kk) h kk
  | istore k =>
    obtain ⟨rfl, h1⟩ := of_decide_eq_true hi
    exact sd_stI h1 (fun H locs ls rest x lv lv' hh hl kk => lv_istore hx hb hd hh h1 hl kk) h kk
  | istore_n k =>
    obtain ⟨rfl, h1⟩ := of_decide_eq_true hi
    exact sd_stI h1 (fun H locs ls rest x lv lv' hh hl kk => lv_istore_n hx hb hd rfl hh h1 hl kk) h kk
  | lstore k =>
    obtain ⟨rfl, h1⟩ := of_decide_eq_true hi
    exact sd_stL h1 (fun H locs ls rest x lv lv' hh hl kk => lv_lstore hx hb hd hh h1 hl kk) h kk
  | lstore_n k =>
    obtain ⟨rfl, h1⟩ := of_decide_eq_true hi
    exact sd_stL h1 (fun H locs ls rest x lv lv' hh hl kk => lv_lstore_n hx hb hd rfl hh h1 hl kk) h kk
  | astore k =>
    obtain ⟨rfl, h1⟩ := of_decide_eq_true hi
    exact sd_stR h1 (fun H locs ls rest x lv lv' hh hl kk => lv_astore hx hb hd hh h1 hl kk) (fun H locs ls rest lv lv' hh hl kk => lv_astoreN hx hb hd hh h1 hl kk) h kk
  | astore_n k =>
    obtain ⟨rfl, h1⟩ := of_decide_eq_true hi
    exact sd_stR h1 (fun H locs ls rest x lv lv' hh hl kk => lv_astore_n hx hb hd rfl hh h1 hl kk) (fun H locs ls rest lv lv' hh hl kk => lv_astore_nN hx hb hd rfl hh h1 hl kk) h kk
  | iinc k v =>
    obtain ⟨rfl, h1, h2, h3⟩ := of_decide_eq_true hi
    have h : (match (generalizing := false) L[k]? with | some (0, x) => some (pc + 3, aSt1 L k (0, w32 (x + v)), st, mm, X) | _ => none) = some c' := h
    split at h
    · rename_i x hk
      cases h
      intro ad H locs ls g1 g2 g3 g4 g5
      have hm : (k, Value.int (Int32.ofInt x)) ∈ lLs ev ad L := lLs_mem.mpr ⟨(0, x), hk, n99_0 _, rfl⟩
      obtain ⟨j, hj⟩ := List.getElem?_of_mem hm
      refine lv_iinc (v := Int32.ofInt (w32 (x + v))) hx hb hd g5.has hj (by rw [ow32, Int32.ofInt_add]) h1 rfl (fun ls' hl' => ?_)
      refine kk ad H locs ls' g1 g2 (g3.sto (fun w hw hn => ?_) (fun v hv => hv)) g4 (lR.st1 (v := (0, w32 (x + v))) g5.1 h1 hl')
      rcases aSt1_mem hw hn with rfl | hm
      · exact in32_w _
      · exact g3.1 w hm hn
    · cases h
  | iadd =>
    obtain rfl := of_decide_eq_true hi
    exact sd_i2 (fun a b _ _ => ⟨in32_w _, by rw [ow32, Int32.ofInt_add]⟩) (fun H locs ls rest x y kk => lv_iadd hx hb hd kk) h kk
  | isub =>
    obtain rfl := of_decide_eq_true hi
    exact sd_i2 (fun a b _ _ => ⟨in32_w _, by rw [ow32, Int32.ofInt_sub]⟩) (fun H locs ls rest x y kk => lv_isub hx hb hd kk) h kk
  | imul =>
    obtain rfl := of_decide_eq_true hi
    exact sd_i2 (fun a b _ _ => ⟨in32_w _, by rw [ow32, Int32.ofInt_mul]⟩) (fun H locs ls rest x y kk => lv_imul hx hb hd kk) h kk
  | iand =>
    obtain rfl := of_decide_eq_true hi
    exact sd_i2 (fun a b _ _ => ⟨in32_i _, (o32 _).symm⟩) (fun H locs ls rest x y kk => lv_iand hx hb hd kk) h kk
  | ior =>
    obtain rfl := of_decide_eq_true hi
    exact sd_i2 (fun a b _ _ => ⟨in32_i _, (o32 _).symm⟩) (fun H locs ls rest x y kk => lv_ior hx hb hd kk) h kk
  | ixor =>
    obtain rfl := of_decide_eq_true hi
    exact sd_i2 (fun a b _ _ => ⟨in32_i _, (o32 _).symm⟩) (fun H locs ls rest x y kk => lv_ixor hx hb hd kk) h kk
  | ishl =>
    obtain rfl := of_decide_eq_true hi
    exact sd_i2 (g := fun x y => x <<< (y &&& 31)) (fun a b _ _ => ⟨in32_i _, (o32 _).symm⟩) (fun H locs ls rest x y kk => lv_ishl hx hb hd kk) h kk
  | ishr =>
    obtain rfl := of_decide_eq_true hi
    exact sd_i2 (g := fun x y => x >>> (y &&& 31)) (fun a b _ _ => ⟨in32_i _, (o32 _).symm⟩) (fun H locs ls rest x y kk => lv_ishr hx hb hd kk) h kk
  | iushr =>
    obtain rfl := of_decide_eq_true hi
    exact sd_i2 (g := fun x y => (x.toUInt32 >>> (y.toUInt32 &&& Int32.toUInt32 31)).toInt32) (fun a b _ _ => ⟨in32_i _, (o32 _).symm⟩) (fun H locs ls rest x y kk => lv_iushr hx hb hd rfl kk) h kk
  | ladd =>
    obtain rfl := of_decide_eq_true hi
    exact sd_l2 (fun a b _ _ => ⟨in64_w _, by rw [ow64, Int64.ofInt_add]⟩) (fun H locs ls rest x y kk => lv_ladd hx hb hd kk) h kk
  | lsub =>
    obtain rfl := of_decide_eq_true hi
    exact sd_l2 (fun a b _ _ => ⟨in64_w _, by rw [ow64, Int64.ofInt_sub]⟩) (fun H locs ls rest x y kk => lv_lsub hx hb hd kk) h kk
  | lmul =>
    obtain rfl := of_decide_eq_true hi
    exact sd_l2 (fun a b _ _ => ⟨in64_w _, by rw [ow64, Int64.ofInt_mul]⟩) (fun H locs ls rest x y kk => lv_lmul hx hb hd kk) h kk
  | land =>
    obtain rfl := of_decide_eq_true hi
    exact sd_l2 (fun a b _ _ => ⟨in64_i _, (o64 _).symm⟩) (fun H locs ls rest x y kk => lv_land hx hb hd kk) h kk
  | lor =>
    obtain rfl := of_decide_eq_true hi
    exact sd_l2 (fun a b _ _ => ⟨in64_i _, (o64 _).symm⟩) (fun H locs ls rest x y kk => lv_lor hx hb hd kk) h kk
  | lshl =>
    obtain rfl := of_decide_eq_true hi
    exact sd_ls (g := fun x y => x <<< (y.toInt64 &&& 63)) (fun a b _ _ => ⟨in64_i _, (o64 _).symm⟩) (fun H locs ls rest x y kk => lv_lshl hx hb hd rfl kk) h kk
  | lshr =>
    obtain rfl := of_decide_eq_true hi
    exact sd_ls (g := fun x y => x >>> (y.toInt64 &&& 63)) (fun a b _ _ => ⟨in64_i _, (o64 _).symm⟩) (fun H locs ls rest x y kk => lv_lshr hx hb hd rfl kk) h kk
  | lushr =>
    obtain rfl := of_decide_eq_true hi
    exact sd_ls (g := fun x y => (x.toUInt64 >>> (y.toInt64.toUInt64 &&& Int64.toUInt64 63)).toInt64) (fun a b _ _ => ⟨in64_i _, (o64 _).symm⟩) (fun H locs ls rest x y kk => lv_lushr hx hb hd rfl kk) h kk
  | irem =>
    obtain rfl := of_decide_eq_true hi
    have h : (match (generalizing := false) st with | (0, b) :: (0, a) :: r => if b = 0 then none else some (pc + 1, L, (0, Int.tmod a b) :: r, mm, X) | _ => none) = some c' := h
    split at h
    · rename_i b a r _
      by_cases hb0 : b = 0
      · rw [if_pos hb0] at h; cases h
      · rw [if_neg hb0] at h
        cases h
        refine sJ_st (fun hw => (wC.pop (nx := pc) (wC.pop (nx := pc) hw)).push (v := (0, Int.tmod a b)) ⟨n99_0 _, in32_tmod hw.top2.2 hw.top.2⟩) (fun ad H locs ls hw hH _ kk => ?_) kk
        refine lv_irem hx hb hd (fun q => hb0 ((i32_eq hw.top.2 in32_0).mp q)) ?_
        rw [i32_rem hw.top2.2 hw.top.2]
        exact kk
    · cases h
  | ldiv =>
    obtain rfl := of_decide_eq_true hi
    have h : (match (generalizing := false) st with | (1, b) :: (1, a) :: r => if b = 0 then none else some (pc + 1, L, (1, w64 (Int.tdiv a b)) :: r, mm, X) | _ => none) = some c' := h
    split at h
    · rename_i b a r _
      by_cases hb0 : b = 0
      · rw [if_pos hb0] at h; cases h
      · rw [if_neg hb0] at h
        cases h
        refine sJ_st (fun hw => (wC.pop (nx := pc) (wC.pop (nx := pc) hw)).push (v := (1, w64 (Int.tdiv a b))) ⟨n99_1 _, in64_w _⟩) (fun ad H locs ls hw hH _ kk => ?_) kk
        refine lv_ldiv hx hb hd (fun q => hb0 ((i64_eq hw.top.2 ⟨by decide, by decide⟩).mp q)) ?_
        rw [i64_div hw.top2.2 hw.top.2]
        exact kk
    · cases h
  | lrem =>
    obtain rfl := of_decide_eq_true hi
    have h : (match (generalizing := false) st with | (1, b) :: (1, a) :: r => if b = 0 then none else some (pc + 1, L, (1, Int.tmod a b) :: r, mm, X) | _ => none) = some c' := h
    split at h
    · rename_i b a r _
      by_cases hb0 : b = 0
      · rw [if_pos hb0] at h; cases h
      · rw [if_neg hb0] at h
        cases h
        refine sJ_st (fun hw => (wC.pop (nx := pc) (wC.pop (nx := pc) hw)).push (v := (1, Int.tmod a b)) ⟨n99_1 _, in64_tmod hw.top2.2 hw.top.2⟩) (fun ad H locs ls hw hH _ kk => ?_) kk
        refine lv_lrem hx hb hd (fun q => hb0 ((i64_eq hw.top.2 ⟨by decide, by decide⟩).mp q)) ?_
        rw [i64_rem hw.top2.2 hw.top.2]
        exact kk
    · cases h
  | lneg =>
    obtain rfl := of_decide_eq_true hi
    have h : (match (generalizing := false) st with | (1, a) :: r => some (pc + 1, L, (1, w64 (-a)) :: r, mm, X) | _ => none) = some c' := h
    split at h
    · rename_i a r _
      cases h
      refine sJ_st (fun hw => (wC.pop (nx := pc) hw).push (v := (1, w64 (-a))) ⟨n99_1 _, in64_w _⟩) (fun ad H locs ls hw hH _ kk => ?_) kk
      refine lv_lneg hx hb hd ?_
      rw [← Int64.ofInt_neg, ← ow64 (-a)]
      exact kk
    · cases h
  | lcmp =>
    obtain rfl := of_decide_eq_true hi
    have h : (match (generalizing := false) st with | (1, b) :: (1, a) :: r => some (pc + 1, L, (0, cmp3 a b) :: r, mm, X) | _ => none) = some c' := h
    split at h
    · rename_i b a r _
      cases h
      refine sJ_st (fun hw => (wC.pop (nx := pc) (wC.pop (nx := pc) hw)).push (v := (0, cmp3 a b)) ⟨n99_0 _, in32_cmp _ _⟩) (fun ad H locs ls hw hH _ kk => ?_) kk
      refine W.lcmp hx hb hd ?_
      rw [i64_cmp hw.top2.2 hw.top.2]
      exact kk
    · cases h
  | i2l =>
    obtain rfl := of_decide_eq_true hi
    have h : (match (generalizing := false) st with | (0, a) :: r => some (pc + 1, L, (1, a) :: r, mm, X) | _ => none) = some c' := h
    split at h
    · rename_i a r _
      cases h
      refine sJ_st (fun hw => (wC.pop (nx := pc) hw).push (v := (1, a)) ⟨n99_1 _, ?_⟩) (fun ad H locs ls hw hH _ kk => ?_) kk
      · have : in32 a := hw.top.2
        obtain ⟨h1, h2⟩ := this
        show in64 a
        exact ⟨by omega, by omega⟩
      · exact lv_i2l hx hb hd (i32_64 hw.top.2) kk
    · cases h
  | l2i =>
    obtain rfl := of_decide_eq_true hi
    have h : (match (generalizing := false) st with | (1, a) :: r => some (pc + 1, L, (0, w32 a) :: r, mm, X) | _ => none) = some c' := h
    split at h
    · rename_i a r _
      cases h
      refine sJ_st (fun hw => (wC.pop (nx := pc) hw).push (v := (0, w32 a)) ⟨n99_0 _, in32_w _⟩) (fun ad H locs ls hw hH _ kk => ?_) kk
      exact lv_l2i hx hb hd ((i64_32 a).trans (ow32 a).symm) kk
    · cases h
  | i2c =>
    obtain rfl := of_decide_eq_true hi
    have h : (match (generalizing := false) st with | (0, a) :: r => some (pc + 1, L, (0, a % 65536) :: r, mm, X) | _ => none) = some c' := h
    split at h
    · rename_i a r _
      cases h
      refine sJ_st (fun hw => (wC.pop (nx := pc) hw).push (v := (0, a % 65536)) ⟨n99_0 _, ?_⟩) (fun ad H locs ls hw hH _ kk => ?_) kk
      · show in32 _
        exact ⟨by omega, by omega⟩
      · exact lv_i2c hx hb hd (i32_c a) kk
    · cases h
  | dup =>
    obtain rfl := of_decide_eq_true hi
    have h : (match (generalizing := false) st with | (u, a) :: r => if u = 1 then none else some (pc + 1, L, (u, a) :: (u, a) :: r, mm, X) | _ => none) = some c' := h
    split at h
    · rename_i u a r _
      by_cases hu : u = 1
      · rw [if_pos hu] at h; cases h
      · rw [if_neg hu] at h
        cases h
        refine sJ_st (fun hw => hw.push hw.top) (fun ad H locs ls hw hH _ kk => ?_) kk
        exact lv_dup hx hb hd (by rw [cv_cat]; exact if_neg hu) kk
    · cases h
  | dup2 =>
    obtain rfl := of_decide_eq_true hi
    have h : (match (generalizing := false) st with | (u, a) :: (t, b) :: r => if u = 1 ∨ t = 1 then none else some (pc + 1, L, (u, a) :: (t, b) :: (u, a) :: (t, b) :: r, mm, X) | _ => none) = some c' := h
    split at h
    · rename_i u a t b r _
      by_cases hu : u = 1 ∨ t = 1
      · rw [if_pos hu] at h; cases h
      · rw [if_neg hu] at h
        cases h
        refine sJ_st (fun hw => (wC.push (nx := pc) hw hw.top2).push hw.top) (fun ad H locs ls hw hH _ kk => ?_) kk
        exact lv_dup2_11 hx hb hd (by rw [cv_cat]; exact if_neg (fun q => hu (Or.inl q))) (by rw [cv_cat]; exact if_neg (fun q => hu (Or.inr q))) kk
    · cases h
  | pop =>
    obtain rfl := of_decide_eq_true hi
    have h : (match (generalizing := false) st with | (u, _) :: r => if u = 1 then none else some (pc + 1, L, r, mm, X) | _ => none) = some c' := h
    split at h
    · rename_i u a r _
      by_cases hu : u = 1
      · rw [if_pos hu] at h; cases h
      · rw [if_neg hu] at h
        cases h
        refine sJ_st (fun hw => hw.pop) (fun ad H locs ls hw hH _ kk => ?_) kk
        exact lv_pop hx hb hd (by rw [cv_cat]; exact if_neg hu) kk
    · cases h
  | goto off =>
    obtain ⟨rfl, h1⟩ := of_decide_eq_true hi
    cases h
    exact sJ_st (fun hw => hw.stk hw.2.1) (fun ad H locs ls hw hH _ kk => lv_goto hx hb hd (tgt_eq h1) kk) kk
  | if_icmp c off =>
    obtain ⟨rfl, h1⟩ := of_decide_eq_true hi
    have h : (match (generalizing := false) st with | (0, b) :: (0, a) :: r => aCmp c a b (some (aTgt pc off, L, r, mm, X)) (some (pc + 3, L, r, mm, X)) | _ => none) = some c' := h
    split at h
    · rename_i b a r _
      intro ad H locs ls g1 g2 g3 g4 g5
      refine sd_cmp hx hb h1 g3.top2.2 g3.top.2 hd h (fun nx hc => ?_)
      subst hc
      exact sJ_to kk g1 g2 g3 (fun v hv => List.mem_cons_of_mem _ (List.mem_cons_of_mem _ hv)) g4 g5
    · cases h
  | ifCond c off =>
    obtain ⟨rfl, h1⟩ := of_decide_eq_true hi
    have h : (match (generalizing := false) st with | (0, a) :: r => aCmp c a 0 (some (aTgt pc off, L, r, mm, X)) (some (pc + 3, L, r, mm, X)) | _ => none) = some c' := h
    split at h
    · rename_i a r _
      intro ad H locs ls g1 g2 g3 g4 g5
      refine sd_cmp0 hx hb h1 g3.top.2 hd h (fun nx hc => ?_)
      subst hc
      exact sJ_to kk g1 g2 g3 (fun v hv => List.mem_cons_of_mem _ hv) g4 g5
    · cases h
  | if_acmp c off =>
    obtain ⟨rfl, h1⟩ := of_decide_eq_true hi
    have h : (match (generalizing := false) st with | (40, b) :: (40, a) :: r => (match (generalizing := false) c with | .eq => if a = b then some (aTgt pc off, L, r, mm, X) else some (pc + 3, L, r, mm, X) | .ne => if a = b then some (pc + 3, L, r, mm, X) else some (aTgt pc off, L, r, mm, X)) | _ => none) = some c' := h
    split at h
    · rename_i b a r _
      intro ad H locs ls g1 g2 g3 g4 g5
      have he := word_eq hKS g3.top2.2 g3.top.2
      have key : ∀ nx, c' = (nx, L, r, mm, X) → W p l e R s m args below meth cd H locs X.2.1 X.2.2 Q (F0 m nx ls (r.map (cv ev ad))) := by
        intro nx hc
        subst hc
        exact sJ_to kk g1 g2 g3 (fun v hv => List.mem_cons_of_mem _ (List.mem_cons_of_mem _ hv)) g4 g5
      cases c with
      | eq =>
        refine lv_acmp_eq hx hb hd (tgt_eq h1) (fun q => ?_) (fun q => ?_)
        · have h : (if a = b then some (aTgt pc off, L, r, mm, X) else some (pc + 3, L, r, mm, X)) = some c' := h
          rw [if_pos (he.mp q)] at h
          exact key _ (Option.some.inj h).symm
        · have h : (if a = b then some (aTgt pc off, L, r, mm, X) else some (pc + 3, L, r, mm, X)) = some c' := h
          rw [if_neg (fun z => q (he.mpr z))] at h
          exact key _ (Option.some.inj h).symm
      | ne =>
        refine lv_acmp_ne hx hb hd (tgt_eq h1) (fun q => ?_) (fun q => ?_)
        · have h : (if a = b then some (pc + 3, L, r, mm, X) else some (aTgt pc off, L, r, mm, X)) = some c' := h
          rw [if_neg (fun z => q (he.mpr z))] at h
          exact key _ (Option.some.inj h).symm
        · have h : (if a = b then some (pc + 3, L, r, mm, X) else some (aTgt pc off, L, r, mm, X)) = some c' := h
          rw [if_pos (he.mp q)] at h
          exact key _ (Option.some.inj h).symm
    · cases h
  | tableswitch d lo hi' offs =>
    have hi := Bool.and_eq_true_iff.mp hi
    obtain ⟨h1, h2⟩ := of_decide_eq_true hi.1
    have h3 := List.all_eq_true.mp hi.2
    have h : (match (generalizing := false) st with | (0, a) :: r => some (aTgt pc (if lo ≤ a ∧ a ≤ hi' then offs.toList.getD (a - lo).toNat d else d), L, r, mm, X) | _ => none) = some c' := h
    split at h
    · rename_i a r _
      cases h
      intro ad H locs ls g1 g2 g3 g4 g5
      have ha : in32 a := g3.top.2
      have hW := sJ_to kk g1 g2 g3 (fun v hv => List.mem_cons_of_mem _ hv) g4 g5
      show W p l e R s m args below meth cd H locs X.2.1 X.2.2 Q (F0 m pc ls (.int (Int32.ofInt a) :: r.map (cv ev ad)))
      by_cases hin2 : lo ≤ a ∧ a ≤ hi'
      · rw [if_pos hin2] at hW
        have hlt : (a - lo).toNat < offs.toList.length := by
          rw [Array.length_toList]; omega
        have hg : offs[(a - lo).toNat]? = some (offs.toList.getD (a - lo).toNat d) := by
          rw [← Array.getElem?_toList, List.getD_eq_getElem?_getD, List.getElem?_eq_getElem hlt]
          rfl
        have hm : offs.toList.getD (a - lo).toNat d ∈ offs.toList := by
          rw [List.getD_eq_getElem?_getD, List.getElem?_eq_getElem hlt]
          exact List.getElem_mem hlt
        have h4 : 0 ≤ (pc : Int) + offs.toList.getD (a - lo).toNat d := of_decide_eq_true (h3 _ hm)
        exact lv_tableIn hx hb hd (by rw [t32 ha]; omega) (by rw [t32 ha]; omega) (by rw [t32 ha]; exact hg) (tgt_eq h4) hW
      · rw [if_neg hin2] at hW
        exact lv_tableOut hx hb hd (by rw [t32 ha]; omega) (tgt_eq h1) hW
    · cases h
  | iaload =>
    obtain rfl := of_decide_eq_true hi
    obtain ⟨k, t, x, r, rfl, ho⟩ := aLoad_i h
    rcases ho with ⟨rfl, h⟩ | ⟨rfl, h⟩ | ⟨rfl, h⟩
    · exact sd_iald hx hb hK hd h kk
    · obtain ⟨k0, k1, rfl⟩ := aALd_inv h
      refine sJ_st (fun hw => (wC.pop (nx := pc) (wC.pop (nx := pc) hw)).push (v := (0, mm x k)) ⟨n99_0 _, ?_⟩) (fun ad H locs ls hw hH _ kk => ?_) kk
      · have hx1 : x = -1 := hw.top2.2
        show in32 (mm x k)
        rw [hx1, show mm (-1) k = vXs ev k from hw.2.2.2.1 k]
        exact hKS.2.2.2.2.2.2.1.2.1 k
      · have hx1 : x = -1 := hw.top2.2
        have hk : in32 k := hw.top.2
        have hn : mm x (-1) = vXn ev := by rw [hx1]; exact (hw.2.2.2.1 (-1)).trans hw.2.2.2.2
        rw [hn] at k1
        refine va_ti hx hb hKS.2.2.2.2.2.2.1.1 hH.2.2 (i32_in hk k0 k1) ?_ hd kk
        rw [i32_clamp hk, show ((k.toNat : Nat) : Int) = k by omega]
        show _ = Value.int (Int32.ofInt (mm x k))
        rw [hx1, show mm (-1) k = vXs ev k from hw.2.2.2.1 k]
    · obtain ⟨k0, k1, rfl⟩ := aALd_inv h
      refine sJ_st (fun hw => (wC.pop (nx := pc) (wC.pop (nx := pc) hw)).push (v := (0, dDay k)) ⟨n99_0 _, ?_⟩) (fun ad H locs ls hw hH _ kk => ?_) kk
      · show in32 (dDay k)
        exact dDay_in k
      · have hk : in32 k := hw.top.2
        refine va_ti hx hb hKS.2.2.2.2.1 hH.2.2 (i32_in (n := 12) hk k0 k1) ?_ hd kk
        rw [i32_clamp hk, show ((k.toNat : Nat) : Int) = k by omega]
        rfl
  | caload =>
    obtain rfl := of_decide_eq_true hi
    obtain ⟨k, x, r, rfl, h⟩ := aLoad_c h
    exact sd_cald hx hb hK hd h kk
  | laload =>
    obtain rfl := of_decide_eq_true hi
    obtain ⟨k, x, r, rfl, h⟩ := aLoad_l h
    exact sd_lald hx hb hK hd h kk
  | baload =>
    obtain rfl := of_decide_eq_true hi
    obtain ⟨k, t, x, r, rfl, ho⟩ := aLoad_b h
    rcases ho with ⟨rfl, h⟩ | ⟨rfl, h⟩
    · exact sd_zald hx hb hK hd h kk
    · obtain ⟨k0, k1, rfl⟩ := aALd_inv h
      refine sJ_st (fun hw => (wC.pop (nx := pc) (wC.pop (nx := pc) hw)).push (v := (0, sAt x k)) ⟨n99_0 _, ?_⟩) (fun ad H locs ls hw hH _ kk => ?_) kk
      · exact sAt_in x k
      · have hk : in32 k := hw.top.2
        have hv : 1 ≤ x ∧ x ≤ 17 := hw.top2.2
        have hT := (hKS.2.2.2.1 x.toNat (by omega) (by omega)).2.2.2
        rw [show ((x.toNat : Nat) : Int) = x by omega] at hT
        refine va_tb hx hb hT hH.2.2 (i32_in hk k0 k1) ?_ hd kk
        rw [i32_clamp hk, show ((k.toNat : Nat) : Int) = k by omega]
        rfl
  | aaload =>
    obtain rfl := of_decide_eq_true hi
    obtain ⟨k, t, x, r, rfl, ho⟩ := aLoad_a h
    rcases ho with ⟨rfl, h⟩ | ⟨rfl, h⟩
    · exact sd_aald hx hb hK hd h kk
    · obtain ⟨k0, k1, rfl⟩ := aALd_inv h
      refine sJ_st (fun hw => (wC.pop (nx := pc) (wC.pop (nx := pc) hw)).push (v := (40, k + 1)) ⟨by show ¬ (40 : Nat) = 99; decide, (by show 0 ≤ k + 1 ∧ k + 1 ≤ 15; omega)⟩) (fun ad H locs ls hw hH _ kk => ?_) kk
      have hk : in32 k := hw.top.2
      refine vb_tq hx hb hKS.2.2.2.2.2.1 hH.2.2 (i32_in (n := 15) hk k0 k1) ?_ hd kk
      rw [i32_clamp hk]
      show _ = va_rf (if k + 1 = 0 then none else some (vW ev (k + 1 - 1).toNat))
      rw [if_neg (by omega), show (k + 1 - 1).toNat = k.toNat by omega]
      rfl
  | iastore =>
    obtain rfl := of_decide_eq_true hi
    obtain ⟨v, k, x, r, rfl, h⟩ := aStore_i h
    exact sd_iast hx hb hK hd h kk
  | castore =>
    obtain rfl := of_decide_eq_true hi
    obtain ⟨v, k, x, r, rfl, h⟩ := aStore_c h
    exact sd_cast hx hb hK hd h kk
  | bastore =>
    obtain rfl := of_decide_eq_true hi
    obtain ⟨v, k, x, r, rfl, hz, h⟩ := aStore_b h
    exact sd_zast hx hb hK hz hd h kk
  | lastore =>
    obtain rfl := of_decide_eq_true hi
    obtain ⟨v, k, x, r, rfl, h⟩ := aStore_l h
    exact sd_last hx hb hK hd h kk
  | aastore =>
    obtain rfl := of_decide_eq_true hi
    obtain ⟨v, k, x, r, rfl, h⟩ := aStore_a h
    exact sd_aast hx hb hK hd h kk
  | arraylength =>
    obtain rfl := of_decide_eq_true hi
    obtain ⟨t, x, r, rfl, ho⟩ := aLen_inv h
    rcases ho with ⟨rfl, rfl⟩ | ⟨rfl, rfl⟩ | ⟨rfl, rfl⟩ | ⟨rfl, rfl⟩ | ⟨h1, h2, rfl⟩
    · refine sJ_st (fun hw => (wC.pop (nx := pc) hw).push (v := (0, sLen x)) ⟨n99_0 _, sLen_in x⟩) (fun ad H locs ls hw hH _ kk => ?_) kk
      have hv : 1 ≤ x ∧ x ≤ 17 := hw.top.2
      have hT := (hKS.2.2.2.1 x.toNat (by omega) (by omega)).2.2.2
      rw [show ((x.toNat : Nat) : Int) = x by omega] at hT
      exact va_tlen hx hb hT hH.2.2 (ofN (sLen_0 x)) hd kk
    · refine sJ_st (fun hw => (wC.pop (nx := pc) hw).push (v := (0, 15)) ⟨n99_0 _, ⟨by decide, by decide⟩⟩) (fun ad H locs ls hw hH _ kk => ?_) kk
      exact va_tlen hx hb hKS.2.2.2.2.2.1 hH.2.2 rfl hd kk
    · refine sJ_st (fun hw => (wC.pop (nx := pc) hw).push (v := (0, 12)) ⟨n99_0 _, ⟨by decide, by decide⟩⟩) (fun ad H locs ls hw hH _ kk => ?_) kk
      exact va_tlen hx hb hKS.2.2.2.2.1 hH.2.2 rfl hd kk
    · refine sJ_st (fun hw => (wC.pop (nx := pc) hw).push (v := (0, mm x (-1))) ⟨n99_0 _, ?_⟩) (fun ad H locs ls hw hH _ kk => ?_) kk
      · have hx1 : x = -1 := hw.top.2
        have hn : mm x (-1) = vXn ev := by rw [hx1]; exact (hw.2.2.2.1 (-1)).trans hw.2.2.2.2
        show in32 (mm x (-1))
        rw [hn]
        have := hKS.2.2.2.2.2.2.1.2.2
        exact ⟨by omega, by omega⟩
      · have hx1 : x = -1 := hw.top.2
        have hn : mm x (-1) = vXn ev := by rw [hx1]; exact (hw.2.2.2.1 (-1)).trans hw.2.2.2.2
        have kk : W p l e R s m args below meth cd H locs X.2.1 X.2.2 Q (F0 m (pc + 1) ls (.int (Int32.ofInt (mm x (-1))) :: r.map (cv ev ad))) := kk
        rw [hn] at kk
        exact va_tlen hx hb hKS.2.2.2.2.2.2.1.1 hH.2.2 (ofN hKS.2.2.2.2.2.2.1.2.2.1) hd kk
    · exact sd_alen hx hb hK h1 h2 hd kk
  | getfield k =>
    obtain rfl := of_decide_eq_true hi
    have h : (match (generalizing := false) K.1.lookup k with | some f => aGet f (pc + 3) L st mm X | none => none) = some c' := h
    cases hl : K.1.lookup k with
    | none => rw [hl] at h; cases h
    | some f =>
      rw [hl] at h
      have h : aGet f (pc + 3) L st mm X = some c' := h
      rcases hP.1 k f hl with ⟨a1, a2, a3⟩ | ⟨a1, a2⟩ | ⟨a1, a2⟩
      · exact sd_getO hx hb hown hts hgn hK a1 a2 a3 hd h kk
      · obtain ⟨t, j, ty⟩ := f
        dsimp only at a1 a2
        subst a1
        obtain ⟨x, r, rfl, h⟩ := aGet_40 h
        exact sd_getW (j := j) hx hb hown hts hKS a2 hd h kk
      · obtain ⟨t, j, ty⟩ := f
        dsimp only at a1 a2
        subst a1
        obtain ⟨x, r, rfl, h⟩ := aGet_41 h
        exact sd_getS hx hb hown hts hKS a2 hd h kk
  | putfield k =>
    obtain rfl := of_decide_eq_true hi
    have h : (match (generalizing := false) K.1.lookup k with | some f => aPut f (pc + 3) L st mm X | none => none) = some c' := h
    cases hl : K.1.lookup k with
    | none => rw [hl] at h; cases h
    | some f =>
      rw [hl] at h
      have h : aPut f (pc + 3) L st mm X = some c' := h
      rcases hP.1 k f hl with ⟨a1, a2, a3⟩ | ⟨a1, a2⟩ | ⟨a1, a2⟩
      · exact sd_put hx hb hown hts hgn hK a1 a2 a3 (hin k f rfl hl).2 hd h kk
      · have := (hin k f rfl hl).1
        omega
      · have := (hin k f rfl hl).1
        omega
  | new k =>
    obtain rfl := of_decide_eq_true hi
    have h : (match (generalizing := false) K.2.2.1.lookup k with | some (t, n) => some (pc + 3, L, ((t, ((X.1.1 + 1 : Nat) : Int)) : aV) :: st, mm, aMk X t 0 n) | none => none) = some c' := h
    cases hl : K.2.2.1.lookup k with
    | none => rw [hl] at h; cases h
    | some f =>
      rw [hl] at h
      obtain ⟨t, n⟩ := f
      cases h
      exact sd_new hx hb hown hts hK hA (hP.2.1 k t n hl) hd hroom kk
  | newarray t =>
    obtain ⟨rfl, h1⟩ := of_decide_eq_true hi
    have h : (match (generalizing := false) st with | (0, k) :: r => if 0 ≤ k ∧ k < 100000 then some (pc + 2, L, ((aArr t, ((X.1.1 + 1 : Nat) : Int)) : aV) :: r, mm, aMk X (aArr t) k k.toNat) else none | _ => none) = some c' := h
    split at h
    · rename_i k r _
      by_cases hk : 0 ≤ k ∧ k < 100000
      · rw [if_pos hk] at h
        cases h
        exact sd_newa hx hb hts hK hA h1 (of_decide_eq_true hik) hk.1 hk.2 hd hroom kk
      · rw [if_neg hk] at h; cases h
    · cases h
  | anewarray i =>
    obtain rfl := of_decide_eq_true hi
    have h : (match (generalizing := false) st with | (0, k) :: r => if 0 ≤ k ∧ k < 100000 then some (pc + 3, L, ((34, ((X.1.1 + 1 : Nat) : Int)) : aV) :: r, mm, aMk X 34 k k.toNat) else none | _ => none) = some c' := h
    split at h
    · rename_i k r _
      by_cases hk : 0 ≤ k ∧ k < 100000
      · rw [if_pos hk] at h
        cases h
        exact sd_newq hx hb hown hts hK hA (of_decide_eq_true hik) hKS.2.2.2.2.2.2.2.2.2.2.2.2.1 hk.1 hk.2 hd hroom kk
      · rw [if_neg hk] at h; cases h
    · cases h
  | invokespecial k =>
    obtain rfl := of_decide_eq_true hi
    obtain ⟨u, x, r, rfl, hk, hu, rfl⟩ := aInit_inv h
    refine sJ_st (fun hw => hw.pop) (fun ad H locs ls hw hH hl kk => ?_) kk
    show W p l e R s m args below meth cd H locs X.2.1 X.2.2 Q (F0 m pc ls (cv ev ad (u, x) :: r.map (cv ev ad)))
    have hv : wt u := by
      have h1 := (wv_gen (by omega)).mp hw.top.2
      have h2 := (hw.2.2.1.1 x h1.1 h1.2.1).1
      rw [show (pc, L, (u, x) :: r, mm, X).2.2.2.2.1.2.1 x = u from h1.2.2] at h2
      exact h2
    rw [cv_w ev ad x hv]
    have hsum : ((r.map (cv ev ad)).map fun v => v.category).sum ≤ 8 := by rw [cat_sum]; exact hu.2.2
    exact W.objInit hx hb hown (hts _ (hP.2.2 k hk)) (hts _ oInit_i) (hts _ oInit_c) rfl (by rw [hml]; exact hl.2.1) rfl hd hR.1 (by show 2 * 0 + _ + 12 ≤ _; omega) kk
  | _ => exact nomatch (show (none : Option aC) = some c' from h)
end SdOp
