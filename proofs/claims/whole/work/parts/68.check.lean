/-! EVERY METHOD'S FACTS -/
def wtB (t : Nat) : Bool := (Nat.ble 10 t && Nat.blt t 19) || (Nat.ble 30 t && Nat.blt t 35)
theorem wtB_of {t : Nat} (h : wt t) : wtB t = true := by
  have h : (10 ≤ t ∧ t < 19) ∨ (30 ≤ t ∧ t < 35) := h
  unfold wtB
  rcases h with h | h
  · rw [Nat.ble_eq.mpr h.1, show Nat.blt t 19 = true from Nat.ble_eq.mpr h.2]; rfl
  · rw [Nat.ble_eq.mpr h.1, show Nat.blt t 35 = true from Nat.ble_eq.mpr h.2]; simp
def insB (own nm : String) (tg nL : Nat) (K : aK) (kd : Nat → Instr) (nd : Nat → Bool) (hs : Bool) (cc : ByteArray) (pc : Nat) (i : Instr) (n : Nat) : Bool :=
  (match decode cc pc with | .ok y => decide (y = (i, n)) | .error _ => false) && (iB nL pc n i && (iKB own K i && ((match i with
    | .invokevirtual k => (match K.2.2.2.1.lookup k with | some _ => decide (kd k = .invokevirtual k) && (!(nd k) || hs) | none => true)
    | .invokestatic k => (match K.2.2.2.1.lookup k with | some _ => decide (kd k = .invokestatic k) && (!(nd k) || hs) | none => true)
    | .invokespecial k => (match K.2.2.2.1.lookup k with | some _ => decide (kd k = .invokespecial k) && (!(nd k) || hs) | none => true)
    | _ => true) && (match i with
    | .putfield k => (match K.1.lookup k with | some f => Nat.ble 10 f.1 && (Nat.blt f.1 19 && (!(wtB f.2.2) || (decide (nm = "<init>") && decide (f.1 = tg)))) | none => true)
    | _ => true))))
def allB (P : Nat → Instr → Nat → Bool) : Nat → List (Option (Instr × Nat)) → Bool
  | _, [] => true
  | pc, none :: r => allB P (pc + 1) r
  | pc, some (i, n) :: r => P pc i n && allB P (pc + 1) r
theorem allB_at {P : Nat → Instr → Nat → Bool} : ∀ {l : List (Option (Instr × Nat))} {k : Nat}, allB P k l = true → ∀ {pc : Nat} {i : Instr} {n : Nat}, l[pc]? = some (some (i, n)) → P (k + pc) i n = true := by
  intro l
  induction l with
  | nil => intro k _ pc i n h; cases h
  | cons a l ih =>
    intro k ha pc i n h
    cases a with
    | none =>
      cases pc with
      | zero => cases h
      | succ pc =>
        have := ih (k := k + 1) ha (pc := pc) h
        rwa [show k + 1 + pc = k + (pc + 1) by omega] at this
    | some x =>
      obtain ⟨j, w⟩ := x
      have ha : (P k j w && allB P (k + 1) l) = true := ha
      rw [Bool.and_eq_true] at ha
      cases pc with
      | zero => cases h; exact ha.1
      | succ pc =>
        have := ih (k := k + 1) ha.2 (pc := pc) h
        rwa [show k + 1 + pc = k + (pc + 1) by omega] at this
theorem allB_split {P : Nat → Instr → Nat → Bool} : ∀ (l : List (Option (Instr × Nat))) (n k : Nat), allB P k (l.take n) = true → allB P (k + n) (l.drop n) = true → allB P k l = true := by
  intro l
  induction l with
  | nil => intro n k _ _; rfl
  | cons a l ih =>
    intro n k h1 h2
    cases n with
    | zero => exact h2
    | succ n =>
      have h3 : allB P (k + 1 + n) (l.drop n) = true := by rw [show k + 1 + n = k + (n + 1) by omega]; exact h2
      cases a with
      | none => exact ih n (k + 1) h1 h3
      | some x =>
        obtain ⟨i, w⟩ := x
        have h1 : (P k i w && allB P (k + 1) (l.take n)) = true := h1
        rw [Bool.and_eq_true] at h1
        show (P k i w && allB P (k + 1) l) = true
        rw [h1.1, ih n (k + 1) h1.2 h3]
        rfl
/-- a pool's facts, together -/
def plOK (own : String) (tg : Nat) (K : aK) (kd : Nat → Instr) (nd : Nat → Bool) : Prop := (∀ x ∈ K.1, pF own tg x) ∧ (∀ x ∈ K.2.2.1, nOK own x.1 x.2.1 x.2.2) ∧ (∀ k ∈ K.2.2.2.2, Cond.methodLink own k objectInit ∈ gw) ∧ (∀ x ∈ K.2.2.2.1, cT own kd nd x)
theorem mOK_of {q : Nat} {I : mI} {D : aD} {tg : Nat} {kd : Nat → Instr} {nd : Nat → Bool} (hD : aMd PB q = D) (hy : plainName I.1.cls = true) (hr : I.2.2.1 = rtT D.2.2.1) (hP : plOK I.1.cls tg D.1 kd nd) (hi : allB (insB I.1.cls I.1.name tg D.2.1 D.1 kd nd D.2.2.2.2.2.isEmpty I.2.1) 0 D.2.2.2.1 = true)
    (ht : ∀ x ∈ D.2.2.2.2.1, thOK I.1.cls I.2.1 x.1 x.2 ∧ I.2.2.2 = []) (hh : ∀ cd : Code, cd.exceptionTable.toList = tableOf I.2.2.2 → hdOK I.1.cls I.2.1 D.2.1 cd D) : mOK PB MI q I := by
  subst hD
  refine ⟨hy, hr, fun pc i n hc => ?_, ⟨fun k f hk => ?_, fun k t n hk => hP.2.1 (k, t, n) (lookup_mem hk), fun k hk => hP.2.2.1 k (List.contains_iff_mem.mp hk)⟩, fun pc e h => ht (pc, e) (lookup_mem h), hh⟩
  · have := allB_at hi hc
    rw [Nat.zero_add] at this
    unfold insB at this
    simp only [Bool.and_eq_true] at this
    obtain ⟨h1, h2, h3, h4, h5⟩ := this
    refine ⟨?_, h2, h3, ?_, ?_⟩
    · split at h1
      · rename_i y hy
        rw [hy, of_decide_eq_true h1]
      · cases h1
    · intro k f e1 hk
      subst e1
      have h5 : (match (generalizing := false) (aMd PB q).1.1.lookup k with | some f => Nat.ble 10 f.1 && (Nat.blt f.1 19 && (!(wtB f.2.2) || (decide (I.1.name = "<init>") && decide (f.1 = tg)))) | none => true) = true := h5
      rw [hk] at h5
      have h5 : (Nat.ble 10 f.1 && (Nat.blt f.1 19 && (!(wtB f.2.2) || (decide (I.1.name = "<init>") && decide (f.1 = tg))))) = true := h5
      simp only [Bool.and_eq_true, Bool.or_eq_true, decide_eq_true_eq, Bool.not_eq_true'] at h5
      obtain ⟨a1, a2, a3⟩ := h5
      have a1 := Nat.le_of_ble_eq_true a1
      have a2 : f.1 < 19 := Nat.le_of_ble_eq_true a2
      refine ⟨⟨a1, a2⟩, fun hw => ?_⟩
      rcases a3 with a3 | ⟨a3, a4⟩
      · rw [wtB_of hw] at a3; cases a3
      · refine ⟨a3, ?_⟩
        rcases hP.1 (k, f) (lookup_mem hk) with ⟨_, _, _, b4⟩ | ⟨b1, _⟩ | ⟨b1, _⟩
        · exact b4 a4
        · dsimp only at b1; omega
        · dsimp only at b1; omega
    · intro k q2 a hi hl
      obtain ⟨I2, g1, g2⟩ := hP.2.2.2 (k, q2, a) (lookup_mem hl)
      refine ⟨I2, g1, ?_⟩
      have e4 : kd k = i ∧ (nd k = true → (aMd PB q).2.2.2.2.2 = []) := by
        have fin : ∀ {b : Instr}, (decide (kd k = b) && (!(nd k) || (aMd PB q).2.2.2.2.2.isEmpty)) = true → kd k = b ∧ (nd k = true → (aMd PB q).2.2.2.2.2 = []) := by
          intro b hb
          simp only [Bool.and_eq_true, Bool.or_eq_true, decide_eq_true_eq, Bool.not_eq_true'] at hb
          refine ⟨hb.1, fun hn => ?_⟩
          rcases hb.2 with h | h
          · rw [hn] at h; cases h
          · exact List.isEmpty_iff.mp h
        rcases hi with rfl | rfl | rfl
        · have h4 : (match (generalizing := false) (aMd PB q).1.2.2.2.1.lookup k with | some _ => decide (kd k = .invokevirtual k) && (!(nd k) || (aMd PB q).2.2.2.2.2.isEmpty) | none => true) = true := h4
          rw [hl] at h4
          exact fin h4
        · have h4 : (match (generalizing := false) (aMd PB q).1.2.2.2.1.lookup k with | some _ => decide (kd k = .invokestatic k) && (!(nd k) || (aMd PB q).2.2.2.2.2.isEmpty) | none => true) = true := h4
          rw [hl] at h4
          exact fin h4
        · have h4 : (match (generalizing := false) (aMd PB q).1.2.2.2.1.lookup k with | some _ => decide (kd k = .invokespecial k) && (!(nd k) || (aMd PB q).2.2.2.2.2.isEmpty) | none => true) = true := h4
          rw [hl] at h4
          exact fin h4
      have := g2 ((aMd PB q).2.2.2.2.2 = []) e4.2
      rw [← e4.1]
      exact this
  · rcases hP.1 (k, f) (lookup_mem hk) with ⟨a1, a2, a3, _⟩ | h | h
    · exact Or.inl ⟨a1, a2, a3⟩
    · exact Or.inr (Or.inl h)
    · exact Or.inr (Or.inr h)
theorem hd_nil {own : String} {cc : ByteArray} {nL : Nat} {hh : List (Nat × Nat × Nat × Nat)} {D : aD} (h : D.2.2.2.2.2 = []) : ∀ cd : Code, cd.exceptionTable.toList = tableOf hh → hdOK own cc nL cd D := by
  intro cd _ pc e h9 k hk
  rw [h] at hk
  cases hk
/-- the handlers, one by one -/
def hdL (own : String) (cc : ByteArray) (nL : Nat) : List (Nat × Nat × Nat × Nat) → List (Nat × Nat × Nat × Nat) → List (Nat × Nat × Nat × Nat × List Nat) → Prop
  | pre, q :: suf, (a, b, h, k, es) :: hs => (q.1 = a ∧ q.2.1 = b ∧ k < nL ∧ q.2.2.2 ≠ 0 ∧ ∃ nm e, es = [e] ∧ Cond.classLink own q.2.2.2 nm ∈ gw ∧ Cond.castable (exN e) nm ∈ gn ∧ (∀ z ∈ pre, z.2.2.2 ≠ 0 ∧ ∃ nz : String, Cond.classLink own z.2.2.2 nz ∈ gw ∧ (exN e, nz) ∈ sNc) ∧ ((∃ kf : Fin 4, kf.val = k ∧ decode cc q.2.2.1 = .ok (.astore_n kf, 1) ∧ h = q.2.2.1 + 1) ∨ (decode cc q.2.2.1 = .ok (.astore k, 2) ∧ h = q.2.2.1 + 2))) ∧ hdL own cc nL (pre ++ [q]) suf hs
  | _, [], [] => True
  | _, _, _ => False
theorem hd_L {own : String} {cc : ByteArray} {nL : Nat} : ∀ {hs : List (Nat × Nat × Nat × Nat × List Nat)} {pre suf : List (Nat × Nat × Nat × Nat)}, hdL own cc nL pre suf hs → ∀ {pc e h k : Nat}, aHand pc e hs = some (h, k) → k < nL ∧ ∃ (p1 : List ExceptionTableEntry) (x : ExceptionTableEntry) (s1 : List ExceptionTableEntry) (name : String), tableOf (pre ++ suf) = p1 ++ x :: s1 ∧
    (∀ z ∈ p1, covers z pc = false ∨ (z.catchType ≠ 0 ∧ ∃ nm : String, Cond.classLink own z.catchType nm ∈ gw ∧ (exN e, nm) ∈ sNc)) ∧ covers x pc = true ∧ x.catchType ≠ 0 ∧ Cond.classLink own x.catchType name ∈ gw ∧ Cond.castable (exN e) name ∈ gn ∧ ((∃ kf : Fin 4, kf.val = k ∧ decode cc x.handlerPc = .ok (.astore_n kf, 1) ∧ h = x.handlerPc + 1) ∨ (decode cc x.handlerPc = .ok (.astore k, 2) ∧ h = x.handlerPc + 2)) := by
  intro hs
  induction hs with
  | nil => intro pre suf _ pc e h k hk; cases hk
  | cons y hs ih =>
    intro pre suf hL pc e h k hk
    obtain ⟨a, b, h1, k1, es⟩ := y
    cases suf with
    | nil => exact hL.elim
    | cons q suf =>
      obtain ⟨⟨rfl, rfl, c3, c4, nm, e1, rfl, c5, c6, c7, c8⟩, c9⟩ := hL
      unfold aHand at hk
      by_cases hc : q.1 ≤ pc ∧ pc < q.2.1 ∧ [e1].contains e = true
      · rw [if_pos hc] at hk
        cases hk
        have he : e = e1 := by simpa using hc.2.2
        subst he
        refine ⟨c3, pre.map (fun q => ⟨q.1, q.2.1, q.2.2.1, q.2.2.2⟩), ⟨q.1, q.2.1, q.2.2.1, q.2.2.2⟩, suf.map (fun q => ⟨q.1, q.2.1, q.2.2.1, q.2.2.2⟩), nm, by unfold tableOf; rw [List.map_append, List.map_cons], fun z hz => ?_, ?_, c4, c5, c6, c8⟩
        · obtain ⟨w, hw, rfl⟩ := List.mem_map.mp hz
          exact Or.inr (c7 w hw)
        · unfold covers
          simp [hc.1, hc.2.1]
      · rw [if_neg hc] at hk
        have := ih c9 hk
        rwa [List.append_assoc] at this
theorem hd_of {own : String} {cc : ByteArray} {nL : Nat} {hh : List (Nat × Nat × Nat × Nat)} {D : aD} (h : hdL own cc nL [] hh D.2.2.2.2.2) : ∀ cd : Code, cd.exceptionTable.toList = tableOf hh → hdOK own cc nL cd D := by
  intro cd hT pc e h9 k hk
  obtain ⟨a1, p1, x, s1, name, a2⟩ := hd_L h hk
  refine ⟨a1, p1, x, s1, name, ?_⟩
  rw [hT]
  exact a2
