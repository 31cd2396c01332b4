/-! EVERY INSTRUCTION but calls and ends -/
/-- lengths, local places, targets, small constants of an instruction -/
def iB (nL pc n : Nat) (i : Instr) : Bool := match i with
  | .iconst v => decide (n = 1 ∧ -128 ≤ v ∧ v < 128)
  | .bipush v => decide (n = 2 ∧ -128 ≤ v ∧ v < 128)
  | .sipush v => decide (n = 3 ∧ -32768 ≤ v ∧ v < 32768)
  | .lconst _ => decide (n = 1)
  | .ldc _ => decide (n = 2)
  | .ldc2_w _ => decide (n = 3)
  | .getstatic _ => decide (n = 3)
  | .getfield _ => decide (n = 3)
  | .putfield _ => decide (n = 3)
  | .new _ => decide (n = 3)
  | .anewarray _ => decide (n = 3)
  | .invokespecial _ => decide (n = 3)
  | .invokevirtual _ => decide (n = 3)
  | .invokestatic _ => decide (n = 3)
  | .newarray t => decide (n = 2 ∧ (t = .char ∨ t = .int ∨ t = .long ∨ t = .boolean))
  | .iload _ => decide (n = 2)
  | .lload _ => decide (n = 2)
  | .aload _ => decide (n = 2)
  | .istore k => decide (n = 2 ∧ k < nL)
  | .istore_n k => decide (n = 1 ∧ k.val < nL)
  | .lstore k => decide (n = 2 ∧ k + 1 < nL)
  | .lstore_n k => decide (n = 1 ∧ k.val + 1 < nL)
  | .astore k => decide (n = 2 ∧ k < nL)
  | .astore_n k => decide (n = 1 ∧ k.val < nL)
  | .iinc k v => decide (n = 3 ∧ k < nL ∧ -128 ≤ v ∧ v < 128)
  | .goto off => decide (n = 3 ∧ 0 ≤ (pc : Int) + off)
  | .if_icmp _ off => decide (n = 3 ∧ 0 ≤ (pc : Int) + off)
  | .ifCond _ off => decide (n = 3 ∧ 0 ≤ (pc : Int) + off)
  | .if_acmp _ off => decide (n = 3 ∧ 0 ≤ (pc : Int) + off)
  | .tableswitch d lo hi offs => decide (0 ≤ (pc : Int) + d ∧ hi - lo + 1 = (offs.size : Int)) && offs.toList.all (fun o => decide (0 ≤ (pc : Int) + o))
  | _ => decide (n = 1)
/-- constants and statics -/
def iKB (own : String) (K : aK) (i : Instr) : Bool := match i with
  | .ldc k => (match K.2.1.lookup k with
    | some (t, x) => (decide (t = 0) && decide (-2147483648 ≤ x ∧ x < 2147483648) && decide (Cond.constant own k (Int32.ofInt x) ∈ gw)) || (decide (t = 41) && decide (1 ≤ x ∧ x ≤ 17) && sRefs.any (fun q => decide (q.1 = own ∧ q.2.1 = k ∧ q.2.2.2 = x.toNat)))
    | none => true)
  | .ldc2_w k => (match K.2.1.lookup k with
    | some (t, x) => decide (t = 1) && decide (-9223372036854775808 ≤ x ∧ x < 9223372036854775808) && decide (Cond.constantLong own k (Int64.ofInt x) ∈ gw)
    | none => true)
  | .getstatic k => (match K.2.1.lookup k with
    | some v => sStat.any (fun q => decide (q.2.2.2 = v) && (decide (Cond.fieldLink own k q.1 q.2.1 q.2.2.1 ∈ gw) || decide (Cond.fieldLinkNest own k q.1 q.2.1 q.2.2.1 "AskedTable" ∈ gn)))
    | none => true)
  | .newarray t => decide (Cond.arrayClass (newarray.typeOf t) ∈ gw)
  | .anewarray k => decide (Cond.classLink own k "AskedTable$Token" ∈ gw)
  | _ => true
/-- a pool's facts -/
def pOK (own : String) (K : aK) : Prop :=
  (∀ k f, K.1.lookup k = some f → (10 ≤ f.1 ∧ f.1 < 19 ∧ fOK own k f) ∨
    (f.1 = 40 ∧ (Cond.fieldLink own k "AskedTable$Word" (if f.2.2 = 41 then "spelling" else "reserved") (if f.2.2 = 41 then "Ljava/lang/String;" else "Z") ∈ gw ∨ Cond.fieldLinkNest own k "AskedTable$Word" (if f.2.2 = 41 then "spelling" else "reserved") (if f.2.2 = 41 then "Ljava/lang/String;" else "Z") "AskedTable" ∈ gn)) ∨
    (f.1 = 41 ∧ Cond.fieldLink own k "java/lang/String" (if f.2.2 = 46 then "value" else "coder") (if f.2.2 = 46 then "[B" else "B") ∈ gw)) ∧
  (∀ k t n, K.2.2.1.lookup k = some (t, n) → nOK own k t n) ∧
  (∀ k, K.2.2.2.2.contains k = true → Cond.methodLink own k objectInit ∈ gw)
section Op
variable {p : Program} {l : Launch} {e : Env} {R : Room} {s : State} {m : MethodId} {args : Array Value} {below : List Frame} {meth : Method} {cd : Code} {Q : State → Prop} {cc : ByteArray} {ev : sV} {nL : Nat} {ad0 : Nat → Nat} {g0 : aG}
variable {pc n : Nat} {L st r : List aV} {mm : aM} {X : aX} {c' : aC} {own : String} {K : aK}
theorem tgt_eq {off : Int} (h : 0 ≤ (pc : Int) + off) : (pc : Int) + off = ((aTgt pc off : Nat) : Int) := by
  unfold aTgt
  omega
/-- a branch: both ways -/
theorem sJ_if {P : Prop} {hP : Decidable P} {c1 c2 : aC} (h : (@ite _ P hP (some c1) (some c2)) = some c') (kk : sJ p l e R s m args below meth cd ev nL ad0 g0 Q c')
    (hs : ∀ (ad : Nat → Nat) (H : Heap) (locs : List Loc) (ls : Array Slot), wC ev (pc, L, st, mm, X) → (∀ k, k ≤ g0.1 → ad k = ad0 k) → gLe g0 X.1 → sH ev ad X.1 mm s.heap H locs → lR ev ad nL L ls → (P → c' = c1 → W p l e R s m args below meth cd H locs X.2.1 X.2.2 Q (F0 m pc ls (st.map (cv ev ad)))) ∧ (¬ P → c' = c2 → W p l e R s m args below meth cd H locs X.2.1 X.2.2 Q (F0 m pc ls (st.map (cv ev ad))))) : sJ p l e R s m args below meth cd ev nL ad0 g0 Q (pc, L, st, mm, X) := by
  intro ad H locs ls g1 g2 g3 g4 g5
  obtain ⟨a1, a2⟩ := hs ad H locs ls g3 g1 g2 g4 g5
  by_cases hp : P
  · rw [if_pos hp] at h
    exact a1 hp (Option.some.inj h).symm
  · rw [if_neg hp] at h
    exact a2 hp (Option.some.inj h).symm
theorem sd_cmp (hx : p.tables.exec = Jvm.exec) (hb : cd.code = cc) {c : ClassFile.Cond} {off : Int} {a b : Int} (ho : 0 ≤ (pc : Int) + off) (ha : in32 a) (hbb : in32 b) (hd : decode cc pc = .ok (.if_icmp c off, 3))
    (h : aCmp c a b (some (aTgt pc off, L, r, mm, X)) (some (pc + 3, L, r, mm, X)) = some c') {ad : Nat → Nat} {H : Heap} {locs : List Loc} {ls : Array Slot}
    (kk : ∀ nx, c' = (nx, L, r, mm, X) → W p l e R s m args below meth cd H locs X.2.1 X.2.2 Q (F0 m nx ls (r.map (cv ev ad)))) : W p l e R s m args below meth cd H locs X.2.1 X.2.2 Q (F0 m pc ls (.int (Int32.ofInt b) :: .int (Int32.ofInt a) :: r.map (cv ev ad))) := by
  have e1 := i32_eq ha hbb
  have e2 := i32_lt ha hbb
  have e3 := i32_lt hbb ha
  cases c with
  | eq =>
    have h : (if a = b then some (aTgt pc off, L, r, mm, X) else some (pc + 3, L, r, mm, X)) = some c' := h
    refine lv_icmp_eq hx hb hd (tgt_eq ho) (fun q => ?_) (fun q => ?_)
    · rw [if_pos (e1.mp q)] at h
      exact kk _ (Option.some.inj h).symm
    · rw [if_neg (fun z => q (e1.mpr z))] at h
      exact kk _ (Option.some.inj h).symm
  | ne =>
    have h : (if a = b then some (pc + 3, L, r, mm, X) else some (aTgt pc off, L, r, mm, X)) = some c' := h
    refine lv_icmp_ne hx hb hd (tgt_eq ho) (fun q => ?_) (fun q => ?_)
    · rw [if_neg (fun z => q (e1.mpr z))] at h
      exact kk _ (Option.some.inj h).symm
    · rw [if_pos (e1.mp q)] at h
      exact kk _ (Option.some.inj h).symm
  | lt =>
    have h : (if a < b then some (aTgt pc off, L, r, mm, X) else some (pc + 3, L, r, mm, X)) = some c' := h
    refine lv_icmp_lt hx hb hd (tgt_eq ho) (fun q => ?_) (fun q => ?_)
    · rw [if_pos (e2.mp q)] at h
      exact kk _ (Option.some.inj h).symm
    · rw [if_neg (fun z => q (e2.mpr z))] at h
      exact kk _ (Option.some.inj h).symm
  | ge =>
    have h : (if a < b then some (pc + 3, L, r, mm, X) else some (aTgt pc off, L, r, mm, X)) = some c' := h
    have e4 := i32_le hbb ha
    refine lv_icmp_ge hx hb hd (tgt_eq ho) (fun q => ?_) (fun q => ?_)
    · rw [if_neg (by have := e4.mp q; omega)] at h
      exact kk _ (Option.some.inj h).symm
    · rw [if_pos (by have : ¬ b ≤ a := fun z => q (e4.mpr z); omega)] at h
      exact kk _ (Option.some.inj h).symm
  | gt =>
    have h : (if b < a then some (aTgt pc off, L, r, mm, X) else some (pc + 3, L, r, mm, X)) = some c' := h
    refine lv_icmp_gt hx hb hd (tgt_eq ho) (fun q => ?_) (fun q => ?_)
    · rw [if_pos (e3.mp q)] at h
      exact kk _ (Option.some.inj h).symm
    · rw [if_neg (fun z => q (e3.mpr z))] at h
      exact kk _ (Option.some.inj h).symm
  | le =>
    have h : (if b < a then some (pc + 3, L, r, mm, X) else some (aTgt pc off, L, r, mm, X)) = some c' := h
    have e4 := i32_le ha hbb
    refine lv_icmp_le hx hb hd (tgt_eq ho) (fun q => ?_) (fun q => ?_)
    · rw [if_neg (by have := e4.mp q; omega)] at h
      exact kk _ (Option.some.inj h).symm
    · rw [if_pos (by have : ¬ a ≤ b := fun z => q (e4.mpr z); omega)] at h
      exact kk _ (Option.some.inj h).symm
theorem sd_cmp0 (hx : p.tables.exec = Jvm.exec) (hb : cd.code = cc) {c : ClassFile.Cond} {off : Int} {a : Int} (ho : 0 ≤ (pc : Int) + off) (ha : in32 a) (hd : decode cc pc = .ok (.ifCond c off, 3))
    (h : aCmp c a 0 (some (aTgt pc off, L, r, mm, X)) (some (pc + 3, L, r, mm, X)) = some c') {ad : Nat → Nat} {H : Heap} {locs : List Loc} {ls : Array Slot}
    (kk : ∀ nx, c' = (nx, L, r, mm, X) → W p l e R s m args below meth cd H locs X.2.1 X.2.2 Q (F0 m nx ls (r.map (cv ev ad)))) : W p l e R s m args below meth cd H locs X.2.1 X.2.2 Q (F0 m pc ls (.int (Int32.ofInt a) :: r.map (cv ev ad))) := by
  have e1 : Int32.ofInt a = 0 ↔ a = 0 := i32_eq ha in32_0
  have e2 : Int32.ofInt a < 0 ↔ a < 0 := i32_lt ha in32_0
  have e3 : 0 < Int32.ofInt a ↔ 0 < a := i32_lt in32_0 ha
  cases c with
  | eq =>
    have h : (if a = 0 then some (aTgt pc off, L, r, mm, X) else some (pc + 3, L, r, mm, X)) = some c' := h
    refine lv_if_eq hx hb hd (tgt_eq ho) (fun q => ?_) (fun q => ?_)
    · rw [if_pos (e1.mp q)] at h
      exact kk _ (Option.some.inj h).symm
    · rw [if_neg (fun z => q (e1.mpr z))] at h
      exact kk _ (Option.some.inj h).symm
  | ne =>
    have h : (if a = 0 then some (pc + 3, L, r, mm, X) else some (aTgt pc off, L, r, mm, X)) = some c' := h
    refine lv_if_ne hx hb hd (tgt_eq ho) (fun q => ?_) (fun q => ?_)
    · rw [if_neg (fun z => q (e1.mpr z))] at h
      exact kk _ (Option.some.inj h).symm
    · rw [if_pos (e1.mp q)] at h
      exact kk _ (Option.some.inj h).symm
  | lt =>
    have h : (if a < 0 then some (aTgt pc off, L, r, mm, X) else some (pc + 3, L, r, mm, X)) = some c' := h
    refine lv_if_lt hx hb hd (tgt_eq ho) (fun q => ?_) (fun q => ?_)
    · rw [if_pos (e2.mp q)] at h
      exact kk _ (Option.some.inj h).symm
    · rw [if_neg (fun z => q (e2.mpr z))] at h
      exact kk _ (Option.some.inj h).symm
  | ge =>
    have h : (if a < 0 then some (pc + 3, L, r, mm, X) else some (aTgt pc off, L, r, mm, X)) = some c' := h
    have e4 : 0 ≤ Int32.ofInt a ↔ 0 ≤ a := i32_le in32_0 ha
    refine lv_if_ge hx hb hd (tgt_eq ho) (fun q => ?_) (fun q => ?_)
    · rw [if_neg (by have := e4.mp q; omega)] at h
      exact kk _ (Option.some.inj h).symm
    · rw [if_pos (by have : ¬ 0 ≤ a := fun z => q (e4.mpr z); omega)] at h
      exact kk _ (Option.some.inj h).symm
  | gt =>
    have h : (if 0 < a then some (aTgt pc off, L, r, mm, X) else some (pc + 3, L, r, mm, X)) = some c' := h
    refine lv_if_gt hx hb hd (tgt_eq ho) (fun q => ?_) (fun q => ?_)
    · rw [if_pos (e3.mp q)] at h
      exact kk _ (Option.some.inj h).symm
    · rw [if_neg (fun z => q (e3.mpr z))] at h
      exact kk _ (Option.some.inj h).symm
  | le =>
    have h : (if 0 < a then some (pc + 3, L, r, mm, X) else some (aTgt pc off, L, r, mm, X)) = some c' := h
    have e4 : Int32.ofInt a ≤ 0 ↔ a ≤ 0 := i32_le ha in32_0
    refine lv_if_le hx hb hd (tgt_eq ho) (fun q => ?_) (fun q => ?_)
    · rw [if_neg (by have := e4.mp q; omega)] at h
      exact kk _ (Option.some.inj h).symm
    · rw [if_pos (by have : ¬ a ≤ 0 := fun z => q (e4.mpr z); omega)] at h
      exact kk _ (Option.some.inj h).symm
/-- a Word against a Word -/
theorem word_eq (hKS : KS ev s s.heap) {G : aG} {a b : Int} (ha : wv G (40, a)) (hb : wv G (40, b)) : ((if a = 0 then none else some (vW ev (a - 1).toNat)) = (if b = 0 then none else some (vW ev (b - 1).toNat))) ↔ a = b := by
  have ha : 0 ≤ a ∧ a ≤ 15 := ha
  have hb : 0 ≤ b ∧ b ≤ 15 := hb
  constructor
  · intro h
    by_cases h1 : a = 0
    · by_cases h2 : b = 0
      · omega
      · rw [if_pos h1, if_neg h2] at h; cases h
    · by_cases h2 : b = 0
      · rw [if_neg h1, if_pos h2] at h; cases h
      · rw [if_neg h1, if_neg h2] at h
        have := hKS.2.2.1 (a - 1).toNat (b - 1).toNat (by omega) (by omega) (Option.some.inj h)
        omega
  · rintro rfl
    rfl
/-- one of several next places, the stack shorter -/
theorem sJ_to {st' : List aV} {nx : Nat} (kk : sJ p l e R s m args below meth cd ev nL ad0 g0 Q (nx, L, st', mm, X)) {ad : Nat → Nat} {H : Heap} {locs : List Loc} {ls : Array Slot} (g1 : ∀ k, k ≤ g0.1 → ad k = ad0 k) (g2 : gLe g0 X.1) (g3 : wC ev (pc, L, st, mm, X)) (hs : ∀ v ∈ st', v ∈ st) (g4 : sH ev ad X.1 mm s.heap H locs) (g5 : lR ev ad nL L ls) : W p l e R s m args below meth cd H locs X.2.1 X.2.2 Q (F0 m nx ls (st'.map (cv ev ad))) :=
  kk ad H locs ls g1 g2 (g3.stk fun v hv => g3.2.1 v (hs v hv)) g4 g5
end Op
