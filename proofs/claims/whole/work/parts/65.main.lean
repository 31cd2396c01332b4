/-! THE CONTRACTS: what the abstract machine does, the machine does -/
section Main
variable {l : Launch} {B : List aD} {MI : List mI}
/-- the counters only grow -/
def xLe (X Y : aX) : Prop := X.2.1 ≤ Y.2.1 ∧ X.2.2 ≤ Y.2.2
theorem xLe.rf (X : aX) : xLe X X := ⟨Nat.le_refl _, Nat.le_refl _⟩
theorem aCmp_le {c : ClassFile.Cond} {a b : Int} {pc nx : Nat} {L r : List aV} {m : aM} {X : aX} {c' : aC} (h : aCmp c a b (some (pc, L, r, m, X)) (some (nx, L, r, m, X)) = some c') : xLe X c'.2.2.2.2 := by
  unfold aCmp at h
  split at h <;> split at h <;> (cases h; exact xLe.rf X)
set_option maxHeartbeats 4000000 in
theorem aOp_le {K : aK} {i : Instr} {nx pc : Nat} {L st : List aV} {m : aM} {X : aX} {c' : aC} (h : aOp K i nx pc L st m X = some c') : xLe X c'.2.2.2.2 := by
  unfold aOp at h
  split at h
  all_goals try (cases h; done)
  all_goals try (cases h; exact xLe.rf X)
  all_goals try unfold aLd at h
  all_goals try unfold aLdR at h
  all_goals try unfold aStI at h
  all_goals try unfold aStL at h
  all_goals try unfold aStR at h
  all_goals try unfold aI2 at h
  all_goals try unfold aL2 at h
  all_goals try unfold aLS at h
  all_goals try unfold aLoad aALd at h
  all_goals try unfold aStore aASt at h
  all_goals try unfold aGet at h
  all_goals try unfold aPut at h
  all_goals repeat' split at h
  all_goals first
    | exact aCmp_le h
    | (cases h; done)
    | (cases h; exact xLe.rf X)
    | (cases h; exact ⟨Nat.le_succ _, Nat.le_add_right _ _⟩)
    | (unfold aGet at h; repeat' split at h
       all_goals first | (cases h; done) | (cases h; exact xLe.rf X))
    | (unfold aPut at h; repeat' split at h
       all_goals first | (cases h; done) | (cases h; exact xLe.rf X))
/-- a method's facts -/
def mOK (B : List aD) (MI : List mI) (q : Nat) (I : mI) : Prop :=
  plainName I.1.cls = true ∧ I.2.2.1 = rtT (aMd B q).2.2.1 ∧
  (∀ pc i n, (aMd B q).2.2.2.1[pc]? = some (some (i, n)) → decode I.2.1 pc = .ok (i, n) ∧ iB (aMd B q).2.1 pc n i = true ∧ iKB I.1.cls (aMd B q).1 i = true ∧ (∀ k f, i = .putfield k → (aMd B q).1.1.lookup k = some f → (10 ≤ f.1 ∧ f.1 < 19) ∧ (wt f.2.2 → I.1.name = "<init>" ∧ ∀ C T N, vwCl[f.1 - 10]? = some (C, T, N) → C = I.1.cls ∧ Cond.fieldLink I.1.cls k C (T f.2.1).2.1 (T f.2.1).2.2.1 ∈ gw)) ∧
    (∀ k q2 a, (i = .invokevirtual k ∨ i = .invokestatic k ∨ i = .invokespecial k) → (aMd B q).1.2.2.2.1.lookup k = some (q2, a) → ∃ I2, MI[q2]? = some I2 ∧ cOK I.1.cls i I2 (aMd B q2).2.1 a ((aMd B q).2.2.2.2.2 = []))) ∧
  pOK I.1.cls (aMd B q).1 ∧
  (∀ pc e, (aMd B q).2.2.2.2.1.lookup pc = some e → thOK I.1.cls I.2.1 pc e ∧ I.2.2.2 = []) ∧
  (∀ cd : Code, cd.exceptionTable.toList = tableOf I.2.2.2 → hdOK I.1.cls I.2.1 (aMd B q).2.1 cd (aMd B q))
theorem aRet_le {D : aD} {pc : Nat} {c1 c2 : aC} {r2 : aR} (h : aRet D pc c1 r2 = some c2) : xLe c1.2.2.2.2 c2.2.2.2.2 := by
  obtain ⟨p1, L1, s1, m1, ⟨G1, a1, b1⟩⟩ := c1
  obtain ⟨k0, v0, m2, ⟨G2, mc, ms⟩⟩ := r2
  unfold aRet at h
  dsimp only at h
  split at h
  · cases h; exact ⟨Nat.le_add_right _ _, Nat.le_add_right _ _⟩
  · cases h; exact ⟨Nat.le_add_right _ _, Nat.le_add_right _ _⟩
  · split at h
    · cases h; exact ⟨Nat.le_add_right _ _, Nat.le_add_right _ _⟩
    · cases h
theorem aFin_le {D : aD} {c : aC} {r : aR} (h : aFin D c = some r) : xLe c.2.2.2.2 r.2.2.2 := by
  obtain ⟨pc, L, st, m, X⟩ := c
  rcases aFin_inv h with ⟨e1, hl, rfl, rfl⟩ | ⟨i, n, hi, ⟨_, _, rfl, _⟩ | ⟨_, v, _, _, rfl⟩ | ⟨_, v, _, rfl, _⟩ | ⟨_, u, v, _, _, _, rfl⟩⟩
  · exact ⟨Nat.le_add_right _ _, Nat.le_add_right _ _⟩
  all_goals exact xLe.rf X
theorem sJ_core {d q : Nat} (htr : l.stackTraces = false) (ih : ∀ q, Ctr l B MI d q) {I : mI} (hM : mOK B MI q I) {ev : sV} {ad0 : Nat → Nat} {as : List aV} {m0 : aM} {X0 : aX} {r : aR} (hwA : wA ev as m0 X0.1) (hfit : aFit (aMd B q) as = true) (hg : Go B (d + 1) q (aEnt (aMd B q) as m0 X0) r)
    {p : Program} {e : Env} {R : Room} {s : State} {m : MethodId} {below : List Frame} {meth : Method} {c : Code} (hx : p.tables.exec = Jvm.exec) (hb : c.code = I.2.1) (hr : meth.sig.returnType = I.2.2.1) (hts : ∀ w ∈ gw, w.before (as.map (cv ev ad0)).toArray s = true) (hown : s.vm.findClass I.1.cls = some m.cls) (hlocks : meth.locks = false) (hin : meth.name = I.1.name)
    (hR : d + 13 ≤ R.frames ∧ 60 * d + 360 ≤ R.locals ∧ r.2.2.2.2.1 ≤ R.cells ∧ r.2.2.2.2.2 ≤ R.slots) (hml : c.maxLocals = (aMd B q).2.1) (hT : c.exceptionTable.toList = tableOf I.2.2.2) (hP : Wd ev ad0 X0.1 m0 s) :
    W p l e R s m (as.map (cv ev ad0)).toArray below meth c s.heap [] 0 0 (vx_MQ below (qC ev ad0 X0.1 r) (xC ev ad0 X0.1 r) (as.map (cv ev ad0)).toArray s r.2.2.2.2.1 r.2.2.2.2.2 (vA ev)) (entryFrame m (as.map (cv ev ad0)).toArray (aMd B q).2.1) := by
  obtain ⟨hP1, hD1, hKS⟩ := hP
  obtain ⟨-, hret, hins, hpk, hthr, hhd⟩ := hM
  obtain ⟨hf, hlo, hce, hsl⟩ := hR
  have hh := hhd c hT
  have hA : ∀ q, s.heap.size ≤ q → vA ev q := fun q hq => Nat.le_trans hKS.2.2.2.2.2.2.2.2.2.2.2.2.2.2.2 hq
  have hdec : ∀ pc i n, (aMd B q).2.2.2.1[pc]? = some (some (i, n)) → decode I.2.1 pc = .ok (i, n) ∧ iB (aMd B q).2.1 pc n i = true := fun pc i n h => ⟨(hins pc i n h).1, (hins pc i n h).2.1⟩
  have key := hg (fun c9 => xLe c9.2.2.2.2 r.2.2.2 ∧ sJ p l e R s m (as.map (cv ev ad0)).toArray below meth c ev (aMd B q).2.1 ad0 X0.1 (vx_MQ below (qC ev ad0 X0.1 r) (xC ev ad0 X0.1 r) (as.map (cv ev ad0)).toArray s r.2.2.2.2.1 r.2.2.2.2.2 (vA ev)) c9) ?_ ?_ ?_
  · have := key.2 ad0 s.heap [] _ (fun _ _ => rfl) (gLe.rf _) (ent_wC hwA) ⟨hP1, hD1, va_S.rf⟩ (ent_lR (Nat.le_of_ble_eq_true hfit))
    rw [lg_entry_eq]
    exact this
  · intro c9 h9
    refine ⟨aFin_le h9, ?_⟩
    obtain ⟨pc, L, st, mm, X⟩ := c9
    exact sd_fin hx hb hml hown hts hKS hlocks htr (hr.trans hret) ⟨by omega, by omega⟩ hdec (fun pc e h => ⟨(hthr pc e h).1, fun x hx => by rw [hT, (hthr pc e h).2] at hx; cases hx⟩) ⟨hce, hsl⟩ h9
  · intro c9 c' h9 hk
    obtain ⟨pc, L, st, mm, X⟩ := c9
    unfold aStep at h9
    dsimp only at h9
    split at h9
    · rename_i i n hc
      have hle := aOp_le h9
      refine ⟨⟨Nat.le_trans hle.1 hk.1.1, Nat.le_trans hle.2 hk.1.2⟩, ?_⟩
      obtain ⟨a1, a2, a3, a4, -⟩ := hins pc i n hc
      exact sd_op hx hb hml hown hts hKS hA ⟨by omega, by omega⟩ hpk (fun k f h1 h2 => ⟨(a4 k f h1 h2).1, fun h => ⟨hin.trans ((a4 k f h1 h2).2 h).1, ((a4 k f h1 h2).2 h).2⟩⟩) a2 a3 a1 ⟨Nat.le_trans hk.1.1 hce, Nat.le_trans hk.1.2 hsl⟩ h9 hk.2
    · cases h9
  · intro c9 q2 as2 c1 r2 c2 h9 hf2 hg2 hr2 hk
    obtain ⟨pc, L, st, mm, X⟩ := c9
    obtain ⟨i, n, k, a, hc, hi, hl, -, -, -, -, e1⟩ := aCall_inv h9
    have hle : xLe X c2.2.2.2.2 := by
      have := aRet_le hr2
      rw [e1] at this
      exact this
    refine ⟨⟨Nat.le_trans hle.1 hk.1.1, Nat.le_trans hle.2 hk.1.2⟩, ?_⟩
    obtain ⟨I2, hI2, -⟩ := (hins pc i n hc).2.2.2.2 k q2 a hi hl
    refine sd_call hx hb hml hown hts hKS ⟨by omega, by omega⟩ hdec hh hI2 (fun i' n' k' a' h1 h2 h3 => ?_) (ih q2) ⟨Nat.le_trans hk.1.1 hce, Nat.le_trans hk.1.2 hsl⟩ h9 hf2 hg2 hr2 hk.2
    obtain ⟨I3, hI3, ho⟩ := (hins pc i' n' h1).2.2.2.2 k' q2 a' h2 h3
    cases Option.some.inj (hI2.symm.trans hI3)
    exact ho
theorem sJ_body {d q : Nat} (htr : l.stackTraces = false) (ih : ∀ q, Ctr l B MI d q) {I : mI} (hM : mOK B MI q I) {ev : sV} {ad0 : Nat → Nat} {as : List aV} {m0 : aM} {X0 : aX} {r : aR} (hwA : wA ev as m0 X0.1) (hfit : aFit (aMd B q) as = true) (hg : Go B (d + 1) q (aEnt (aMd B q) as m0 X0) r)
    (p : Program) (e : Env) (s : State) (m : MethodId) (args : Array Value) (below : List Frame) (meth : Method) (c : Code) (s₁ : State)
    (B9 : BodyLoose p l I.1 (headSpec (wsQ I (aMd B q).2.1) (rmD (d + 1) r.2.2.2.2.1 r.2.2.2.2.2)) I.2.1 (aMd B q).2.1 I.2.2.1 e s m args below meth c s₁) (hml : c.maxLocals = (aMd B q).2.1) (hT : c.exceptionTable.toList = tableOf I.2.2.2) (hP : va_Pc (as.map (cv ev ad0)) (Wd ev ad0 X0.1 m0) args s) :
    W p l e (headSpec (wsQ I (aMd B q).2.1) (rmD (d + 1) r.2.2.2.2.1 r.2.2.2.2.2)).room s m args below meth c s.heap [] 0 0 (vx_MQ below (qC ev ad0 X0.1 r) (xC ev ad0 X0.1 r) args s r.2.2.2.2.1 r.2.2.2.2.2 (vA ev)) (entryFrame m args (aMd B q).2.1) := by
  obtain ⟨rfl, hP⟩ := hP
  refine sJ_core htr ih hM hwA hfit hg B9.exec B9.bytes B9.returns (fun w hw => atoms_spec (ws := wsQ I (aMd B q).2.1) B9.pre w (List.mem_cons_of_mem _ hw)) (findClass_of_methodNamed B9.named) B9.notSynchronized (name_of_methodNamed B9.named B9.method).1 ⟨?_, ?_, Nat.le_refl _, Nat.le_refl _⟩ hml hT hP
  · have := rmD_f (d + 1) r.2.2.2.2.1 r.2.2.2.2.2
    show d + 13 ≤ (rmD (d + 1) r.2.2.2.2.1 r.2.2.2.2.2).frames
    generalize (rmD (d + 1) r.2.2.2.2.1 r.2.2.2.2.2).frames = x at this ⊢
    omega
  · have := rmD_l (d + 1) r.2.2.2.2.1 r.2.2.2.2.2
    show 60 * d + 360 ≤ (rmD (d + 1) r.2.2.2.2.1 r.2.2.2.2.2).locals
    generalize (rmD (d + 1) r.2.2.2.2.1 r.2.2.2.2.2).locals = x at this ⊢
    omega
theorem ctr_all (htr : l.stackTraces = false) (hM : ∀ q I, MI[q]? = some I → mOK B MI q I) : ∀ d q, Ctr l B MI d q := by
  intro d
  induction d with
  | zero => intro q I hI ev ad0 as m0 X0 r _ _ hg; exact hg.elim
  | succ d ih =>
    intro q I hI ev ad0 as m0 X0 r hwA hfit hg
    have hq := hM q I hI
    cases hhh : I.2.2.2 with
    | nil =>
      refine vx_ofW (cc := I.2.1) (maxL := (aMd B q).2.1) (ret := I.2.2.1) (ws' := gw) hq.1 (by unfold wsQ cW; rw [hhh]) ?_
      intro p e s m args below meth c s₁ B9 hml hno hP
      refine sJ_body htr ih hq hwA hfit hg p e s m args below meth c s₁ B9 hml ?_ hP
      rw [hhh]
      exact List.eq_nil_iff_forall_not_mem.mpr hno
    | cons h9 t9 =>
      refine vx_ofWH (cc := I.2.1) (maxL := (aMd B q).2.1) (ret := I.2.2.1) (hh := h9 :: t9) (ws' := gw) hq.1 (by unfold wsQ cW; rw [hhh]) ?_
      intro p e s m args below meth c s₁ B9 hml hP
      refine sJ_body htr ih hq hwA hfit hg p e s m args below meth c s₁ B9 hml ?_ hP
      refine vx_table (x := I.1) (bytes := I.2.1) (maxL' := (aMd B q).2.1) (ret' := I.2.2.1) B9 ?_
      refine atoms_spec (ws := wsQ I (aMd B q).2.1) B9.pre _ ?_
      unfold wsQ cW
      rw [hhh]
      exact List.mem_cons_self
end Main
