/-! THE CONTRACTS: what the abstract machine does, the machine does -/
/-! MATH.MIN: its class is one of those that the machine's plain walk leaves out; the library's own row serves -/
section Min
theorem Go.inv_step {B : List aD} {d q : Nat} {c c' : aC} {r : aR} (hs : aStep (aMd B q) c = some c') (hf : aFin (aMd B q) c = none) (hc : aCall (aMd B q) c = none) (h : Go B (d + 1) q c r) : Go B (d + 1) q c' r := by
  have := h (fun c0 => (c0 = c → Go B (d + 1) q c' r) ∧ Go B (d + 1) q c0 r) ?_ ?_ ?_
  · exact this.1 rfl
  · intro c0 h0
    exact ⟨fun e => (by rw [e, hf] at h0; cases h0), Go.fin rfl h0⟩
  · intro c0 c1 h0 hk
    exact ⟨fun e => (by rw [e, hs] at h0; cases h0; exact hk.2), Go.step rfl h0 hk.2⟩
  · intro c0 q2 as c1 r2 c2 h0 hn hg hr hk
    exact ⟨fun e => (by rw [e, hc] at h0; cases h0), Go.call rfl h0 rfl hg hr hk.2 hn⟩
theorem Go.inv_fin {B : List aD} {d q : Nat} {c : aC} {r r0 : aR} (hf : aFin (aMd B q) c = some r0) (hs : aStep (aMd B q) c = none) (hc : aCall (aMd B q) c = none) (h : Go B (d + 1) q c r) : r = r0 := by
  refine h (fun c0 => c0 = c → r = r0) ?_ ?_ ?_ rfl
  · intro c0 h0 e
    rw [e, hf] at h0
    exact (Option.some.inj h0).symm
  · intro c0 c1 h0 _ e
    rw [e, hs] at h0; cases h0
  · intro c0 q2 as c1 r2 c2 h0 _ _ _ _ e
    rw [e, hc] at h0; cases h0
theorem Go.inv_stuck {B : List aD} {d q : Nat} {c : aC} {r : aR} (hf : aFin (aMd B q) c = none) (hs : aStep (aMd B q) c = none) (hc : aCall (aMd B q) c = none) (h : Go B (d + 1) q c r) : False := by
  refine h (fun c0 => c0 = c → False) ?_ ?_ ?_ rfl
  · intro c0 h0 e
    rw [e, hf] at h0; cases h0
  · intro c0 c1 h0 _ e
    rw [e, hs] at h0; cases h0
  · intro c0 q2 as c1 r2 c2 h0 _ _ _ _ e
    rw [e, hc] at h0; cases h0
theorem min_run {B : List aD} {d q : Nat} (hD : aMd B q = d_JM_min) {v0 v1 : aV} {m : aM} {X : aX} {r : aR} (h : Go B d q (aEnt (aMd B q) [v0, v1] m X) r) : v0.1 = 0 ∧ v1.1 = 0 ∧ r = (1, (0, if v1.2 < v0.2 then v1.2 else v0.2), m, (X.1, 0, 0)) := by
  cases d with
  | zero => exact h.elim
  | succ d =>
    obtain ⟨t0, a⟩ := v0
    obtain ⟨t1, b⟩ := v1
    by_cases h0 : t0 = 0
    · subst h0
      by_cases h1 : t1 = 0
      · subst h1
        refine ⟨rfl, rfl, ?_⟩
        rw [hD] at h
        have h : Go B (d + 1) q (0, [(0, a), (0, b)], [], m, (X.1, 0, 0)) r := h
        have h := Go.inv_step (c' := (1, [(0, a), (0, b)], [(0, a)], m, (X.1, 0, 0))) (by rw [hD]; rfl) (by rw [hD]; rfl) (by rw [hD]; rfl) h
        have h := Go.inv_step (c' := (2, [(0, a), (0, b)], [(0, b), (0, a)], m, (X.1, 0, 0))) (by rw [hD]; rfl) (by rw [hD]; rfl) (by rw [hD]; rfl) h
        by_cases hab : b < a
        · have h := Go.inv_step (c' := (9, [(0, a), (0, b)], [], m, (X.1, 0, 0))) (by rw [hD]; exact if_pos hab) (by rw [hD]; rfl) (by rw [hD]; rfl) h
          have h := Go.inv_step (c' := (10, [(0, a), (0, b)], [(0, b)], m, (X.1, 0, 0))) (by rw [hD]; rfl) (by rw [hD]; rfl) (by rw [hD]; rfl) h
          have h := Go.inv_fin (r0 := (1, (0, b), m, (X.1, 0, 0))) (by rw [hD]; rfl) (by rw [hD]; rfl) (by rw [hD]; rfl) h
          dsimp only
          rw [if_pos hab]
          exact h
        · have h := Go.inv_step (c' := (5, [(0, a), (0, b)], [], m, (X.1, 0, 0))) (by rw [hD]; exact if_neg hab) (by rw [hD]; rfl) (by rw [hD]; rfl) h
          have h := Go.inv_step (c' := (6, [(0, a), (0, b)], [(0, a)], m, (X.1, 0, 0))) (by rw [hD]; rfl) (by rw [hD]; rfl) (by rw [hD]; rfl) h
          have h := Go.inv_step (c' := (10, [(0, a), (0, b)], [(0, a)], m, (X.1, 0, 0))) (by rw [hD]; rfl) (by rw [hD]; rfl) (by rw [hD]; rfl) h
          have h := Go.inv_fin (r0 := (1, (0, a), m, (X.1, 0, 0))) (by rw [hD]; rfl) (by rw [hD]; rfl) (by rw [hD]; rfl) h
          dsimp only
          rw [if_neg hab]
          exact h
      · exfalso
        rw [hD] at h
        obtain ⟨L2, hL2⟩ : ∃ L2 : List aV, (aEnt d_JM_min [(0, a), (t1, b)] m X) = (0, (0, a) :: (t1, b) :: L2, [], m, (X.1, 0, 0)) := by
          by_cases h9 : t1 = 1
          · subst h9; exact ⟨_, rfl⟩
          · refine ⟨List.replicate 0 (99, 0), ?_⟩
            rw [aEnt_eq]
            unfold aL0 flt
            simp [h9, d_JM_min]
        rw [hL2] at h
        have h := Go.inv_step (c' := (1, (0, a) :: (t1, b) :: L2, [(0, a)], m, (X.1, 0, 0))) (by rw [hD]; rfl) (by rw [hD]; rfl) (by rw [hD]; rfl) h
        exact Go.inv_stuck (by rw [hD]; rfl) (by rw [hD]; exact if_neg h1) (by rw [hD]; rfl) h
    · exfalso
      rw [hD] at h
      obtain ⟨L2, hL2⟩ : ∃ L2 : List aV, (aEnt d_JM_min [(t0, a), (t1, b)] m X) = (0, (t0, a) :: L2, [], m, (X.1, 0, 0)) := by
        by_cases h9 : t0 = 1
        · subst h9; exact ⟨_, rfl⟩
        · refine ⟨(flt [(t1, b)]) ++ List.replicate (d_JM_min.2.1 - (flt [(t0, a), (t1, b)]).length) (99, 0), ?_⟩
          rw [aEnt_eq]
          unfold aL0
          rw [show flt [(t0, a), (t1, b)] = (t0, a) :: flt [(t1, b)] by unfold flt; simp [h9]]
          rfl
      rw [hL2] at h
      exact Go.inv_stuck (by rw [hD]; rfl) (by rw [hD]; exact if_neg h0) (by rw [hD]; rfl) h
def minI (B : List aD) (q : Nat) (I : mI) : Prop := aMd B q = d_JM_min ∧ I.1 = Lib.Math.min.name ∧ I.2.1 = Lib.Math.min.code ∧ I.2.2.1 = some .int ∧ I.2.2.2 = []
def isMin : Cond → Bool
  | .methodLinkNest _ _ t _ => decide (t = Lib.Math.min.name)
  | _ => false
theorem no_min : ∀ w ∈ gn, isMin w = false := by decide +kernel
variable {p : Program} {l : Launch} {e : Env} {R : Room} {s : State} {m : MethodId} {args : Array Value} {below : List Frame} {meth : Method} {cd : Code} {Q : State → Prop} {cc : ByteArray} {ev : sV} {nL : Nat} {ad0 : Nat → Nat} {g0 : aG}
variable {pc : Nat} {L st : List aV} {mm : aM} {X : aX} {own : String} {D : aD} {r2 : aR} {c1 c2 : aC} {B : List aD} {MI : List mI} {d q2 : Nat} {as : List aV}
theorem sd_min (hx : p.tables.exec = Jvm.exec) (hb : cd.code = cc) (hml : cd.maxLocals = nL) (hown : s.vm.findClass own = some m.cls) (hts : ∀ w ∈ gw, w.before args s = true) (hR : 1 ≤ R.frames ∧ 21 ≤ R.locals)
    (hdec : ∀ pc i n, D.2.2.2.1[pc]? = some (some (i, n)) → decode cc pc = .ok (i, n) ∧ iB nL pc n i = true) {I2 : mI} (hm : minI B q2 I2) (hcs : ∀ i n k a, D.2.2.2.1[pc]? = some (some (i, n)) → (i = .invokevirtual k ∨ i = .invokestatic k ∨ i = .invokespecial k) → D.1.2.2.2.1.lookup k = some (q2, a) → cOK own i I2 (aMd B q2).2.1 a (D.2.2.2.2.2 = []))
    (hroom : c2.2.2.2.2.2.1 ≤ R.cells ∧ c2.2.2.2.2.2.2 ≤ R.slots) (h : aCall D (pc, L, st, mm, X) = some (q2, as, c1)) (hg : Go B d q2 (aEnt (aMd B q2) as c1.2.2.2.1 c1.2.2.2.2) r2) (hret : aRet D pc c1 r2 = some c2)
    (kk : sJ p l e R s m args below meth cd ev nL ad0 g0 Q c2) : sJ p l e R s m args below meth cd ev nL ad0 g0 Q (pc, L, st, mm, X) := by
  obtain ⟨i, n, k, a, hc, hi, hl, hlen, hcat, hrc, rfl, rfl⟩ := aCall_inv h
  obtain ⟨hd, hiB⟩ := hdec pc i n hc
  obtain ⟨o1, o2, o3, o4, o5⟩ := hcs i n k a hc hi hl
  obtain ⟨m1, m2, m3, m4, m5⟩ := hm
  have hn3 : n = 3 := by rcases hi with rfl | rfl | rfl <;> exact of_decide_eq_true hiB
  subst hn3
  dsimp only at hg
  have hpd : (parseMethodDescriptor Lib.Math.min.name.desc).map (fun d => d.parameters.length) = some 2 := by decide +kernel
  rcases hi with rfl | rfl | rfl
  · exfalso
    obtain ⟨-, -, -, -, -, -, -, b8⟩ := o5
    rw [m2] at b8
    rcases b8 with ⟨-, -, T, N, b9⟩ | ⟨-, b9⟩
    · have hm := List.mem_map_of_mem (f := fun q : vw_C => q.1) (List.mem_of_getElem? b9)
      exact (show ∀ z ∈ vwCl.map (fun q : vw_C => q.1), z ≠ "java/lang/Math" by decide +kernel) _ hm rfl
    · exact absurd b9 (by decide +kernel)
  · obtain ⟨b2, b6, b5⟩ := o5
    have hlk : Cond.methodLink own k Lib.Math.min.name ∈ gw := by
      rcases b5 with b5 | ⟨b5, -⟩
      · rw [m2] at b5; exact b5
      · exfalso
        have := no_min _ b5
        rw [m2] at this
        have this : decide (Lib.Math.min.name = Lib.Math.min.name) = false := this
        rw [decide_eq_true rfl] at this
        cases this
    rw [m2, hpd] at b2
    have ha : a % 100 = 2 := (Option.some.inj b2).symm
    rw [ha] at hg hlen hcat hret
    obtain ⟨w1, w0, r, rfl⟩ : ∃ w1 w0 r, st = w1 :: w0 :: r := by
      match st, hlen with
      | w1 :: w0 :: r, _ => exact ⟨w1, w0, r, rfl⟩
    have hg : Go B d q2 (aEnt (aMd B q2) [w0, w1] mm X) r2 := hg
    obtain ⟨t0, t1, rfl⟩ := min_run m1 hg
    obtain ⟨u0, x0⟩ := w0
    obtain ⟨u1, x1⟩ := w1
    dsimp only at t0 t1
    subst t0 t1
    have hc2 : c2 = (pc + 3, L, (0, if x1 < x0 then x1 else x0) :: r, mm, (X.1, X.2.1 + 0, X.2.2 + 0)) := (Option.some.inj hret).symm
    subst hc2
    intro ad H locs ls g1 g2 g3 g4 g5
    have h0 : in32 x0 := g3.top2.2
    have h1 : in32 x1 := g3.top.2
    have hcw : cW I2 (aMd B q2).2.1 = .code Lib.Math.min.name Lib.Math.min.code 2 (some .int) := by unfold cW; rw [m5, m1, m2, m3, m4]; rfl
    refine va_mmin (x := Int32.ofInt x0) (y := Int32.ofInt x1) hx hb (hml.trans g5.2.1.symm) hown (hts _ hlk) (hts _ (by rw [← m2]; exact b6)) (hts _ (by rw [m2] at o2; exact o2)) (hts _ (by rw [← hcw]; exact o1)) hR.1 (by rw [cat_sum]; have : aCat r ≤ 8 := hcat; omega) hroom.1 hroom.2 hd ?_
    have hW := kk ad H locs ls g1 g2 ((wC.pop (nx := pc) (wC.pop (nx := pc) g3)).push ⟨n99_0 _, by split <;> assumption⟩) g4 g5
    have e9 : cv ev ad (0, if x1 < x0 then x1 else x0) = .int (if Int32.ofInt x1 < Int32.ofInt x0 then Int32.ofInt x1 else Int32.ofInt x0) := by
      show Value.int (Int32.ofInt (if x1 < x0 then x1 else x0)) = _
      by_cases hlt : x1 < x0
      · rw [if_pos hlt, if_pos ((i32_lt h1 h0).mpr hlt)]
      · rw [if_neg hlt, if_neg (fun h => hlt ((i32_lt h1 h0).mp h))]
    rw [← e9]
    exact hW
  · exfalso
    obtain ⟨-, -, b11, -⟩ := o5
    rw [m2] at b11
    exact absurd b11 (by decide +kernel)
end Min
section Main
variable {l : Launch} {B : List aD} {MI : List mI}
/-- the counters only grow -/
def xLe (X Y : aX) : Prop := X.2.1 ≤ Y.2.1 ∧ X.2.2 ≤ Y.2.2
theorem xLe.rf (X : aX) : xLe X X := ⟨Nat.le_refl _, Nat.le_refl _⟩
theorem aCmp_le {c : ClassFile.Cond} {a b : Int} {pc nx : Nat} {L r : List aV} {m : aM} {X : aX} {c' : aC} (h : aCmp c a b (some (pc, L, r, m, X)) (some (nx, L, r, m, X)) = some c') : xLe X c'.2.2.2.2 := by
  unfold aCmp at h
  split at h <;> split at h <;> (cases h; exact xLe.rf X)
set_option maxHeartbeats 4000000 in
theorem aOp_le {K : aK} {i : Instr} {nx pc : Nat} {L st : List aV} {m : aM} {X : aX} {c' : aC} (h : aOp K i nx pc L st m X = some c') : xLe X c'.2.2.2.2 := by
  unfold aOp at h
  split at h
  all_goals try (cases h; done)
  all_goals try (cases h; exact xLe.rf X)
  all_goals try unfold aLd at h
  all_goals try unfold aLdR at h
  all_goals try unfold aStI at h
  all_goals try unfold aStL at h
  all_goals try unfold aStR at h
  all_goals try unfold aI2 at h
  all_goals try unfold aL2 at h
  all_goals try unfold aLS at h
  all_goals try unfold aLoad aALd at h
  all_goals try unfold aStore aASt at h
  all_goals try unfold aGet at h
  all_goals try unfold aPut at h
  all_goals repeat' split at h
  all_goals first
    | exact aCmp_le h
    | (cases h; done)
    | (cases h; exact xLe.rf X)
    | (cases h; exact ⟨Nat.le_succ _, Nat.le_add_right _ _⟩)
    | (unfold aGet at h; repeat' split at h
       all_goals first | (cases h; done) | (cases h; exact xLe.rf X))
    | (unfold aPut at h; repeat' split at h
       all_goals first | (cases h; done) | (cases h; exact xLe.rf X))
/-- a method's facts -/
def mOK (B : List aD) (MI : List mI) (q : Nat) (I : mI) : Prop :=
  plainName I.1.cls = true ∧ I.2.2.1 = rtT (aMd B q).2.2.1 ∧
  (∀ pc i n, (aMd B q).2.2.2.1[pc]? = some (some (i, n)) → decode I.2.1 pc = .ok (i, n) ∧ iB (aMd B q).2.1 pc n i = true ∧ iKB I.1.cls (aMd B q).1 i = true ∧ (∀ k f, i = .putfield k → (aMd B q).1.1.lookup k = some f → (10 ≤ f.1 ∧ f.1 < 19) ∧ (wt f.2.2 → I.1.name = "<init>" ∧ ∀ C T N, vwCl[f.1 - 10]? = some (C, T, N) → C = I.1.cls ∧ Cond.fieldLink I.1.cls k C (T f.2.1).2.1 (T f.2.1).2.2.1 ∈ gw)) ∧
    (∀ k q2 a, (i = .invokevirtual k ∨ i = .invokestatic k ∨ i = .invokespecial k) → (aMd B q).1.2.2.2.1.lookup k = some (q2, a) → ∃ I2, MI[q2]? = some I2 ∧ cOK I.1.cls i I2 (aMd B q2).2.1 a ((aMd B q).2.2.2.2.2 = []))) ∧
  pOK I.1.cls (aMd B q).1 ∧
  (∀ pc e, (aMd B q).2.2.2.2.1.lookup pc = some e → thOK I.1.cls I.2.1 pc e ∧ I.2.2.2 = []) ∧
  (∀ cd : Code, cd.exceptionTable.toList = tableOf I.2.2.2 → hdOK I.1.cls I.2.1 (aMd B q).2.1 cd (aMd B q))
theorem aRet_le {D : aD} {pc : Nat} {c1 c2 : aC} {r2 : aR} (h : aRet D pc c1 r2 = some c2) : xLe c1.2.2.2.2 c2.2.2.2.2 := by
  obtain ⟨p1, L1, s1, m1, ⟨G1, a1, b1⟩⟩ := c1
  obtain ⟨k0, v0, m2, ⟨G2, mc, ms⟩⟩ := r2
  unfold aRet at h
  dsimp only at h
  split at h
  · cases h; exact ⟨Nat.le_add_right _ _, Nat.le_add_right _ _⟩
  · cases h; exact ⟨Nat.le_add_right _ _, Nat.le_add_right _ _⟩
  · split at h
    · cases h; exact ⟨Nat.le_add_right _ _, Nat.le_add_right _ _⟩
    · cases h
theorem aFin_le {D : aD} {c : aC} {r : aR} (h : aFin D c = some r) : xLe c.2.2.2.2 r.2.2.2 := by
  obtain ⟨pc, L, st, m, X⟩ := c
  rcases aFin_inv h with ⟨e1, hl, rfl, rfl⟩ | ⟨i, n, hi, ⟨_, _, rfl, _⟩ | ⟨_, v, _, _, rfl⟩ | ⟨_, v, _, rfl, _⟩ | ⟨_, u, v, _, _, _, rfl⟩⟩
  · exact ⟨Nat.le_add_right _ _, Nat.le_add_right _ _⟩
  all_goals exact xLe.rf X
theorem sJ_core {d q : Nat} (htr : l.stackTraces = false) (ih : ∀ q, (∀ I, MI[q]? = some I → ¬ minI B q I) → Ctr l B MI d q) {I : mI} (hM : mOK B MI q I) {ev : sV} {ad0 : Nat → Nat} {as : List aV} {m0 : aM} {X0 : aX} {r : aR} (hwA : wA ev as m0 X0.1) (hfit : aFit (aMd B q) as = true) (hg : Go B (d + 1) q (aEnt (aMd B q) as m0 X0) r)
    {p : Program} {e : Env} {R : Room} {s : State} {m : MethodId} {below : List Frame} {meth : Method} {c : Code} (hx : p.tables.exec = Jvm.exec) (hb : c.code = I.2.1) (hr : meth.sig.returnType = I.2.2.1) (hts : ∀ w ∈ gw, w.before (as.map (cv ev ad0)).toArray s = true) (hown : s.vm.findClass I.1.cls = some m.cls) (hlocks : meth.locks = false) (hin : meth.name = I.1.name)
    (hR : d + 13 ≤ R.frames ∧ 60 * d + 360 ≤ R.locals ∧ r.2.2.2.2.1 ≤ R.cells ∧ r.2.2.2.2.2 ≤ R.slots) (hml : c.maxLocals = (aMd B q).2.1) (hT : c.exceptionTable.toList = tableOf I.2.2.2) (hP : Wd ev ad0 X0.1 m0 s) :
    W p l e R s m (as.map (cv ev ad0)).toArray below meth c s.heap [] 0 0 (vx_MQ below (qC ev ad0 X0.1 r) (xC ev ad0 X0.1 r) (as.map (cv ev ad0)).toArray s r.2.2.2.2.1 r.2.2.2.2.2 (vA ev)) (entryFrame m (as.map (cv ev ad0)).toArray (aMd B q).2.1) := by
  obtain ⟨hP1, hD1, hKS⟩ := hP
  obtain ⟨-, hret, hins, hpk, hthr, hhd⟩ := hM
  obtain ⟨hf, hlo, hce, hsl⟩ := hR
  have hh := hhd c hT
  have hA : ∀ q, s.heap.size ≤ q → vA ev q := fun q hq => Nat.le_trans hKS.2.2.2.2.2.2.2.2.2.2.2.2.2.2.2 hq
  have hdec : ∀ pc i n, (aMd B q).2.2.2.1[pc]? = some (some (i, n)) → decode I.2.1 pc = .ok (i, n) ∧ iB (aMd B q).2.1 pc n i = true := fun pc i n h => ⟨(hins pc i n h).1, (hins pc i n h).2.1⟩
  have key := hg (fun c9 => xLe c9.2.2.2.2 r.2.2.2 ∧ sJ p l e R s m (as.map (cv ev ad0)).toArray below meth c ev (aMd B q).2.1 ad0 X0.1 (vx_MQ below (qC ev ad0 X0.1 r) (xC ev ad0 X0.1 r) (as.map (cv ev ad0)).toArray s r.2.2.2.2.1 r.2.2.2.2.2 (vA ev)) c9) ?_ ?_ ?_
  · have := key.2 ad0 s.heap [] _ (fun _ _ => rfl) (gLe.rf _) (ent_wC hwA) ⟨hP1, hD1, va_S.rf⟩ (ent_lR (Nat.le_of_ble_eq_true hfit))
    rw [lg_entry_eq]
    exact this
  · intro c9 h9
    refine ⟨aFin_le h9, ?_⟩
    obtain ⟨pc, L, st, mm, X⟩ := c9
    exact sd_fin hx hb hml hown hts hKS hlocks htr (hr.trans hret) ⟨by omega, by omega⟩ hdec (fun pc e h => ⟨(hthr pc e h).1, fun x hx => by rw [hT, (hthr pc e h).2] at hx; cases hx⟩) ⟨hce, hsl⟩ h9
  · intro c9 c' h9 hk
    obtain ⟨pc, L, st, mm, X⟩ := c9
    unfold aStep at h9
    dsimp only at h9
    split at h9
    · rename_i i n hc
      have hle := aOp_le h9
      refine ⟨⟨Nat.le_trans hle.1 hk.1.1, Nat.le_trans hle.2 hk.1.2⟩, ?_⟩
      obtain ⟨a1, a2, a3, a4, -⟩ := hins pc i n hc
      exact sd_op hx hb hml hown hts hKS hA ⟨by omega, by omega⟩ hpk (fun k f h1 h2 => ⟨(a4 k f h1 h2).1, fun h => ⟨hin.trans ((a4 k f h1 h2).2 h).1, ((a4 k f h1 h2).2 h).2⟩⟩) a2 a3 a1 ⟨Nat.le_trans hk.1.1 hce, Nat.le_trans hk.1.2 hsl⟩ h9 hk.2
    · cases h9
  · intro c9 q2 as2 c1 r2 c2 h9 hf2 hg2 hr2 hk
    obtain ⟨pc, L, st, mm, X⟩ := c9
    obtain ⟨i, n, k, a, hc, hi, hl, -, -, -, -, e1⟩ := aCall_inv h9
    have hle : xLe X c2.2.2.2.2 := by
      have := aRet_le hr2
      rw [e1] at this
      exact this
    refine ⟨⟨Nat.le_trans hle.1 hk.1.1, Nat.le_trans hle.2 hk.1.2⟩, ?_⟩
    obtain ⟨I2, hI2, -⟩ := (hins pc i n hc).2.2.2.2 k q2 a hi hl
    have hcs : ∀ i' n' k' a', (aMd B q).2.2.2.1[pc]? = some (some (i', n')) → (i' = .invokevirtual k' ∨ i' = .invokestatic k' ∨ i' = .invokespecial k') → (aMd B q).1.2.2.2.1.lookup k' = some (q2, a') → cOK I.1.cls i' I2 (aMd B q2).2.1 a' ((aMd B q).2.2.2.2.2 = []) := by
      intro i' n' k' a' h1 h2 h3
      obtain ⟨I3, hI3, ho⟩ := (hins pc i' n' h1).2.2.2.2 k' q2 a' h2 h3
      cases Option.some.inj (hI2.symm.trans hI3)
      exact ho
    by_cases hmin : minI B q2 I2
    · exact sd_min hx hb hml hown hts ⟨by omega, by omega⟩ hdec hmin hcs ⟨Nat.le_trans hk.1.1 hce, Nat.le_trans hk.1.2 hsl⟩ h9 hg2 hr2 hk.2
    · exact sd_call hx hb hml hown hts hKS ⟨by omega, by omega⟩ hdec hh hI2 hcs (ih q2 (fun I3 hI3 => by cases Option.some.inj (hI2.symm.trans hI3); exact hmin)) ⟨Nat.le_trans hk.1.1 hce, Nat.le_trans hk.1.2 hsl⟩ h9 hf2 hg2 hr2 hk.2
theorem sJ_body {d q : Nat} (htr : l.stackTraces = false) (ih : ∀ q, (∀ I, MI[q]? = some I → ¬ minI B q I) → Ctr l B MI d q) {I : mI} (hM : mOK B MI q I) {ev : sV} {ad0 : Nat → Nat} {as : List aV} {m0 : aM} {X0 : aX} {r : aR} (hwA : wA ev as m0 X0.1) (hfit : aFit (aMd B q) as = true) (hg : Go B (d + 1) q (aEnt (aMd B q) as m0 X0) r)
    (p : Program) (e : Env) (s : State) (m : MethodId) (args : Array Value) (below : List Frame) (meth : Method) (c : Code) (s₁ : State)
    (B9 : BodyLoose p l I.1 (headSpec (wsQ I (aMd B q).2.1) (rmD (d + 1) r.2.2.2.2.1 r.2.2.2.2.2)) I.2.1 (aMd B q).2.1 I.2.2.1 e s m args below meth c s₁) (hml : c.maxLocals = (aMd B q).2.1) (hT : c.exceptionTable.toList = tableOf I.2.2.2) (hP : va_Pc (as.map (cv ev ad0)) (Wd ev ad0 X0.1 m0) args s) :
    W p l e (headSpec (wsQ I (aMd B q).2.1) (rmD (d + 1) r.2.2.2.2.1 r.2.2.2.2.2)).room s m args below meth c s.heap [] 0 0 (vx_MQ below (qC ev ad0 X0.1 r) (xC ev ad0 X0.1 r) args s r.2.2.2.2.1 r.2.2.2.2.2 (vA ev)) (entryFrame m args (aMd B q).2.1) := by
  obtain ⟨rfl, hP⟩ := hP
  refine sJ_core htr ih hM hwA hfit hg B9.exec B9.bytes B9.returns (fun w hw => atoms_spec (ws := wsQ I (aMd B q).2.1) B9.pre w (List.mem_cons_of_mem _ hw)) (findClass_of_methodNamed B9.named) B9.notSynchronized (name_of_methodNamed B9.named B9.method).1 ⟨?_, ?_, Nat.le_refl _, Nat.le_refl _⟩ hml hT hP
  · have := rmD_f (d + 1) r.2.2.2.2.1 r.2.2.2.2.2
    show d + 13 ≤ (rmD (d + 1) r.2.2.2.2.1 r.2.2.2.2.2).frames
    generalize (rmD (d + 1) r.2.2.2.2.1 r.2.2.2.2.2).frames = x at this ⊢
    omega
  · have := rmD_l (d + 1) r.2.2.2.2.1 r.2.2.2.2.2
    show 60 * d + 360 ≤ (rmD (d + 1) r.2.2.2.2.1 r.2.2.2.2.2).locals
    generalize (rmD (d + 1) r.2.2.2.2.1 r.2.2.2.2.2).locals = x at this ⊢
    omega
theorem ctr_all (htr : l.stackTraces = false) (hM : ∀ q I, MI[q]? = some I → ¬ minI B q I → mOK B MI q I) : ∀ d q, (∀ I, MI[q]? = some I → ¬ minI B q I) → Ctr l B MI d q := by
  intro d
  induction d with
  | zero => intro q _ I hI ev ad0 as m0 X0 r _ _ hg; exact hg.elim
  | succ d ih =>
    intro q hnm I hI ev ad0 as m0 X0 r hwA hfit hg
    have hq := hM q I hI (hnm I hI)
    cases hhh : I.2.2.2 with
    | nil =>
      refine vx_ofW (cc := I.2.1) (maxL := (aMd B q).2.1) (ret := I.2.2.1) (ws' := gw) hq.1 (by unfold wsQ cW; rw [hhh]) ?_
      intro p e s m args below meth c s₁ B9 hml hno hP
      refine sJ_body htr ih hq hwA hfit hg p e s m args below meth c s₁ B9 hml ?_ hP
      rw [hhh]
      exact List.eq_nil_iff_forall_not_mem.mpr hno
    | cons h9 t9 =>
      refine vx_ofWH (cc := I.2.1) (maxL := (aMd B q).2.1) (ret := I.2.2.1) (hh := h9 :: t9) (ws' := gw) hq.1 (by unfold wsQ cW; rw [hhh]) ?_
      intro p e s m args below meth c s₁ B9 hml hP
      refine sJ_body htr ih hq hwA hfit hg p e s m args below meth c s₁ B9 hml ?_ hP
      refine vx_table (x := I.1) (bytes := I.2.1) (maxL' := (aMd B q).2.1) (ret' := I.2.2.1) B9 ?_
      refine atoms_spec (ws := wsQ I (aMd B q).2.1) B9.pre _ ?_
      unfold wsQ cW
      rw [hhh]
      exact List.mem_cons_self
end Main
