/-! METHODS: entry, ends, contracts -/
/-- name, code, kind of answer, handlers -/
abbrev mI : Type := MethodName × ByteArray × Option FieldType × List (Nat × Nat × Nat × Nat)
def exL : List String := ["java/lang/IllegalArgumentException", "java/lang/IllegalStateException", "java/util/NoSuchElementException", "java/lang/UnsupportedOperationException", "java/lang/IndexOutOfBoundsException"]
def exN (e : Nat) : String := exL.getD e ""
def cW (I : mI) (nL : Nat) : Cond := match I.2.2.2 with
  | [] => .code I.1 I.2.1 nL I.2.2.1
  | h :: t => .codeWith I.1 I.2.1 nL I.2.2.1 (h :: t)
def wsQ (I : mI) (nL : Nat) : List Cond := cW I nL :: gw
def rmD (d mc ms : Nat) : Room := { frames := d + 12, cells := mc, slots := ms, locals := 60 * d + 300 }
/-- what a run ends with, in the world -/
def rV (ev : sV) (ad : Nat → Nat) (r : aR) : Option Value := match r.1 with
  | 0 => none
  | _ => some (cv ev ad r.2.1)
def wR (ev : sV) (g0 : aG) (r : aR) : Prop := gLe g0 r.2.2.2.1 ∧ wM r.2.2.2.1 r.2.2.1 ∧ (∀ j, r.2.2.1 (-1) j = vXs ev j) ∧ vXs ev (-1) = vXn ev ∧ (r.1 = 1 → r.2.1.1 ≠ 99 ∧ wv r.2.2.2.1 r.2.1)
def qC (ev : sV) (ad0 : Nat → Nat) (g0 : aG) (r : aR) : Array Value → State → Outcome → State → Prop := fun _ st oc t =>
  (r.1 < 2 ∧ wR ev g0 r ∧ ∃ ad : Nat → Nat, (∀ k, k ≤ g0.1 → ad k = ad0 k) ∧ oc = .returned (rV ev ad r) ∧ va_P (vD ev) vwCl (sWl ev ad r.2.2.2.1 r.2.2.1) t.heap ∧ va_D (vA ev) (sWl ev ad r.2.2.2.1 r.2.2.1)) ∧ va_F (vA ev) st t
def xC (ev : sV) (ad0 : Nat → Nat) (g0 : aG) (r : aR) : String → State → State → Prop := fun E st t =>
  (2 ≤ r.1 ∧ E = exN (r.1 - 2) ∧ wR ev g0 r ∧ ∃ ad : Nat → Nat, (∀ k, k ≤ g0.1 → ad k = ad0 k) ∧ va_P (vD ev) vwCl (sWl ev ad r.2.2.2.1 r.2.2.1) t.heap ∧ va_D (vA ev) (sWl ev ad r.2.2.2.1 r.2.2.1)) ∧ va_F (vA ev) st t
/-- the world at a method's entry -/
def Wd (ev : sV) (ad : Nat → Nat) (G : aG) (m : aM) (U : State) : Prop := va_P (vD ev) vwCl (sWl ev ad G m) U.heap ∧ va_D (vA ev) (sWl ev ad G m) ∧ KS ev U U.heap
/-- arguments and memory are of their kinds -/
def wA (ev : sV) (as : List aV) (m : aM) (G : aG) : Prop := (∀ v ∈ as, v.1 ≠ 99 ∧ wv G v) ∧ wM G m ∧ (∀ j, m (-1) j = vXs ev j) ∧ vXs ev (-1) = vXn ev
/-- a method's contract: what the abstract machine does, the machine does -/
def Ctr (l : Launch) (B : List aD) (MI : List mI) (d q : Nat) : Prop := ∀ (I : mI), MI[q]? = some I → ∀ (ev : sV) (ad0 : Nat → Nat) (as : List aV) (m0 : aM) (X0 : aX) (r : aR), wA ev as m0 X0.1 → aFit (aMd B q) as = true → Go B d q (aEnt (aMd B q) as m0 X0) r →
  vx_Met l I.1 (wsQ I (aMd B q).2.1) (rmD d r.2.2.2.2.1 r.2.2.2.2.2) (va_Pc (as.map (cv ev ad0)) (Wd ev ad0 X0.1 m0)) (qC ev ad0 X0.1 r) (xC ev ad0 X0.1 r) r.2.2.2.2.1 r.2.2.2.2.2 (vA ev)
theorem Wd.blind {ev : sV} {ad : Nat → Nat} {G : aG} {m : aM} {av : List Value} : FrameBlind (va_Pc av (Wd ev ad G m)) := by
  intro a U g mk h
  obtain ⟨h1, h2, h3, h4⟩ := h
  exact ⟨h1, h2, h3, KS.move (s := U) (U := U.calling g mk a) (State.WarmedH.refl U) (fun _ _ _ => rfl) (Nat.le_refl _) h4⟩
theorem good_gw {w : Cond} (h : w ∈ gw) : (w.onTables && w.keeps) = true ∨ ∃ ty, w = .arrayClass ty := good_of_word (List.mem_filter.mp h).2
theorem goodIn_gw {ws : List Cond} (h : ∀ w ∈ ws, w ∈ gw) : GoodIn gw ws := fun w hw => ⟨h w hw, good_gw (h w hw)⟩
def flt (as : List aV) : List aV := as.flatMap fun v => if v.1 = 1 then [v, (99, 0)] else [v]
theorem flt_args (ev : sV) (ad : Nat → Nat) : ∀ (as : List aV) (k i : Nat) (v : aV), (flt as)[i]? = some v → v.1 ≠ 99 → (k + i, cv ev ad v) ∈ lv_args k (as.map (cv ev ad)) := by
  intro as
  induction as with
  | nil => intro k i v h; simp [flt] at h
  | cons a as ih =>
    intro k i v h hv
    have hc := cv_cat ev ad a
    simp only [List.map_cons, lv_args, hc]
    have e : flt (a :: as) = (if a.1 = 1 then [a, (99, 0)] else [a]) ++ flt as := by simp [flt]
    rw [e] at h
    by_cases ha : a.1 = 1
    · rw [if_pos ha] at h ⊢
      rw [if_pos rfl]
      match i, h with
      | 0, h =>
        simp at h
        rw [← h]
        exact List.mem_cons_self
      | 1, h =>
        simp at h
        rw [← h] at hv
        exact absurd rfl hv
      | i + 2, h =>
        have h : (flt as)[i]? = some v := by simpa using h
        have := ih (k + 2) i v h hv
        rw [show k + 2 + i = k + (i + 2) by omega] at this
        exact List.mem_cons_of_mem _ this
    · rw [if_neg ha] at h ⊢
      rw [if_neg (by decide)]
      match i, h with
      | 0, h =>
        simp at h
        rw [← h]
        exact List.mem_cons_self
      | i + 1, h =>
        have h : (flt as)[i]? = some v := by simpa using h
        have := ih (k + 1) i v h hv
        rw [show k + 1 + i = k + (i + 1) by omega] at this
        exact List.mem_cons_of_mem _ this
theorem flt_len (ev : sV) (ad : Nat → Nat) (as : List aV) : (lg_sl (as.map (cv ev ad))).length = (flt as).length := by
  induction as with
  | nil => rfl
  | cons a as ih =>
    have e1 : lg_sl ((a :: as).map (cv ev ad)) = (if (cv ev ad a).category = 2 then [.val (cv ev ad a), .second] else [.val (cv ev ad a)]) ++ lg_sl (as.map (cv ev ad)) := by simp [lg_sl]
    have e2 : flt (a :: as) = (if a.1 = 1 then [a, (99, 0)] else [a]) ++ flt as := by simp [flt]
    rw [e1, e2, List.length_append, List.length_append, ih, cv_cat]
    by_cases ha : a.1 = 1
    · rw [if_pos ha, if_pos rfl, if_pos ha]; rfl
    · rw [if_neg ha, if_neg (by decide), if_neg ha]; rfl
theorem flt_mem {as : List aV} {v : aV} (h : v ∈ flt as) : v ∈ as ∨ v = (99, 0) := by
  unfold flt at h
  obtain ⟨a, ha, h⟩ := List.mem_flatMap.mp h
  split at h
  · simp at h
    rcases h with rfl | rfl
    · exact Or.inl ha
    · exact Or.inr rfl
  · simp at h
    exact Or.inl (h ▸ ha)
def aL0 (nL : Nat) (as : List aV) : List aV := flt as ++ List.replicate (nL - (flt as).length) (99, 0)
theorem aEnt_eq (D : aD) (as : List aV) (m : aM) (X : aX) : aEnt D as m X = (0, aL0 D.2.1 as, [], m, (X.1, 0, 0)) := rfl
theorem ent_lR {ev : sV} {ad : Nat → Nat} {nL : Nat} {as : List aV} (h : (flt as).length ≤ nL) : lR ev ad nL (aL0 nL as) ((lg_sl (as.map (cv ev ad)) ++ List.replicate (nL - (lg_sl (as.map (cv ev ad))).length) Slot.unset).toArray) := by
  refine lR.of (lv_entry (as.map (cv ev ad)) (by rw [flt_len]; exact h)) ?_ (fun i v hi hv => ?_)
  · unfold aL0
    rw [List.length_append, List.length_replicate]
    omega
  · unfold aL0 at hi
    by_cases hl : i < (flt as).length
    · rw [List.getElem?_append_left hl] at hi
      have := flt_args ev ad as 0 i v hi hv
      rwa [Nat.zero_add] at this
    · rw [List.getElem?_append_right (by omega)] at hi
      have := List.eq_of_mem_replicate (List.mem_of_getElem? hi)
      rw [this] at hv
      exact absurd rfl hv
theorem ent_wC {ev : sV} {nL : Nat} {as : List aV} {m : aM} {X : aX} (h : wA ev as m X.1) : wC ev (0, aL0 nL as, [], m, (X.1, 0, 0)) := by
  refine ⟨fun v hv hn => ?_, fun v hv => (by cases hv), h.2.1, h.2.2.1, h.2.2.2⟩
  rcases List.mem_append.mp hv with hv | hv
  · rcases flt_mem hv with hv | rfl
    · exact (h.1 v hv).2
    · exact absurd rfl hn
  · rw [List.eq_of_mem_replicate hv] at hn
    exact absurd rfl hn
theorem nw_use {w : Cond} (hn : isNest w = true) {s : State} {args : Array Value} (h : va_Nw w s) : w.before args s = true := by
  cases w <;> first | exact va_Nw.use rfl h | cases hn
/-! A THROWABLE WHOSE FIRST CONSTRUCTOR HAS ANY LINK NUMBER, traces off: my own walk over the library's ctorMessageOffV and athrowLeaves (the library has it for one number only) -/
section NX
variable {p : Program} {l : Launch} {e : Env} {R : Room} {s : State} {m₀ : MethodId} {args : Array Value} {below : List Frame} {meth : Method} {c : Code} {W0 : State} {locs : List Loc} {cells slots : Nat}
theorem nx_sel (hA : l.admits e) {cls : String} {t : MethodName} {C : ClassId} {mt : MethodId} (hf : s.vm.findClass cls = some C) (hm : s.methodNamed? t = some mt) (h2 : s.methodFound? t.cls t.name t.desc = some mt) (h : (Cond.selects cls t t).before args s = true) : selectMethod e.platform s.vm C mt = .method mt := by
  obtain ⟨c2, r2, m2, q1, q2, q3, q4, -⟩ := Cond.selects_spec h
  obtain rfl := Option.some.inj (q1.symm.trans hf)
  obtain rfl := Option.some.inj (q2.symm.trans h2)
  obtain rfl := Option.some.inj (q3.symm.trans hm)
  rw [Launch.admits_selectMethod hA]
  exact q4
def nxB (rx : ByteArray) (ix : Nat) : Prop := decode rx 0 = .ok (.aload_n 0, 1) ∧ decode rx 1 = .ok (.aload_n 1, 1) ∧ decode rx 2 = .ok (.invokespecial ix, 3) ∧ decode rx 5 = .ok (.return_, 1)
def vx_atX (own : String) (ic : Nat) (X : String) (ix : Nat) (rx : ByteArray) (names : List String) : List Cond := (Bundle.ownAtomsX own ic X ix rx names).filter vx_no
set_option maxHeartbeats 1000000 in
theorem nx_walk (X : Stand p l e R s m₀ args below meth c W0 locs cells slots) (hexec : p.tables.exec = Jvm.exec) (htr : e.platform.stackTraces = false) {own cls : String} {names : List String} {ic ix : Nat} {rx : ByteArray} (hrx : nxB rx ix)
    (hown : s.vm.findClass own = some m₀.cls) (hcls : Bundle.fit cls = true) (hnames : ∀ n ∈ names, Bundle.fit n = true) (h : ∀ w ∈ Bundle.ownAtomsX own ic cls ix rx names, w.before args s = true)
    (hlocs : ∀ x ∈ locs, ∀ cell, s.heap[x.base]? = some cell → cell.vm.isStatics = false) {a : Addr} {cX : ClassId} {kX : Class} (hfX : s.vm.findClass cls = some cX) (hkX : s.vm.classes[cX]? = some kX) (hcell : W0.heap[a]? = some (freshCell cX kX)) (hnew : s.heap.size ≤ a)
    {msg : Value} (hmsg : msg.isRef = true) {g : JFrame} (hg : g.method = m₀) (hsize : g.locals.size = c.maxLocals) (hlk : g.locked = none) (hen : g.entered = []) {rest : List Value} (hst : g.stack = msg :: .ref a :: .ref a :: rest)
    (d6 : decode c.code g.pc = .ok (.invokespecial ic, 3)) (d9 : decode c.code (g.pc + 3) = .ok (.athrow, 1)) (hout : ∀ x ∈ c.exceptionTable.toList, covers x (g.pc + 3) = false)
    (hRf : names.length + 3 < R.frames) (hRl : 2 * g.monitorRoom + ((Value.ref a :: rest).map fun v => v.category).sum + (13 * (names.length + 1) + 42) ≤ R.locals) (hlocks : meth.locks = false) :
    ∃ U : State, Steps p.tables e below (W0.setTop g) U ∧ U.status = .running ∧ Ended U below (.threw a) ∧ s.WarmedH U.vm ∧ s.sameButNew ({ U with vm := s.vm } : State) locs cells slots ∧ ∃ ce, U.heap[a]? = some ce ∧ s.vm.findClass cls = some ce.cls ∧ ce.vm = .none := by
  have hpl : e.platform.magicAccessors = ({} : Platform).magicAccessors := by rw [X.admits.platform]
  -- a word of the list, by the list's form
  have wd : ∀ w, w ∈ Bundle.ownAtomsX own ic cls ix rx names → w.before args s = true := h
  obtain ⟨T, Z0, L, -, Y⟩ := ThrowableC.of_atoms (args := args) (by rw [X.admits.platform]) (by rw [X.admits.platform]) hpl (fun w hw => wd w (by simp [Bundle.ownAtomsX, hw]))
  obtain ⟨Z, M, LZ, LM, hZ⟩ := Init0T.ofS_atoms (args := args) hpl L Y (fun w hw => wd w (by simp [Bundle.ownAtomsX, hw]))
  obtain ⟨P1, Ps, hn, L1, LP, hP1, hsup, hon⟩ := Bundle.chainSX (args := args) hpl hZ hrx.1 hrx.2.1 hrx.2.2.1 hrx.2.2.2 names cls hcls hnames (fun w hw => wd w (by simp [Bundle.ownAtomsX, hw]))
  obtain rfl := Option.some.inj (hfX.symm.trans (findClass_of_methodNamed hP1))
  obtain ⟨c9, k9, hc9, hk9, hord, -, -, -⟩ := Cond.instantiable_spec (wd (.instantiable cls 6) (by simp [Bundle.ownAtomsX]))
  obtain rfl := Option.some.inj (hc9.symm.trans hfX)
  obtain rfl := Option.some.inj (hkX.symm.trans hk9)
  -- the statics of Throwable
  obtain ⟨cS0, hS0, hiss⟩ := Y.statics
  obtain ⟨u0, hu0⟩ := Cond.staticRefV Y.unassigned L.unassignedStatic L.statics hS0 hiss (wd (.isRef (.static Bundle.tN "UNASSIGNED_STACK" Bundle.steD)) (by simp [Bundle.ownAtomsX]))
  obtain ⟨sen, hsen⟩ := Cond.staticRefV Y.sentinel L.sentinelStatic L.statics hS0 hiss (wd (.isRef (.static Bundle.tN "SUPPRESSED_SENTINEL" Bundle.listD)) (by simp [Bundle.ownAtomsX]))
  obtain ⟨cS, hS, heS, -, hkeep⟩ := X.same.2.2.2.2.2 T.aS cS0 hS0
  have hkp : ∀ i, cS.slots[i]? = cS0.slots[i]? := fun i => hkeep i (fun hm => by have := hlocs _ hm cS0 hS0; rw [hiss] at this; cases this)
  have hkn : cS.vm ≠ .unknown := by
    rw [heS]
    intro hu
    have hu : cS0.vm = .unknown := hu
    rw [hu] at hiss
    cases hiss
  -- the fields of the new cell
  obtain ⟨ciB, iB9, fB, hB1, hB2, hB3, hB4, -, hB5, hB6, hB7⟩ := Cond.ownField (t := .object "java/lang/Object") Y.found L.cls (by decide +kernel) (wd (.fieldLink Bundle.tN 198 Bundle.tN "backtrace" "Ljava/lang/Object;") (by simp [Bundle.ownAtomsX])) (wd (.lays Bundle.tN Bundle.tN "backtrace" "Ljava/lang/Object;") (by simp [Bundle.ownAtomsX])) e.platform hpl
  obtain ⟨iM, hM⟩ := Y.msg
  obtain ⟨tC, dC, eC, nC⟩ := Cond.laysAt hfX hkX Y.cause (wd (.lays cls Bundle.tN "cause" "Ljava/lang/Throwable;") (by simp [Bundle.ownAtomsX]))
  obtain ⟨tS, dS, eS, nS⟩ := Cond.laysAt hfX hkX Y.stack (wd (.lays cls Bundle.tN "stackTrace" Bundle.steD) (by simp [Bundle.ownAtomsX]))
  obtain ⟨tP, dP, eP, nP⟩ := Cond.laysAt hfX hkX Y.supp (wd (.lays cls Bundle.tN "suppressedExceptions" Bundle.listD) (by simp [Bundle.ownAtomsX]))
  obtain ⟨tM, -, -, -⟩ := Cond.laysAt hfX hkX hM (wd (.lays cls Bundle.tN "detailMessage" "Ljava/lang/String;") (by simp [Bundle.ownAtomsX]))
  obtain ⟨tB, dB, eB, nB⟩ := Cond.laysAt hfX hkX hB7 (wd (.lays cls Bundle.tN "backtrace" "Ljava/lang/Object;") (by simp [Bundle.ownAtomsX]))
  have b1 := Cond.laysApart eB eC nB nC (by rw [hB5, Y.causeName]; decide)
  have b2 := Cond.laysApart eB eS nB nS (by rw [hB5, Y.stackName]; decide)
  have b3 := Cond.laysApart eB eP nB nP (by rw [hB5, Y.suppName]; decide)
  have hbk : ((preparedCellV T.toThrowableT (freshCell P1.m.cls kX) a u0 sen).withEntry W0.cur).slots[fB.slot]? = some .null := by
    have hd := fresh_default (c := P1.m.cls) tB
    rw [hB6] at hd
    simpa [preparedCellV, Cell.setSlot, Cell.withEntry, Array.getElem?_setIfInBounds, b1, b2, b3, b1.symm, b2.symm, b3.symm, defaultValue] using hd
  -- the call of the constructor
  obtain ⟨tm, -, -, -, vm1, hnm, -, -, -, -, -, -, -, hW1, st1⟩ := Steps.initColdS (tb := p.tables) (e := e) (below := below) (s := s) (U := W0) X.here hexec X.warmed hpl hown (t := Bundle.initS cls) rfl rfl (Bundle.fit_spec hcls).2
    (wd (.methodLink own ic (Bundle.initS cls)) (by simp [Bundle.ownAtomsX])) (wd (.instanceMethod (Bundle.initS cls)) (by cases names <;> simp [Bundle.ownAtomsX, Bundle.chainSAtomsX, Bundle.passSAtoms])) (bytes := rx) (maxL := 2) (wd (.code (Bundle.initS cls) rx 2 none) (by cases names <;> simp [Bundle.ownAtomsX, Bundle.chainSAtomsX, Bundle.passSAtoms]))
    (f := g) hg (a := a) (msg := msg) (rest := .ref a :: rest) hst d6
  obtain rfl := Option.some.inj (hnm.symm.trans hP1)
  obtain ⟨vm2, X2, st2⟩ := (X.noted hW1).ctorMessageOffV hexec (g := { g with stack := .ref a :: rest }) hg hsize T L Z LZ M LM (P1 :: Ps) (fun P hP => (List.mem_cons.mp hP).elim (fun e => by rw [e]; exact L1) (LP P)) ⟨hsup, hon⟩ (u0 := u0) (sen := sen) (self := a) hmsg (cell := freshCell P1.m.cls kX) (cellS := cS) hcell (fun _ => by simp) (by simp) rfl rfl
    (nx_sel X.admits hfX Y.fill0 (State.methodFound?_of_named Y.fill0 (by decide)) (wd _ (by simp [Bundle.ownAtomsX]))) (nx_sel X.admits hfX Y.fill (State.methodFound?_of_named Y.fill (by decide)) (wd _ (by simp [Bundle.ownAtomsX])))
    hS (Nat.ne_of_lt (Nat.lt_of_lt_of_le (Array.getElem?_eq_some_iff.mp hS0).1 hnew)) hkn ((hkp _).trans hu0) ((hkp _).trans hsen)
    (Takes.of_laid hkX hord tC (by rw [Y.causeType]; rfl)) (Takes.of_laid hkX hord tS (by rw [Y.stackType]; exact fits_refV_array _ u0)) (Takes.of_laid hkX hord tP (by rw [Y.suppType]; exact fits_refV_object _ sen)) (Takes.of_laid hkX hord tM (by rw [Y.msgType]; exact fits_refV_object _ ⟨msg, hmsg⟩)) Y.objLocals
    ⟨{ ci198 := ciB, i198 := iB9, fBack := fB }, ⟨hB1, hB2, hB3, hB4⟩, hbk, fun _ _ => rfl⟩ htr [] d6 (by simp only [List.length_cons, hn]; omega) (by simp only [List.length_cons, hn]; exact hRl)
  obtain ⟨k1, k2, k3, k4, k5⟩ := X2.athrowLeaves hexec (g := { g with stack := .ref a :: rest, pc := g.pc + 3 }) hg hlk hen hout (a := a) (rest := rest) rfl d9 hlocks
  have hU := heapAt_setCell_self (s := (W0.setVm vm1).setVm vm2) (plainBareV T.toThrowableT (freshCell P1.m.cls kX) a u0 sen msg) (Array.getElem?_eq_some_iff.mp hcell).1
  refine ⟨_, st1 _ (fun acts => by rw [doInvoke_state]; exact st2 _ k1), k2, k3, k4, k5.weaken (fun y hy hlt => ?_) (Nat.le_refl _) (Nat.le_refl _), _, hU, hfX, rfl⟩
  rcases List.mem_append.mp hy with hy | hy
  · exact hy
  · have hb : y.base = a := by
      simp only [List.mem_cons, List.not_mem_nil, or_false] at hy
      rcases hy with rfl | rfl | rfl | rfl | rfl <;> rfl
    rw [hb] at hlt
    exact absurd hlt (Nat.not_lt.mpr hnew)
end NX
/-! 'throw new E("text")', E's constructor with any link number: a sister of vx_throwS -/
section NXT
variable {p : Program} {l : Launch} {e : Env} {R : Room} {s : State} {m : MethodId} {args : Array Value} {below : List Frame} {meth : Method} {c : Code} {H : Heap} {locs : List Loc} {cells slots : Nat} {Q : State → Prop}
variable {mc ms : Nat} {free : Addr → Prop} {ls : Array Slot} {rest : List Value} {Qc : Array Value → State → Outcome → State → Prop} {XC : String → State → State → Prop}
theorem vx_throwX {cc : ByteArray} {pc : Nat} (hexec : p.tables.exec = Jvm.exec) (hb : c.code = cc) (hl : l.stackTraces = false) {own cls text : String} {names : List String} {ik is ic mc ms sa ix : Nat} {rx : ByteArray} {A : Nat → Prop}
    (hrx : nxB rx ix) (hown : s.vm.findClass own = some m.cls) (hcls : Bundle.fit cls = true) (hnames : ∀ n ∈ names, Bundle.fit n = true)
    (hk : (Cond.classLink own ik cls).before args s = true) (hini : (Cond.initialized cls).before args s = true) (hstr : vk_R own is text sa s) (hat : ∀ w ∈ vx_atX own ic cls ix rx names, w.before args s = true)
    (hgood : ∀ w ∈ Cond.classLink own ik cls :: Cond.initialized cls :: vx_atX own ic cls ix rx names, vx_ot w = true)
    (hU : vx_Zq Bundle.tN "UNASSIGNED_STACK" Bundle.steD A s s.heap) (hN : vx_Zq Bundle.tN "SUPPRESSED_SENTINEL" Bundle.listD A s s.heap) (hS : va_S A s.heap H locs) (hsize : ls.size = c.maxLocals)
    (d0 : decode cc pc = .ok (.new ik, 3)) (d3 : decode cc (pc + 3) = .ok (.dup, 1)) (d4 : decode cc (pc + 4) = .ok (.ldc is, 2)) (d6 : decode cc (pc + 6) = .ok (.invokespecial ic, 3)) (d9 : decode cc (pc + 9) = .ok (.athrow, 1))
    (hout : ∀ x ∈ c.exceptionTable.toList, covers x (pc + 9) = false)
    (hRframes : names.length + 3 < R.frames) (hRlocals : (rest.map fun v => v.category).sum + (13 * (names.length + 1) + 43) ≤ R.locals) (hRcells : cells + 1 ≤ R.cells) (hRslots : slots + 6 ≤ R.slots) (hlocks : meth.locks = false)
    (hx : ∀ t : State, s.vm.Alike t.vm → H.size ≤ t.heap.size → (∀ q : Nat, q < H.size → t.heap[q]? = H[q]?) → XC cls s t)
    (hf : ∀ z ∈ locs, free z.base) (hc : cells + 1 ≤ mc) (hs : slots + 6 ≤ ms) :
    W p l e R s m args below meth c H locs cells slots (vx_MQ below Qc XC args s mc ms free) (F0 m pc ls rest) := by
  intro T hT X
  have htr : e.platform.stackTraces = false := (show e.platform.stackTraces = l.stackTraces by rw [X.admits.platform]).trans hl
  have Y := vx_rebase X (R' := { frames := R.frames, locals := R.locals, cells := 1, slots := 6 }) (Nat.le_refl _) (Nat.le_refl _) hRcells hRslots
  obtain ⟨s', hA⟩ : ∃ z, z = (T.setVm s.vm).setFrames (.invoking m args :: below) := ⟨_, rfl⟩
  rw [← hA] at Y
  have hvm : s'.vm = s.vm := by rw [hA]; rfl
  have hhp : s'.heap = H := by rw [hA]; exact hT
  have hW0 : s.WarmedH s'.vm := by rw [hvm]; exact State.WarmedH.refl s
  have hat' : ∀ w ∈ vx_atX own ic cls ix rx names, w.before args s' = true := fun w hw => vx_ot_at hW0 hvm.symm (hgood w (List.mem_cons_of_mem _ (List.mem_cons_of_mem _ hw))) (hat w hw)
  have hk' : (Cond.classLink own ik cls).before args s' = true := vx_ot_at hW0 hvm.symm (hgood _ List.mem_cons_self) hk
  have hini' : (Cond.initialized cls).before args s' = true := vx_ot_at hW0 hvm.symm (hgood _ (List.mem_cons_of_mem _ List.mem_cons_self)) hini
  have hU' : vx_Zq Bundle.tN "UNASSIGNED_STACK" Bundle.steD A s' s'.heap := by rw [hhp]; exact vx_Zq.moved hW0.alike (hU.kept hS.2.1)
  have hN' : vx_Zq Bundle.tN "SUPPRESSED_SENTINEL" Bundle.listD A s' s'.heap := by rw [hhp]; exact vx_Zq.moved hW0.alike (hN.kept hS.2.1)
  have h : ∀ w ∈ Bundle.ownAtomsX own ic cls ix rx names, w.before args s' = true := vx_own hat' (vx_isRefq hU'.1) (vx_isRefq hN'.1) hU'.2.word hN'.2.word
  have hown' : s'.vm.findClass own = some m.cls := by rw [hvm]; exact hown
  have hins : (Cond.instantiable cls 6).before args s' = true := h _ (by simp [Bundle.ownAtomsX])
  obtain ⟨vm₁, cX, kX, hfX, hkX, -, -, X₁, st1⟩ := Y.newCold hexec (own := own) (C := cls) (index := ik) (n := 6) hown' hk' hins hini'
    (g := F0 m pc ls rest) rfl (by rw [hb]; exact d0) (Nat.le_refl _) (Nat.le_refl _)
  generalize hT1 : (T.setVm vm₁).pushCell { cls := cX, slots := kX.instanceTypes.map defaultValue, vm := .none } = T1 at X₁ st1
  have hcat : (Value.ref T.heap.size).category = 1 := rfl
  have hcellA : T1.heap[T.heap.size]? = some (freshCell cX kX) := by rw [← hT1]; exact State.heap_pushCell_size _ _
  have d3' : decode c.code (pc + 3) = .ok (.dup, 1) := by rw [hb]; exact d3
  have d4' : decode c.code (pc + 4) = .ok (.ldc is, 2) := by rw [hb]; exact d4
  have hstr' : vk_R own is text sa s' := vk_R.warm hW0 hstr
  obtain ⟨U, hsteps, hrun, hend, hW, hsame, ce, hce, hO1, hO2⟩ := nx_walk X₁ hexec htr (own := own) (cls := cls) (names := names) (ic := ic) hrx hown' hcls hnames h (fun x hx => nomatch hx) hfX hkX hcellA (by rw [hhp, hT]; exact Nat.le_refl _) (msg := .ref sa) rfl
    (g := { method := m, pc := pc + 6, locals := ls, stack := .ref sa :: .ref T.heap.size :: .ref T.heap.size :: rest, locked := none }) rfl hsize rfl rfl (rest := rest) rfl
    (by rw [hb]; exact d6) (by rw [hb]; exact d9) hout hRframes (by simp only [List.map_cons, List.sum_cons, hcat]; omega) hlocks
  obtain ⟨f1, f2⟩ := vx_frame hsame
  rw [hhp] at f1 f2
  have hWs : s.WarmedH U.vm := State.WarmedH.trans hW0 hW
  have hcl : s.vm.findClass cls = some ce.cls := by
    have h9 := hO1
    rw [hvm] at h9
    exact h9
  have hall : s.sameButNew ({ U with vm := s.vm } : State) locs mc ms := by
    subst hA
    obtain ⟨e1, e2⟩ := hsame
    rw [State.setFrames_setFrames] at e1
    have h2 : (T.setVm s.vm).sameButNew ({ U with vm := s.vm } : State) [] (0 + 1) (0 + 6) := ⟨e1, e2⟩
    have h3 := X.same.trans h2
    rw [List.append_nil] at h3
    exact h3.mono hc hs
  refine ⟨U, ?_, .threw T.heap.size, hrun, hend, Or.inr ⟨T.heap.size, rfl, cls, ce, locs, hx U hWs.alike f1 (fun q hq => f2 q hq (fun z hz => nomatch hz)), hce, hO2, hcl, hWs, hall, hf⟩⟩
  refine st1 _ ?_
  show Steps p.tables e below (T1.setTop { method := m, pc := pc + 3, locals := ls, stack := .ref T.heap.size :: rest, locked := none }) _
  jvm_step X₁.here [X₁.here.top, hexec, d3', Value.category]
  exact X₁.ldcString hexec (own := own) (text := text) (index := is) (a := sa) hown' hstr'.1 hstr'.2
    (g := { method := m, pc := pc + 4, locals := ls, stack := .ref T.heap.size :: .ref T.heap.size :: rest, locked := none }) rfl d4' _ hsteps
end NXT
section Ends
variable {p : Program} {l : Launch} {e : Env} {R : Room} {s : State} {m : MethodId} {args : Array Value} {below : List Frame} {meth : Method} {cd : Code} {cc : ByteArray} {ev : sV} {nL : Nat} {ad0 : Nat → Nat} {g0 : aG}
variable {pc n : Nat} {L st : List aV} {mm : aM} {X : aX} {own : String} {D : aD} {r : aR}
/-- the kind of answer -/
def rtT : Nat → Option FieldType
  | 0 => some .int
  | 1 => some .long
  | 5 => some .boolean
  | 6 => some .char
  | 7 => some .byte
  | 9 => none
  | 15 => some (.object "AskedTable$Token")
  | 40 => some (.object "AskedTable$Word")
  | _ => some .float
/-- a throw's facts -/
def thOK (own : String) (cc : ByteArray) (pc e : Nat) : Prop := ∃ (ik is ic : Nat) (text : String) (ix : Nat) (rx : ByteArray), nxB rx ix ∧ decode cc pc = .ok (.new ik, 3) ∧ decode cc (pc + 3) = .ok (.dup, 1) ∧ decode cc (pc + 4) = .ok (.ldc is, 2) ∧ decode cc (pc + 6) = .ok (.invokespecial ic, 3) ∧ decode cc (pc + 9) = .ok (.athrow, 1) ∧
  Bundle.fit (exN e) = true ∧ Cond.classLink own ik (exN e) ∈ gw ∧ Cond.initialized (exN e) ∈ gw ∧ (own, is, text) ∈ sMsg ∧ (∀ w ∈ vx_atX own ic (exN e) ix rx ["java/lang/RuntimeException", "java/lang/Exception"], w ∈ gw ∨ w ∈ gn) ∧ (∀ w ∈ Cond.classLink own ik (exN e) :: Cond.initialized (exN e) :: vx_atX own ic (exN e) ix rx ["java/lang/RuntimeException", "java/lang/Exception"], vx_ot w = true)
theorem aFin_inv (h : aFin D (pc, L, st, mm, X) = some r) : (∃ e1, D.2.2.2.2.1.lookup pc = some e1 ∧ st = [] ∧ r = (2 + e1, (0, 0), mm, (X.1, X.2.1 + 1, X.2.2 + 6))) ∨ ∃ i n, D.2.2.2.1[pc]? = some (some (i, n)) ∧
    ((i = .return_ ∧ st = [] ∧ r = (0, (0, 0), mm, X) ∧ D.2.2.1 = 9) ∨ (i = .ireturn ∧ ∃ v, st = [(0, v)] ∧ ((D.2.2.1 = 5 ∧ (v = 0 ∨ v = 1)) ∨ (D.2.2.1 = 6 ∧ 0 ≤ v ∧ v < 65536) ∨ (D.2.2.1 = 7 ∧ -128 ≤ v ∧ v < 128) ∨ D.2.2.1 = 0) ∧ r = (1, (0, v), mm, X)) ∨ (i = .lreturn ∧ ∃ v, st = [(1, v)] ∧ r = (1, (1, v), mm, X) ∧ D.2.2.1 = 1) ∨ (i = .areturn ∧ ∃ u v, st = [(u, v)] ∧ u = D.2.2.1 ∧ (u = 15 ∨ u = 40) ∧ r = (1, (u, v), mm, X))) := by
  unfold aFin at h
  dsimp only at h
  split at h
  · rename_i e1 he
    split at h
    · exact Or.inl ⟨e1, he, rfl, (Option.some.inj h).symm⟩
    · cases h
  · split at h
    · rename_i n hc
      by_cases h9 : D.2.2.1 = 9
      · rw [if_pos h9] at h
        exact Or.inr ⟨_, _, hc, Or.inl ⟨rfl, rfl, (Option.some.inj h).symm, h9⟩⟩
      · rw [if_neg h9] at h; cases h
    · rename_i n v hc
      by_cases hok : aOK D.2.2.1 v = true
      · rw [if_pos hok] at h
        refine Or.inr ⟨_, _, hc, Or.inr (Or.inl ⟨rfl, v, rfl, ?_, (Option.some.inj h).symm⟩)⟩
        unfold aOK at hok
        split at hok
        · rename_i h5
          exact Or.inl ⟨h5, of_decide_eq_true hok⟩
        · rename_i h5
          exact Or.inr (Or.inl ⟨h5, of_decide_eq_true hok⟩)
        · rename_i h5
          exact Or.inr (Or.inr (Or.inl ⟨h5, of_decide_eq_true hok⟩))
        · rename_i h5
          exact Or.inr (Or.inr (Or.inr h5))
        · cases hok
      · rw [if_neg hok] at h; cases h
    · rename_i n v hc
      by_cases h1 : D.2.2.1 = 1
      · rw [if_pos h1] at h
        exact Or.inr ⟨_, _, hc, Or.inr (Or.inr (Or.inl ⟨rfl, v, rfl, (Option.some.inj h).symm, h1⟩))⟩
      · rw [if_neg h1] at h; cases h
    · rename_i n u v hc
      by_cases hu : u = D.2.2.1 ∧ (u = 15 ∨ u = 40)
      · rw [if_pos hu] at h
        exact Or.inr ⟨_, _, hc, Or.inr (Or.inr (Or.inr ⟨rfl, u, v, rfl, hu.1, hu.2, (Option.some.inj h).symm⟩))⟩
      · rw [if_neg hu] at h; cases h
    · cases h
theorem sd_fin (hx : p.tables.exec = Jvm.exec) (hb : cd.code = cc) (hml : cd.maxLocals = nL) (hown : s.vm.findClass own = some m.cls) (hts : ∀ w ∈ gw, w.before args s = true) (hKS : KS ev s s.heap) (hlocks : meth.locks = false) (htr : l.stackTraces = false) (hr : meth.sig.returnType = rtT D.2.2.1) (hR : 10 ≤ R.frames ∧ 200 ≤ R.locals)
    (hdec : ∀ pc i n, D.2.2.2.1[pc]? = some (some (i, n)) → decode cc pc = .ok (i, n) ∧ iB nL pc n i = true) (hth : ∀ pc e, D.2.2.2.2.1.lookup pc = some e → thOK own cc pc e ∧ ∀ x ∈ cd.exceptionTable.toList, False) (hRc : r.2.2.2.2.1 ≤ R.cells ∧ r.2.2.2.2.2 ≤ R.slots)
    (h : aFin D (pc, L, st, mm, X) = some r) : sJ p l e R s m args below meth cd ev nL ad0 g0 (vx_MQ below (qC ev ad0 g0 r) (xC ev ad0 g0 r) args s r.2.2.2.2.1 r.2.2.2.2.2 (vA ev)) (pc, L, st, mm, X) := by
  intro ad H locs ls g1 g2 g3 g4 g5
  have hF : ∀ {t : State}, t.heap = H → va_F (vA ev) s t := fun ht => g4.2.2.F ht
  have hwr : ∀ {k : Nat} {v : aV}, (k = 1 → v.1 ≠ 99 ∧ wv X.1 v) → wR ev g0 (k, v, mm, X) := fun hv => ⟨g2, g3.2.2.1, g3.2.2.2.1, g3.2.2.2.2, hv⟩
  rcases aFin_inv h with ⟨e1, hl, rfl, rfl⟩ | ⟨i, n, hi, ho⟩
  · obtain ⟨⟨ik, is, ic, text, ix, rx, hrx, d0, d3, d4, d6, d9, o1, o2, o3, o4, o5, o6⟩, hno⟩ := hth pc e1 hl
    obtain ⟨sa, hsa⟩ := hKS.2.2.2.2.2.2.2.2.1 _ o4
    refine vx_throwX (A := vA ev) hx hb htr hrx hown o1 (by decide) (hts _ o2) (hts _ o3) hsa (fun w hw => ?_) o6 hKS.2.2.2.2.2.2.2.2.2.1 hKS.2.2.2.2.2.2.2.2.2.2.1 g4.2.2 (by rw [hml]; exact g5.2.1) d0 d3 d4 d6 d9 (fun x hx => (hno x hx).elim) (by show 2 + 3 < R.frames; omega) (by show 0 + (13 * (2 + 1) + 43) ≤ R.locals; omega) hRc.1 hRc.2 hlocks (fun t ha hz hk => ?_) g4.2.2.2.2 (Nat.le_refl _) (Nat.le_refl _)
    · rcases o5 w hw with hw | hw
      · exact hts _ hw
      · exact nw_use (gn_nest hw) (hKS.2.2.2.2.2.2.2.2.2.2.2.1 _ hw)
    · refine ⟨⟨by show 2 ≤ 2 + e1; omega, by show exN e1 = exN (2 + e1 - 2); rw [Nat.add_sub_cancel_left], ⟨g2, g3.2.2.1, g3.2.2.2.1, g3.2.2.2.2, fun hv => by exfalso; have hv : 2 + e1 = 1 := hv; omega⟩, ad, g1, ?_, g4.2.1⟩, ⟨Nat.le_trans g4.2.2.1 hz, fun q hq hn => ?_⟩⟩
      · exact va_P.kept g4.1 (fun k q hq => hk q.1 (va_at.lt (g4.1 k q hq)))
      · rw [hk q (Nat.lt_of_lt_of_le hq g4.2.2.1)]
        exact g4.2.2.2.1 q hq hn
  · have hd := (hdec pc i n hi).1
    have hn := (hdec pc i n hi).2
    rcases ho with ⟨rfl, rfl, rfl, h9⟩ | ⟨rfl, v, rfl, hok, rfl⟩ | ⟨rfl, v, rfl, rfl, h1⟩ | ⟨rfl, u, v, rfl, hu, hu2, rfl⟩
    · obtain rfl := of_decide_eq_true hn
      refine vx_ret (W.vret hx hb (hr.trans (by rw [h9]; rfl)) (fun t ht hW => ?_) g4.2.2.2.2 hd hlocks)
      exact ⟨⟨show (0 : Nat) < 2 by decide, hwr (fun h => by cases h), ad, g1, rfl, by rw [ht]; exact g4.1, g4.2.1⟩, hF ht⟩
    · obtain rfl := of_decide_eq_true hn
      have hv : in32 v := g3.top.2
      have hQ : ∀ t : State, t.heap = H → s.WarmedH t.vm → qC ev ad0 g0 (1, (0, v), mm, X) args s (.returned (some (.int (Int32.ofInt v)))) t := fun t ht hW =>
        ⟨⟨show (1 : Nat) < 2 by decide, hwr (fun _ => ⟨n99_0 _, hv⟩), ad, g1, rfl, by rw [ht]; exact g4.1, g4.2.1⟩, hF ht⟩
      rcases hok with ⟨h0, h1⟩ | ⟨h0, h1⟩ | ⟨h0, h1⟩ | h0
      · exact vx_ret (W.zret hx hb (ty := .boolean) (hr.trans (by rw [h0]; rfl)) (fit_z h1).1 hQ g4.2.2.2.2 hd hlocks)
      · refine vx_ret (W.zret hx hb (ty := .char) (hr.trans (by rw [h0]; rfl)) ?_ hQ g4.2.2.2.2 hd hlocks)
        have := (pk_charN (q := v.toNat) (by omega)).1
        unfold nI at this
        rw [ofN h1.1] at this
        exact this
      · refine vx_ret (W.zret hx hb (ty := .byte) (hr.trans (by rw [h0]; rfl)) ?_ hQ g4.2.2.2.2 hd hlocks)
        show Value.int (Int32.ofInt v).toInt8.toInt32 = _
        have : (Int32.ofInt v).toInt8.toInt32 = Int32.ofInt v := by
          apply Int32.toInt_inj.mp
          rw [Int8.toInt_toInt32, Int32.toInt_toInt8, t32 hv]
          exact Int.bmod_eq_of_le (by omega) (by omega)
        rw [this]
      · exact vx_ret (W.iret hx hb (hr.trans (by rw [h0]; rfl)) hQ g4.2.2.2.2 hd hlocks)
    · obtain rfl := of_decide_eq_true hn
      refine vx_ret (W.lret hx hb (hr.trans (by rw [h1]; rfl)) (fun t ht hW => ?_) g4.2.2.2.2 hd hlocks)
      exact ⟨⟨show (1 : Nat) < 2 by decide, hwr (fun _ => g3.top), ad, g1, rfl, by rw [ht]; exact g4.1, g4.2.1⟩, hF ht⟩
    · obtain rfl := of_decide_eq_true hn
      have hrt : ∃ n, rtT u = some (.object n) := by
        rcases hu2 with rfl | rfl
        · exact ⟨_, rfl⟩
        · exact ⟨_, rfl⟩
      obtain ⟨nn, hnn⟩ := hrt
      refine vx_ret (W.aret hx hb (rt := .object nn) (hr.trans (by rw [← hu]; exact hnn)) (Or.inl ⟨nn, rfl⟩) (cv_ref ev ad (v := (u, v)) (by show 10 ≤ u; omega)) (fun t ht hW => ?_) g4.2.2.2.2 hd hlocks)
      exact ⟨⟨show (1 : Nat) < 2 by decide, hwr (fun _ => g3.top), ad, g1, rfl, by rw [ht]; exact g4.1, g4.2.1⟩, hF ht⟩
end Ends
