/-- a call's facts: caller's class, instruction, the callee, its locals, arguments and receiver, whether the caller has no handlers -/
def cOK (own : String) (i : Instr) (I2 : mI) (nL2 a : Nat) (hn : Prop) : Prop :=
  cW I2 nL2 ∈ gw ∧ Cond.initialized I2.1.cls ∈ gw ∧ (I2.1.cls ≠ "java/lang/invoke/MethodHandle" ∧ I2.1.cls ≠ "java/lang/invoke/VarHandle") ∧ nL2 ≤ 40 ∧ (match i with
  | .invokevirtual k => I2.2.2.2 = [] ∧ (parseMethodDescriptor I2.1.desc).map (fun d => d.parameters.length) = some (a % 100 - 1) ∧ 1 ≤ a % 100 ∧ a / 100 ≠ 0 ∧ (Cond.methodLink own k I2.1 ∈ gw ∨ (Cond.methodLinkNest own k I2.1 "AskedTable" ∈ gn ∧ hn)) ∧ Cond.instanceMethod I2.1 ∈ gw ∧ Cond.selects I2.1.cls I2.1 I2.1 ∈ gw ∧ ((10 ≤ a / 100 ∧ a / 100 < 19 ∧ ∃ T N, vwCl[a / 100 - 10]? = some (I2.1.cls, T, N)) ∨ (a / 100 = 41 ∧ I2.1.cls = "java/lang/String"))
  | .invokestatic k => (parseMethodDescriptor I2.1.desc).map (fun d => d.parameters.length) = some (a % 100) ∧ Cond.static I2.1 ∈ gw ∧ (Cond.methodLink own k I2.1 ∈ gw ∨ (Cond.methodLinkNest own k I2.1 "AskedTable" ∈ gn ∧ hn ∧ I2.2.2.2 = []))
  | .invokespecial k => I2.2.2.2 = [] ∧ I2.2.2.1 = none ∧ I2.1.name = "<init>" ∧ (parseMethodDescriptor I2.1.desc).map (fun d => d.parameters.length) = some (a % 100 - 1) ∧ 1 ≤ a % 100 ∧ a / 100 ≠ 0 ∧ Cond.instanceMethod I2.1 ∈ gw ∧ (Cond.methodLink own k I2.1 ∈ gw ∨ Cond.methodLinkNest own k I2.1 "AskedTable" ∈ gn) ∧ hn ∧ 10 ≤ a / 100 ∧ a / 100 < 19
  | _ => True)
section SdCall
variable {p : Program} {l : Launch} {e : Env} {R : Room} {s : State} {m : MethodId} {args : Array Value} {below : List Frame} {meth : Method} {cd : Code} {Q : State → Prop} {cc : ByteArray} {ev : sV} {nL : Nat} {ad0 : Nat → Nat} {g0 : aG}
variable {pc n : Nat} {L st : List aV} {mm : aM} {X : aX} {own : String} {D : aD} {r2 : aR} {c1 c2 : aC} {B : List aD} {MI : List mI} {d q2 : Nat} {as : List aV}
theorem aCall_inv (h : aCall D (pc, L, st, mm, X) = some (q2, as, c1)) : ∃ i n k a, D.2.2.2.1[pc]? = some (some (i, n)) ∧ (i = .invokevirtual k ∨ i = .invokestatic k ∨ i = .invokespecial k) ∧ D.1.2.2.2.1.lookup k = some (q2, a) ∧ a % 100 ≤ st.length ∧ aCat (st.drop (a % 100)) ≤ 8 ∧ aRcv (a / 100) (st.take (a % 100)) = true ∧ as = (st.take (a % 100)).reverse ∧ c1 = (pc + n, L, st.drop (a % 100), mm, X) := by
  unfold aCall at h
  dsimp only at h
  split at h
  · rename_i i n hc
    split at h
    · rename_i k
      split at h
      · rename_i q a hl
        by_cases hq : a % 100 ≤ st.length ∧ aCat (st.drop (a % 100)) ≤ 8 ∧ aRcv (a / 100) (st.take (a % 100)) = true
        · rw [if_pos hq] at h
          cases h
          exact ⟨_, n, k, a, hc, Or.inl rfl, hl, hq.1, hq.2.1, hq.2.2, rfl, rfl⟩
        · rw [if_neg hq] at h; cases h
      · cases h
    · rename_i k
      split at h
      · rename_i q a hl
        by_cases hq : a % 100 ≤ st.length ∧ aCat (st.drop (a % 100)) ≤ 8 ∧ aRcv (a / 100) (st.take (a % 100)) = true
        · rw [if_pos hq] at h
          cases h
          exact ⟨_, n, k, a, hc, Or.inr (Or.inl rfl), hl, hq.1, hq.2.1, hq.2.2, rfl, rfl⟩
        · rw [if_neg hq] at h; cases h
      · cases h
    · rename_i k
      split at h
      · rename_i q a hl
        by_cases hq : a % 100 ≤ st.length ∧ aCat (st.drop (a % 100)) ≤ 8 ∧ aRcv (a / 100) (st.take (a % 100)) = true
        · rw [if_pos hq] at h
          cases h
          exact ⟨_, n, k, a, hc, Or.inr (Or.inr rfl), hl, hq.1, hq.2.1, hq.2.2, rfl, rfl⟩
        · rw [if_neg hq] at h; cases h
      · cases h
    · cases h
  · cases h
/-- the receiver is the first argument -/
theorem rcv_split {t k : Nat} {l : List aV} (ht : t ≠ 0) (h : aRcv t l = true) : ∃ x as, l.reverse = (t, x) :: as := by
  unfold aRcv at h
  split at h
  · exact absurd rfl ht
  · split at h
    · rename_i v hv
      have := of_decide_eq_true h
      obtain ⟨u, x⟩ := v
      dsimp only at this
      subst this
      rw [List.getLast?_eq_head?_reverse] at hv
      cases hr : l.reverse with
      | nil => rw [hr] at hv; cases hv
      | cons a as =>
        rw [hr] at hv
        cases hv
        exact ⟨x, as, rfl⟩
    · cases h
theorem rmD_f (d mc ms : Nat) : (rmD d mc ms).frames = d + 12 := by unfold rmD; rfl
theorem rmD_l (d mc ms : Nat) : (rmD d mc ms).locals = 60 * d + 300 := by unfold rmD; rfl
theorem room_ok {d mc ms nL2 : Nat} (h1 : d + 13 ≤ R.frames) (h2 : 60 * d + 360 ≤ R.locals) (h3 : nL2 ≤ 40) : (rmD d mc ms).frames + 1 ≤ R.frames ∧ 8 + (nL2 + 11) + (rmD d mc ms).locals ≤ R.locals := by
  have e1 := rmD_f d mc ms
  have e2 := rmD_l d mc ms
  generalize (rmD d mc ms).frames = x at e1 ⊢
  generalize (rmD d mc ms).locals = y at e2 ⊢
  constructor
  · omega
  · omega
set_option maxHeartbeats 2000000 in
theorem sd_call (hx : p.tables.exec = Jvm.exec) (hb : cd.code = cc) (hml : cd.maxLocals = nL) (hown : s.vm.findClass own = some m.cls) (hts : ∀ w ∈ gw, w.before args s = true) (hKS : KS ev s s.heap) (hR : d + 13 ≤ R.frames ∧ 60 * d + 360 ≤ R.locals)
    (hdec : ∀ pc i n, D.2.2.2.1[pc]? = some (some (i, n)) → decode cc pc = .ok (i, n) ∧ iB nL pc n i = true) (hh : hdOK own cc nL cd D) {I2 : mI} (hI : MI[q2]? = some I2) (hcs : ∀ i n k a, D.2.2.2.1[pc]? = some (some (i, n)) → (i = .invokevirtual k ∨ i = .invokestatic k ∨ i = .invokespecial k) → D.1.2.2.2.1.lookup k = some (q2, a) → cOK own i I2 (aMd B q2).2.1 a (D.2.2.2.2.2 = []))
    (hC : Ctr l B MI d q2) (hroom : c2.2.2.2.2.2.1 ≤ R.cells ∧ c2.2.2.2.2.2.2 ≤ R.slots) (h : aCall D (pc, L, st, mm, X) = some (q2, as, c1)) (hfit : aFit (aMd B q2) as = true) (hg : Go B d q2 (aEnt (aMd B q2) as c1.2.2.2.1 c1.2.2.2.2) r2) (hret : aRet D pc c1 r2 = some c2)
    (kk : sJ p l e R s m args below meth cd ev nL ad0 g0 Q c2) : sJ p l e R s m args below meth cd ev nL ad0 g0 Q (pc, L, st, mm, X) := by
  obtain ⟨i, n, k, a, hc, hi, hl, hlen, hcat, hrc, rfl, rfl⟩ := aCall_inv h
  obtain ⟨hd, hiB⟩ := hdec pc i n hc
  obtain ⟨o1, o2, o3, o4, o5⟩ := hcs i n k a hc hi hl
  have hn3 : n = 3 := by rcases hi with rfl | rfl | rfl <;> exact of_decide_eq_true hiB
  subst hn3
  dsimp only at hg
  have hcnt : X.2.1 + r2.2.2.2.2.1 ≤ R.cells ∧ X.2.2 + r2.2.2.2.2.2 ≤ R.slots := by
    obtain ⟨k0, v0, m2, ⟨G2, mc, ms⟩⟩ := r2
    unfold aRet at hret
    dsimp only at hret
    split at hret
    · cases hret; exact hroom
    · cases hret; exact hroom
    · split at hret
      · cases hret; exact hroom
      · cases hret
  have hnt : D.2.2.2.2.2 = [] → r2.1 < 2 := by
    intro hD
    obtain ⟨k0, v0, m2, ⟨G2, mc, ms⟩⟩ := r2
    unfold aRet at hret
    dsimp only at hret
    split at hret
    · show (0 : Nat) < 2; decide
    · show (1 : Nat) < 2; decide
    · rw [hD] at hret
      cases hret
  have hGw : GoodIn gw (wsQ I2 (aMd B q2).2.1) := goodIn_gw fun w hw => by
    rcases List.mem_cons.mp hw with rfl | hw
    · exact o1
    · exact hw
  refine sJ_run hx hb hown hts hKS hh (fun v hv => List.mem_of_mem_drop hv) (fun ad H locs ls g3 g4 g5 => ?_) hret kk
  have hwA : wA ev (st.take (a % 100)).reverse mm X.1 := ⟨fun v hv => g3.2.1 v (List.mem_of_mem_take (List.mem_reverse.mp hv)), g3.2.2.1, g3.2.2.2.1, g3.2.2.2.2⟩
  have hM := hC I2 hI ev ad (st.take (a % 100)).reverse mm X r2 hwA hfit hg
  have hW8 : 2 * (F0 m pc ls (st.map (cv ev ad))).monitorRoom + (((st.drop (a % 100)).map (cv ev ad)).map fun v => v.category).sum ≤ 8 := by
    rw [cat_sum]
    show 2 * 0 + _ ≤ 8
    omega
  have hpre : ∀ U : State, U.heap = H → s.WarmedH U.vm → va_Pc ((st.take (a % 100)).reverse.map (cv ev ad)) (Wd ev ad X.1 mm) (((st.take (a % 100)).reverse.map (cv ev ad)).toArray) U := fun U hU hW =>
    ⟨rfl, by rw [hU]; exact g4.1, g4.2.1, by rw [hU]; exact KS.move hW (fun q h1 h2 => g4.2.2.2.1 q h1 h2) g4.2.2.1 hKS⟩
  have hstk : st.map (cv ev ad) = ((st.take (a % 100)).reverse.map (cv ev ad)).reverse ++ (st.drop (a % 100)).map (cv ev ad) := by
    rw [List.map_reverse, List.reverse_reverse, ← List.map_append, List.take_append_drop]
  have hS : CallFix p m cd cc nL s args gw own := ⟨hx, hb, hml, hown, hts⟩
  have hsz : (F0 m pc ls (st.map (cv ev ad))).locals.size = nL := g5.2.1
  have hln : ((st.take (a % 100)).reverse.map (cv ev ad)).length = a % 100 := by
    rw [List.length_map, List.length_reverse, List.length_take]; omega
  rcases hi with rfl | rfl | rfl
  · obtain ⟨b1, b2, b3, b4, b5, b6, b7, b8⟩ := o5
    obtain ⟨x, as', has⟩ := rcv_split (k := k) b4 hrc
    have hcw : cW I2 (aMd B q2).2.1 = .code I2.1 I2.2.1 (aMd B q2).2.1 I2.2.2.1 := by unfold cW; rw [b1]
    have hws : wsQ I2 (aMd B q2).2.1 = .code I2.1 I2.2.1 (aMd B q2).2.1 I2.2.2.1 :: gw := by unfold wsQ; rw [hcw]
    rw [has] at hM hpre hstk hln
    have hxm : (a / 100, x) ∈ st := List.mem_of_mem_take (List.mem_reverse.mp (by rw [has]; exact List.mem_cons_self))
    have hxv := (g3.2.1 _ hxm).2
    obtain ⟨b, hcv, hrecv⟩ : ∃ b, cv ev ad (a / 100, x) = .ref b ∧ ∃ cellB : Cell, H[b]? = some cellB ∧ cellB.vm.isStatics = false ∧ s.vm.findClass I2.1.cls = some cellB.cls := by
      rcases b8 with ⟨h1, h2, T, N, h3⟩ | ⟨h1, h2⟩
      · have hv := (wv_w (Or.inl ⟨h1, h2⟩)).mp hxv
        have hat := sWl_at (ev := ev) (ad := ad) (G := X.1) (m := mm) hv.1 hv.2.1
        rw [cellE_obj hv.2.2 h1 h2] at hat
        exact ⟨_, cv_w ev ad x (Or.inl ⟨h1, h2⟩), va_recv (q := (I2.1.cls, T, N)) hKS.2.2.2.2.2.2.2.2.2.2.2.2.2.2.1 g4.1 h3 hat⟩
      · rw [h1] at hxv ⊢
        have hv : 1 ≤ x ∧ x ≤ 17 := hxv
        obtain ⟨cell, c1, c2, c3, c4⟩ := (hKS.2.2.2.1 x.toNat (by omega) (by omega)).1
        refine ⟨_, rfl, cell, ?_, c2, by rw [h2]; exact c3⟩
        rw [g4.2.2.2.1 _ (Array.getElem?_eq_some_iff.mp c1).1 c4]
        exact c1
    rw [List.map_cons, hcv] at hM hpre hstk hln
    have hstk : (F0 m pc ls (st.map (cv ev ad))).stack = (as'.map (cv ev ad)).reverse ++ .ref b :: (st.drop (a % 100)).map (cv ev ad) := by
      show st.map (cv ev ad) = _
      rw [hstk, List.reverse_cons, List.append_assoc]
      rfl
    have hln : (as'.map (cv ev ad)).length = a % 100 - 1 := by
      rw [List.length_cons] at hln
      omega
    rcases b5 with b5 | ⟨b5, b9⟩
    · exact ⟨_, vx_runV (C := I2.1.cls) (b := b) (As := as'.map (cv ev ad)) (bytes := I2.2.1) (maxL := (aMd B q2).2.1) (ret := I2.2.2.1) hS hM ⟨callB_of (a % 100 - 1) hts hGw hws rfl rfl (hts _ o2) (hts _ b5) ⟨o3.1, o3.2, b2⟩ (room_ok hR.1 hR.2 o4), hts _ b6, hts _ b7⟩ ⟨Wd.blind, hrecv, hpre⟩ rfl hln hsz hstk hW8 hd hcnt⟩
    · exact ⟨_, run_x (va_runVN (C := I2.1.cls) (b := b) (As := as'.map (cv ev ad)) (bytes := I2.2.1) (maxL := (aMd B q2).2.1) (ret := I2.2.2.1) hS (met_of (hnt b9) hM) ⟨va_cnB (a % 100 - 1) hts hGw hws rfl rfl (hKS.2.2.2.2.2.2.2.2.2.2.2.1 _ b5) (hts _ o2) ⟨o3.1, o3.2, b2⟩ (room_ok hR.1 hR.2 o4), hts _ b6, hts _ b7⟩ ⟨Wd.blind, hrecv, hpre⟩ rfl hln hsz hstk hW8 hd hcnt)⟩
  · obtain ⟨b2, b6, b5⟩ := o5
    have hstk : (F0 m pc ls (st.map (cv ev ad))).stack = ((st.take (a % 100)).reverse.map (cv ev ad)).reverse ++ (st.drop (a % 100)).map (cv ev ad) := hstk
    rcases b5 with b5 | ⟨b5, b9, b1⟩
    · cases hhh : I2.2.2.2 with
      | nil =>
        have hcw : cW I2 (aMd B q2).2.1 = .code I2.1 I2.2.1 (aMd B q2).2.1 I2.2.2.1 := by unfold cW; rw [hhh]
        have hws : wsQ I2 (aMd B q2).2.1 = .code I2.1 I2.2.1 (aMd B q2).2.1 I2.2.2.1 :: gw := by unfold wsQ; rw [hcw]
        exact ⟨_, vx_runS (As := (st.take (a % 100)).reverse.map (cv ev ad)) (bytes := I2.2.1) (maxL := (aMd B q2).2.1) (ret := I2.2.2.1) hS hM ⟨callB_of (a % 100) hts hGw hws rfl rfl (hts _ o2) (hts _ b5) ⟨o3.1, o3.2, b2⟩ (room_ok hR.1 hR.2 o4), hts _ b6⟩ ⟨Wd.blind, hpre⟩ rfl hln hsz hstk hW8 hd hcnt⟩
      | cons h9 t9 =>
        have hcw : cW I2 (aMd B q2).2.1 = .codeWith I2.1 I2.2.1 (aMd B q2).2.1 I2.2.2.1 (h9 :: t9) := by unfold cW; rw [hhh]
        have hws : wsQ I2 (aMd B q2).2.1 = .codeWith I2.1 I2.2.1 (aMd B q2).2.1 I2.2.2.1 (h9 :: t9) :: gw := by unfold wsQ; rw [hcw]
        have hGs : GoodIn gw (va_wsS own k I2.1 (wsQ I2 (aMd B q2).2.1)) := goodIn_gw fun w hw => by
          unfold va_wsS at hw
          rcases List.mem_append.mp hw with hw | hw
          · simp at hw
            rcases hw with rfl | rfl | rfl
            · exact b5
            · exact b6
            · exact o2
          · exact (hGw w hw).1
        exact ⟨_, vx_runSX (As := (st.take (a % 100)).reverse.map (cv ev ad)) (bytes := I2.2.1) (maxL := (aMd B q2).2.1) (ret := I2.2.2.1) hS hM (vx_cwSW (a % 100) hts hGs hws rfl rfl ⟨o3.1, o3.2, b2⟩ (room_ok hR.1 hR.2 o4)) ⟨Wd.blind, hpre⟩ rfl hln hsz hstk hW8 hd hcnt⟩
    · have hcw : cW I2 (aMd B q2).2.1 = .code I2.1 I2.2.1 (aMd B q2).2.1 I2.2.2.1 := by unfold cW; rw [b1]
      have hws : wsQ I2 (aMd B q2).2.1 = .code I2.1 I2.2.1 (aMd B q2).2.1 I2.2.2.1 :: gw := by unfold wsQ; rw [hcw]
      exact ⟨_, run_x (va_runSN (As := (st.take (a % 100)).reverse.map (cv ev ad)) (bytes := I2.2.1) (maxL := (aMd B q2).2.1) (ret := I2.2.2.1) hS (met_of (hnt b9) hM) ⟨va_cnB (a % 100) hts hGw hws rfl rfl (hKS.2.2.2.2.2.2.2.2.2.2.2.1 _ b5) (hts _ o2) ⟨o3.1, o3.2, b2⟩ (room_ok hR.1 hR.2 o4), hts _ b6, trivial⟩ ⟨Wd.blind, hpre⟩ rfl hln hsz hstk hW8 hd hcnt)⟩
  · obtain ⟨b1, b10, b11, b2, b3, b4, b6, b5, b9, b12, b13⟩ := o5
    obtain ⟨x, as', has⟩ := rcv_split (k := k) b4 hrc
    have hcw : cW I2 (aMd B q2).2.1 = .code I2.1 I2.2.1 (aMd B q2).2.1 none := by unfold cW; rw [b1, b10]
    have hws : wsQ I2 (aMd B q2).2.1 = .code I2.1 I2.2.1 (aMd B q2).2.1 none :: gw := by unfold wsQ; rw [hcw]
    rw [has] at hM hpre hstk hln
    have hcv : cv ev ad (a / 100, x) = .ref (ad x.toNat) := cv_w ev ad x (Or.inl ⟨b12, b13⟩)
    rw [List.map_cons, hcv] at hM hpre hstk hln
    have hstk : (F0 m pc ls (st.map (cv ev ad))).stack = (as'.map (cv ev ad)).reverse ++ .ref (ad x.toNat) :: (st.drop (a % 100)).map (cv ev ad) := by
      show st.map (cv ev ad) = _
      rw [hstk, List.reverse_cons, List.append_assoc]
      rfl
    have hln : (as'.map (cv ev ad)).length = a % 100 - 1 := by
      rw [List.length_cons] at hln
      omega
    rcases b5 with b5 | b5
    · exact ⟨_, run_x (va_runI (b := ad x.toNat) (As := as'.map (cv ev ad)) (bytes := I2.2.1) (maxL := (aMd B q2).2.1) hS (met_of (hnt b9) hM) ⟨callB_of (a % 100 - 1) hts hGw hws rfl rfl (hts _ o2) (hts _ b5) ⟨o3.1, o3.2, b2⟩ (room_ok hR.1 hR.2 o4), b11, hts _ b6⟩ ⟨Wd.blind, hpre⟩ rfl hln hsz hstk hW8 hd hcnt)⟩
    · exact ⟨_, run_x (va_runIN (b := ad x.toNat) (As := as'.map (cv ev ad)) (bytes := I2.2.1) (maxL := (aMd B q2).2.1) hS (met_of (hnt b9) hM) ⟨va_cnB (a % 100 - 1) hts hGw hws rfl rfl (hKS.2.2.2.2.2.2.2.2.2.2.2.1 _ b5) (hts _ o2) ⟨o3.1, o3.2, b2⟩ (room_ok hR.1 hR.2 o4), b11, hts _ b6⟩ ⟨Wd.blind, hpre⟩ rfl hln hsz hstk hW8 hd hcnt)⟩
end SdCall
