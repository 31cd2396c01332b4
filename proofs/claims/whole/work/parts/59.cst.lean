/-! THE CONSTANTS: statics, Words, Strings, tables; and what is known of the tables' words -/
def sStat : List (String × String × String × aV) := [("AskedTable$Word", "ROWS", "LAskedTable$Word;", (40, 1)), ("AskedTable$Word", "COUNT", "LAskedTable$Word;", (40, 2)), ("AskedTable$Word", "SUM", "LAskedTable$Word;", (40, 3)), ("AskedTable$Word", "LEAST", "LAskedTable$Word;", (40, 4)), ("AskedTable$Word", "MOST", "LAskedTable$Word;", (40, 5)), ("AskedTable$Word", "BY", "LAskedTable$Word;", (40, 6)), ("AskedTable$Word", "WHERE", "LAskedTable$Word;", (40, 7)), ("AskedTable$Word", "AND", "LAskedTable$Word;", (40, 8)), ("AskedTable$Word", "OR", "LAskedTable$Word;", (40, 9)), ("AskedTable$Word", "NOT", "LAskedTable$Word;", (40, 10)), ("AskedTable$Word", "IS", "LAskedTable$Word;", (40, 11)), ("AskedTable$Word", "NULL", "LAskedTable$Word;", (40, 12)), ("AskedTable$Word", "ORDER", "LAskedTable$Word;", (40, 13)), ("AskedTable$Word", "DESC", "LAskedTable$Word;", (40, 14)), ("AskedTable$Word", "OTHER", "LAskedTable$Word;", (40, 15)), ("AskedTable$Chars", "DAYS", "[I", (42, 0)), ("AskedTable$Word", "ALL", "[LAskedTable$Word;", (43, 0)), ("java/lang/String", "COMPACT_STRINGS", "Z", (0, 1)), ("jdk/internal/util/Preconditions", "SIOOBE_FORMATTER", "Ljava/util/function/BiFunction;", (47, 0))]
def sRefs : List (String × Nat × String × Nat) := [("AskedTable$Chars", 64, "9223372036854775808", 17), ("AskedTable$Chars", 66, "9223372036854775807", 16)]
def sMsg : List (String × Nat × String) := [("AskedTable", 83, "the marks or line ends are wrong"), ("AskedTable", 94, "the records have not as many fields, or too many"), ("AskedTable", 102, "the header is missing, or a name in it is none"), ("AskedTable", 110, "there are too many rows"), ("AskedTable", 133, "no such column"), ("AskedTable", 144, "no such cell"), ("AskedTable", 149, "a text has no value"), ("AskedTable", 151, "the cell is missing"), ("AskedTable", 157, "there is no table"), ("AskedTable", 172, "it is no question"), ("AskedTable", 192, "a sum is beyond the longs"), ("AskedTable", 197, "there is no answer"), ("AskedTable", 202, "no such row or line"), ("AskedTable", 222, "there is no answer with values"), ("AskedTable", 224, "no such line"), ("AskedTable", 230, "the aggregate is missing"), ("AskedTable", 236, "there is nothing to write"), ("AskedTable", 247, "no such character")]
def sNc : List (String × String) := [("java/lang/IllegalStateException", "java/lang/IllegalArgumentException"), ("java/util/NoSuchElementException", "java/lang/IllegalArgumentException"), ("java/lang/UnsupportedOperationException", "java/lang/IllegalArgumentException"), ("java/lang/IndexOutOfBoundsException", "java/lang/IllegalArgumentException"), ("java/lang/IllegalArgumentException", "java/lang/IllegalStateException"), ("java/util/NoSuchElementException", "java/lang/IllegalStateException"), ("java/lang/UnsupportedOperationException", "java/lang/IllegalStateException"), ("java/lang/IndexOutOfBoundsException", "java/lang/IllegalStateException"), ("java/lang/IllegalArgumentException", "java/util/NoSuchElementException"), ("java/lang/IllegalStateException", "java/util/NoSuchElementException"), ("java/lang/UnsupportedOperationException", "java/util/NoSuchElementException"), ("java/lang/IndexOutOfBoundsException", "java/util/NoSuchElementException"), ("java/lang/IllegalArgumentException", "java/lang/UnsupportedOperationException"), ("java/lang/IllegalStateException", "java/lang/UnsupportedOperationException"), ("java/util/NoSuchElementException", "java/lang/UnsupportedOperationException"), ("java/lang/IndexOutOfBoundsException", "java/lang/UnsupportedOperationException"), ("java/lang/IllegalArgumentException", "java/lang/IndexOutOfBoundsException"), ("java/lang/IllegalStateException", "java/lang/IndexOutOfBoundsException"), ("java/util/NoSuchElementException", "java/lang/IndexOutOfBoundsException"), ("java/lang/UnsupportedOperationException", "java/lang/IndexOutOfBoundsException")]
def KS (ev : sV) (U : State) (H : Heap) : Prop :=
  (∀ q ∈ sStat, va_Z q.1 q.2.1 q.2.2.1 (cv ev (fun _ => 0) q.2.2.2) (vA ev) U H) ∧
  (∀ i : Nat, i < 15 → va_OF "AskedTable$Word" "reserved" "Z" (.int (Int32.ofInt (wRes ((i : Int) + 1)))) (vW ev i) (vA ev) U H ∧ va_OF "AskedTable$Word" "spelling" "Ljava/lang/String;" (.ref (vS ev (i + 1))) (vW ev i) (vA ev) U H) ∧
  (∀ i j : Nat, i < 15 → j < 15 → vW ev i = vW ev j → i = j) ∧
  (∀ i : Nat, 1 ≤ i → i ≤ 17 → va_O "java/lang/String" (vS ev i) (vA ev) U H ∧ va_OF "java/lang/String" "coder" "B" (.int 0) (vS ev i) (vA ev) U H ∧ va_OF "java/lang/String" "value" "[B" (.ref (vB ev i)) (vS ev i) (vA ev) U H ∧ va_T .byte (vB ev i) (sLen (i : Int)).toNat (fun j => .int (Int32.ofInt (sAt (i : Int) (j : Int)))) (vA ev) U H) ∧
  va_T .int (v42 ev) 12 (fun j => .int (Int32.ofInt (dDay (j : Int)))) (vA ev) U H ∧
  va_T (.object "AskedTable$Word") (v43 ev) 15 (fun j => .ref (vW ev j)) (vA ev) U H ∧
  (va_T .int (v44 ev) (vXn ev).toNat (fun j => .int (Int32.ofInt (vXs ev (j : Int)))) (vA ev) U H ∧ (∀ j, in32 (vXs ev j)) ∧ 0 ≤ vXn ev ∧ vXn ev < 100000) ∧
  (∀ q ∈ sRefs, vk_R q.1 q.2.1 q.2.2.1 (vS ev q.2.2.2) U) ∧ (∀ q ∈ sMsg, ∃ a, vk_R q.1 q.2.1 q.2.2 a U) ∧
  vx_Zq Bundle.tN "UNASSIGNED_STACK" Bundle.steD (vA ev) U H ∧ vx_Zq Bundle.tN "SUPPRESSED_SENTINEL" Bundle.listD (vA ev) U H ∧
  (∀ w ∈ gn, va_Nw w U) ∧ va_AO "AskedTable$Token" U ∧ (∀ q ∈ sNc, va_Nc q.1 q.2 U) ∧ va_K (vD ev) vwCl (tysV ev) U ∧ vN ev ≤ H.size
theorem nest_warm {s U : State} (hW : s.WarmedH U.vm) {w : Cond} (hw : isNest w = true) (h : va_Nw w s) : va_Nw w U := by
  cases w <;> first | exact va_Nw.warmF hW h | exact va_Nw.warmM hW h | exact va_Nw.warmC hW h | exact va_Nw.warmD hW h | cases hw
theorem gn_nest {w : Cond} (h : w ∈ gn) : isNest w = true := (List.mem_filter.mp h).2
theorem KS.move {ev : sV} {s U : State} {H H1 : Heap} (hW : s.WarmedH U.vm) (hq : ∀ a : Nat, a < H.size → ¬ vA ev a → H1[a]? = H[a]?) (hz : H.size ≤ H1.size) (h : KS ev s H) : KS ev U H1 := by
  obtain ⟨h1, h2, h3, h4, h5, h6, ⟨h7, h8⟩, h9, h10, h11, h12, h13, h14, h15, h16, h17⟩ := h
  have ha := hW.alike
  exact ⟨fun q hm => ((h1 q hm).moved ha).kept hq, fun i hi => ⟨((h2 i hi).1.moved ha).kept hq, ((h2 i hi).2.moved ha).kept hq⟩, h3, fun i a b => ⟨((h4 i a b).1.moved ha).kept hq, ((h4 i a b).2.1.moved ha).kept hq, ((h4 i a b).2.2.1.moved ha).kept hq, ((h4 i a b).2.2.2.moved ha).kept hq⟩, (h5.moved ha).kept hq, (h6.moved ha).kept hq, ⟨(h7.moved ha).kept hq, h8⟩, fun q hm => (h9 q hm).warm hW, fun q hm => (h10 q hm).imp fun _ h => h.warm hW, (h11.moved ha).kept hq, (h12.moved ha).kept hq, fun w hw => nest_warm hW (gn_nest hw) (h13 w hw), h14.moved ha, fun q hm => (h15 q hm).moved ha, h16.moved ha, Nat.le_trans h17 hz⟩
section Cst
variable {p : Program} {l : Launch} {e : Env} {R : Room} {s : State} {m : MethodId} {args : Array Value} {below : List Frame} {meth : Method} {cd : Code} {Q : State → Prop} {cc : ByteArray} {ev : sV} {nL : Nat} {ad0 : Nat → Nat} {g0 : aG}
variable {pc : Nat} {L st r : List aV} {mm : aM} {X : aX} {c' : aC} {own : String}
theorem vk_getfN (hexec : p.tables.exec = Jvm.exec) (hb : cd.code = cc) {o n d own ref host : String} {index q : Nat} {v : Value} {A : Nat → Prop} {H : Heap} {locs : List Loc} {cells slots : Nat} {ls : Array Slot} {rest : List Value} (hE : va_OF o n d v q A s s.heap) (hS : va_S A s.heap H locs) (hown : s.vm.findClass own = some m.cls) (hlink : (Cond.fieldLinkNest own index ref n d host).before args s = true) (hsame : ∀ x, s.fieldFound? o n d = some x → s.fieldFound? ref n d = some x) (hdg : decode cc pc = .ok (.getfield index, 3))
    (kk : W p l e R s m args below meth cd H locs cells slots Q (F0 m (pc + 3) ls (v :: rest))) : W p l e R s m args below meth cd H locs cells slots Q (F0 m pc ls (.ref q :: rest)) := by
  obtain ⟨cf, k, i, f, cell, h1, h2, h3, h4, h5, h6⟩ := hE
  have hc : H[q]? = some cell := by
    rw [hS.2.1 q (Array.getElem?_eq_some_iff.mp h3).1 h6]
    exact h3
  exact va_Wgetf hexec hb hown hlink (hsame _ h1) h2 hc h4 h5 rfl rfl hdg kk
/-- a static's facts -/
def sOK (own : String) (k : Nat) (v : aV) : Prop := ∃ C n d, (C, n, d, v) ∈ sStat ∧ lkF own k C n d
theorem sStat_ok : ∀ q ∈ sStat, q.2.2.2.1 ≠ 99 ∧ (q.2.2.2.1 = 0 ∨ q.2.2.2.1 = 40 ∨ q.2.2.2.1 = 42 ∨ q.2.2.2.1 = 43 ∨ q.2.2.2.1 = 47) ∧ 0 ≤ q.2.2.2.2 ∧ q.2.2.2.2 ≤ 15 := by decide
theorem cst_wv {G : aG} {v : aV} (h : v.1 = 0 ∨ v.1 = 40 ∨ v.1 = 42 ∨ v.1 = 43 ∨ v.1 = 47) (h0 : 0 ≤ v.2) (h1 : v.2 ≤ 15) : wv G v := by
  obtain ⟨t, x⟩ := v
  dsimp only at h h0 h1
  rcases h with rfl | rfl | rfl | rfl | rfl
  · show in32 x
    exact ⟨by omega, by omega⟩
  · exact ⟨h0, h1⟩
  · trivial
  · trivial
  · trivial
theorem cst_cv {ev : sV} {ad ad' : Nat → Nat} {v : aV} (h : v.1 = 0 ∨ v.1 = 40 ∨ v.1 = 42 ∨ v.1 = 43 ∨ v.1 = 47) : cv ev ad v = cv ev ad' v := by
  obtain ⟨t, x⟩ := v
  dsimp only at h
  rcases h with rfl | rfl | rfl | rfl | rfl <;> rfl
theorem sd_gets (hx : p.tables.exec = Jvm.exec) (hb : cd.code = cc) (hown : s.vm.findClass own = some m.cls) (hts : ∀ w ∈ gw, w.before args s = true) (hKS : KS ev s s.heap) {k : Nat} {v : aV} (hk : sOK own k v) (hd : decode cc pc = .ok (.getstatic k, 3))
    (kk : sJ p l e R s m args below meth cd ev nL ad0 g0 Q (pc + 3, L, v :: st, mm, X)) : sJ p l e R s m args below meth cd ev nL ad0 g0 Q (pc, L, st, mm, X) := by
  obtain ⟨C, n, d, hm, hl⟩ := hk
  obtain ⟨o1, o2, o3, o4⟩ := sStat_ok _ hm
  dsimp only at o1 o2 o3 o4
  refine sJ_st (fun hw => hw.push ⟨o1, cst_wv o2 o3 o4⟩) (fun ad H locs ls hw hH _ kk => ?_) kk
  have hZ := hKS.1 _ hm
  dsimp only at hZ
  have kk : W p l e R s m args below meth cd H locs X.2.1 X.2.2 Q (F0 m (pc + 3) ls (cv ev ad v :: st.map (cv ev ad))) := kk
  rw [cst_cv (ad' := fun _ => 0) o2] at kk
  rcases hl with hl | hl
  · exact va_gets hx hb hZ hH.2.2 hown (hts _ hl) (fun _ h => h) hd kk
  · exact va_getsN hx hb hZ hH.2.2 hown (va_Nw.use rfl (hKS.2.2.2.2.2.2.2.2.2.2.2.1 _ hl)) (fun _ h => h) hd kk
/-- a Word's fields -/
theorem sd_getW (hx : p.tables.exec = Jvm.exec) (hb : cd.code = cc) (hown : s.vm.findClass own = some m.cls) (hts : ∀ w ∈ gw, w.before args s = true) (hKS : KS ev s s.heap) {k j ty : Nat} {x : Int} (hk : Cond.fieldLink own k "AskedTable$Word" (if ty = 41 then "spelling" else "reserved") (if ty = 41 then "Ljava/lang/String;" else "Z") ∈ gw ∨ Cond.fieldLinkNest own k "AskedTable$Word" (if ty = 41 then "spelling" else "reserved") (if ty = 41 then "Ljava/lang/String;" else "Z") "AskedTable" ∈ gn) (hd : decode cc pc = .ok (.getfield k, 3))
    (h : (if 1 ≤ x ∧ x ≤ 15 then (if ty = 41 then some (pc + 3, L, ((41, x) : aV) :: r, mm, X) else some (pc + 3, L, (0, wRes x) :: r, mm, X)) else none) = some c') (kk : sJ p l e R s m args below meth cd ev nL ad0 g0 Q c') : sJ p l e R s m args below meth cd ev nL ad0 g0 Q (pc, L, (40, x) :: r, mm, X) := by
  by_cases hx15 : 1 ≤ x ∧ x ≤ 15
  · rw [if_pos hx15] at h
    have hi : (x - 1).toNat < 15 := by omega
    obtain ⟨o1, o2⟩ := hKS.2.1 _ hi
    have e1 : (((x - 1).toNat : Nat) : Int) + 1 = x := by omega
    have e2 : (x - 1).toNat + 1 = x.toNat := by omega
    rw [e1] at o1
    rw [e2] at o2
    have ecv : ∀ ad, cv ev ad (40, x) = .ref (vW ev (x - 1).toNat) := by
      intro ad
      show va_rf (if x = 0 then none else some (vW ev (x - 1).toNat)) = _
      rw [if_neg (by omega)]
      rfl
    by_cases ht : ty = 41
    · rw [if_pos ht] at h
      cases h
      rw [if_pos ht, if_pos ht] at hk
      refine sJ_st (fun hw => (wC.pop (nx := pc) hw).push ⟨by show ¬ (41 : Nat) = 99; decide, (by show 1 ≤ x ∧ x ≤ 17; omega)⟩) (fun ad H locs ls hw hH _ kk => ?_) kk
      show W p l e R s m args below meth cd H locs X.2.1 X.2.2 Q (F0 m pc ls (cv ev ad (40, x) :: r.map (cv ev ad)))
      rw [ecv]
      rcases hk with hk | hk
      · exact vk_getf hx hb o2 hH.2.2 hown (hts _ hk) (fun _ h => h) hd kk
      · exact vk_getfN hx hb o2 hH.2.2 hown (va_Nw.use rfl (hKS.2.2.2.2.2.2.2.2.2.2.2.1 _ hk)) (fun _ h => h) hd kk
    · rw [if_neg ht] at h
      cases h
      rw [if_neg ht, if_neg ht] at hk
      refine sJ_st (fun hw => (wC.pop (nx := pc) hw).push ⟨n99_0 _, ?_⟩) (fun ad H locs ls hw hH _ kk => ?_) kk
      · show in32 (wRes x)
        unfold wRes
        split <;> exact ⟨by decide, by decide⟩
      show W p l e R s m args below meth cd H locs X.2.1 X.2.2 Q (F0 m pc ls (cv ev ad (40, x) :: r.map (cv ev ad)))
      rw [ecv]
      rcases hk with hk | hk
      · exact vk_getf hx hb o1 hH.2.2 hown (hts _ hk) (fun _ h => h) hd kk
      · exact vk_getfN hx hb o1 hH.2.2 hown (va_Nw.use rfl (hKS.2.2.2.2.2.2.2.2.2.2.2.1 _ hk)) (fun _ h => h) hd kk
  · rw [if_neg hx15] at h; cases h
/-- a String's fields -/
theorem sd_getS (hx : p.tables.exec = Jvm.exec) (hb : cd.code = cc) (hown : s.vm.findClass own = some m.cls) (hts : ∀ w ∈ gw, w.before args s = true) (hKS : KS ev s s.heap) {k ty : Nat} {x : Int} (hk : Cond.fieldLink own k "java/lang/String" (if ty = 46 then "value" else "coder") (if ty = 46 then "[B" else "B") ∈ gw) (hd : decode cc pc = .ok (.getfield k, 3))
    (h : (if ty = 46 then some (pc + 3, L, ((46, x) : aV) :: r, mm, X) else some (pc + 3, L, (0, 0) :: r, mm, X)) = some c') (kk : sJ p l e R s m args below meth cd ev nL ad0 g0 Q c') : sJ p l e R s m args below meth cd ev nL ad0 g0 Q (pc, L, (41, x) :: r, mm, X) := by
  by_cases ht : ty = 46
  · rw [if_pos ht] at h
    cases h
    rw [if_pos ht, if_pos ht] at hk
    refine sJ_st (fun hw => (wC.pop (nx := pc) hw).push (v := (46, x)) ⟨by show ¬ (46 : Nat) = 99; decide, hw.top.2⟩) (fun ad H locs ls hw hH _ kk => ?_) kk
    have hv : 1 ≤ x ∧ x ≤ 17 := hw.top.2
    exact vk_getf hx hb (hKS.2.2.2.1 x.toNat (by omega) (by omega)).2.2.1 hH.2.2 hown (hts _ hk) (fun _ h => h) hd kk
  · rw [if_neg ht] at h
    cases h
    rw [if_neg ht, if_neg ht] at hk
    refine sJ_st (fun hw => (wC.pop (nx := pc) hw).push (v := (0, 0)) ⟨n99_0 _, in32_0⟩) (fun ad H locs ls hw hH _ kk => ?_) kk
    have hv : 1 ≤ x ∧ x ≤ 17 := hw.top.2
    exact vk_getf hx hb (hKS.2.2.2.1 x.toNat (by omega) (by omega)).2.1 hH.2.2 hown (hts _ hk) (fun _ h => h) hd kk
end Cst
