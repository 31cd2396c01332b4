/-! fields and arrays -/
def isNest : Cond → Bool
  | .fieldLinkNest _ _ _ _ _ _ => true
  | .methodLinkNest _ _ _ _ => true
  | .castable _ _ => true
  | .declares _ => true
  | _ => false
def gw : List Cond := lw_tbl.filter goodWord
def gn : List Cond := lw_tbl.filter isNest
/-- a field's link, by the class's own word or by the nest's -/
def lkF (own : String) (k : Nat) (C n d : String) : Prop := Cond.fieldLink own k C n d ∈ gw ∨ Cond.fieldLinkNest own k C n d "AskedTable" ∈ gn
def ftT : Nat → FieldType
  | 0 => .int
  | 5 => .boolean
  | 1 => .long
  | 40 => .object "AskedTable$Word"
  | 30 => .array .char
  | 31 => .array .int
  | 32 => .array .long
  | 33 => .array .boolean
  | 34 => .array (.object "AskedTable$Token")
  | 10 => .object "AskedTable$Answer"
  | 11 => .object "AskedTable$Chars"
  | 12 => .object "AskedTable$Question"
  | 13 => .object "AskedTable$Records"
  | 14 => .object "AskedTable$Table"
  | 15 => .object "AskedTable$Token"
  | 16 => .object "AskedTable$Tokens"
  | 17 => .object "AskedTable"
  | 18 => .object "AskedTableModel"
  | _ => .byte
/-- what is known of a class of the world -/
def clsOK (t : Nat) (C : String) (T : u_T) (N : Nat) : Prop := vwCl[t - 10]? = some (C, T, N) ∧ N = (ftl t).length ∧ (∀ w ∈ u_ws C T N, w ∈ gw) ∧ (∀ a, a < N → ∀ b, b < N → a ≠ b → (T a).2.1 ≠ (T b).2.1) ∧ (∀ j, j < N → parseFieldDescriptor (T j).2.2.1 = some (ftT ((ftl t).getD j 0))) ∧ (∀ j, j < N → (T j).1 = C) ∧ (∀ j, j < N → (T j).2.2.2 = decide ((ftl t).getD j 0 ∉ [0, 5, 1, 40]))
theorem cls0 : clsOK 10 RX0 TX0 12 := ⟨rfl, rfl, by decide +kernel, nmX0, by decide +kernel, by decide +kernel, by decide +kernel⟩
theorem cls1 : clsOK 11 RX1 TX1 2 := ⟨rfl, rfl, by decide +kernel, nmX1, by decide +kernel, by decide +kernel, by decide +kernel⟩
theorem cls2 : clsOK 12 RX2 TX2 10 := ⟨rfl, rfl, by decide +kernel, nmX2, by decide +kernel, by decide +kernel, by decide +kernel⟩
theorem cls3 : clsOK 13 RX3 TX3 9 := ⟨rfl, rfl, by decide +kernel, nmX3, by decide +kernel, by decide +kernel, by decide +kernel⟩
theorem cls4 : clsOK 14 RX4 TX4 9 := ⟨rfl, rfl, by decide +kernel, nmX4, by decide +kernel, by decide +kernel, by decide +kernel⟩
theorem cls5 : clsOK 15 RX5 TX5 8 := ⟨rfl, rfl, by decide +kernel, nmX5, by decide +kernel, by decide +kernel, by decide +kernel⟩
theorem cls6 : clsOK 16 RX6 TX6 2 := ⟨rfl, rfl, by decide +kernel, nmX6, by decide +kernel, by decide +kernel, by decide +kernel⟩
theorem cls7 : clsOK 17 RX8 TX8 8 := ⟨rfl, rfl, by decide +kernel, nmX8, by decide +kernel, by decide +kernel, by decide +kernel⟩
theorem cls8 : clsOK 18 RX9 TX9 49 := ⟨rfl, rfl, by decide +kernel, nmX9, by decide +kernel, by decide +kernel, by decide +kernel⟩
theorem cls_ok {t : Nat} (h1 : 10 ≤ t) (h2 : t < 19) : ∃ C T N, clsOK t C T N := by
  rcases (show t = 10 ∨ t = 11 ∨ t = 12 ∨ t = 13 ∨ t = 14 ∨ t = 15 ∨ t = 16 ∨ t = 17 ∨ t = 18 by omega) with rfl | rfl | rfl | rfl | rfl | rfl | rfl | rfl | rfl
  · exact ⟨_, _, _, cls0⟩
  · exact ⟨_, _, _, cls1⟩
  · exact ⟨_, _, _, cls2⟩
  · exact ⟨_, _, _, cls3⟩
  · exact ⟨_, _, _, cls4⟩
  · exact ⟨_, _, _, cls5⟩
  · exact ⟨_, _, _, cls6⟩
  · exact ⟨_, _, _, cls7⟩
  · exact ⟨_, _, _, cls8⟩
theorem cv_w (ev : sV) (ad : Nat → Nat) {t : Nat} (x : Int) (h : (10 ≤ t ∧ t < 19) ∨ (30 ≤ t ∧ t < 35)) : cv ev ad (t, x) = .ref (ad x.toNat) := by
  unfold cv
  dsimp only
  split <;> first | rfl | omega
theorem wv_w {G : aG} {t : Nat} {x : Int} (h : (10 ≤ t ∧ t < 19) ∨ (30 ≤ t ∧ t < 35)) : wv G (t, x) ↔ 1 ≤ x ∧ x ≤ (G.1 : Int) ∧ G.2.1 x = t := by
  unfold wv
  dsimp only
  split <;> first | rfl | omega
theorem cellE_obj {ev : sV} {ad : Nat → Nat} {G : aG} {m : aM} {x : Int} {t : Nat} (h : G.2.1 x = t) (h1 : 10 ≤ t) (h2 : t < 19) : cellE ev ad G m x = .inr (t - 10, flds ev ad t (m x) (G.2.2.2 x)) := by
  unfold cellE
  rw [h]
  unfold cellV
  split <;> first | rfl | omega
theorem flds_at {ev : sV} {ad : Nat → Nat} {t j : Nat} {f r : Int → Int} (h : j < (ftl t).length) : (flds ev ad t f r)[j]? = some (fvl ev ad ((ftl t).getD j 0) (f (j : Int)) (r (j : Int))) := by
  unfold flds
  rw [List.getElem?_map, List.getElem?_range h]
  rfl
theorem flds_len (ev : sV) (ad : Nat → Nat) (t : Nat) (f r : Int → Int) : (flds ev ad t f r).length = (ftl t).length := by simp [flds]
theorem flds_set {ev : sV} {ad : Nat → Nat} {t j : Nat} {f r f' r' : Int → Int} {w : Value} (h : j < (ftl t).length) (hw : fvl ev ad ((ftl t).getD j 0) (f' (j : Int)) (r' (j : Int)) = w) (ho : ∀ i : Nat, i ≠ j → f' (i : Int) = f (i : Int) ∧ r' (i : Int) = r (i : Int)) : (flds ev ad t f r).set j w = flds ev ad t f' r' := by
  apply List.ext_getElem?
  intro k
  by_cases hk : k < (ftl t).length
  · rw [flds_at hk, List.getElem?_set]
    by_cases hj : j = k
    · subst hj
      rw [if_pos rfl, if_pos (by rw [flds_len]; exact h), hw]
    · rw [if_neg hj, flds_at hk, (ho k (fun q => hj q.symm)).1, (ho k (fun q => hj q.symm)).2]
  · rw [List.getElem?_eq_none (by rw [List.length_set, flds_len]; omega), List.getElem?_eq_none (by rw [flds_len]; omega)]
theorem pk_obj {t : Nat} (h1 : 10 ≤ t) (h2 : t < 19) (j : Int) : pk t j = (ftl t).getD j.toNat 0 := by
  unfold pk
  split <;> first | rfl | omega
def tysV (ev : sV) : List (ClassId × FieldType) := [(vC ev 30, .char), (vC ev 31, .int), (vC ev 32, .long), (vC ev 33, .boolean), (vC ev 34, .object "AskedTable$Token")]
/-- a write at one place of a cell that is there -/
theorem wM.up {G : aG} {m : aM} {x i v : Int} (h : wM G m) (h1 : 1 ≤ x) (h2 : x ≤ (G.1 : Int)) (hv : okS G (pk (G.2.1 x) i) v (G.2.2.2 x i)) : wM G (mup m x i v) := by
  refine ⟨fun y y1 y2 => ?_, fun y hy j => ?_⟩
  · obtain ⟨a1, a2, a3, a4⟩ := h.1 y y1 y2
    refine ⟨a1, a2, a3, fun j hj => ?_⟩
    unfold mup
    by_cases hc : y = x ∧ j = i
    · rw [if_pos hc, hc.1, hc.2]
      exact hv
    · rw [if_neg hc]
      exact a4 j hj
  · have hc : ¬ (y = x ∧ j = i) := by omega
    unfold mup
    rw [if_neg hc]
    exact h.2 y hy j
theorem mup_off {m : aM} {x i v y : Int} (h : y ≠ x) : (mup m x i v) y = m y := by
  funext j
  unfold mup
  rw [if_neg (fun q => h q.1)]
theorem mup_self {m : aM} {x i v : Int} : (mup m x i v) x i = v := if_pos ⟨rfl, rfl⟩
theorem mup_ne {m : aM} {x i v j : Int} (h : j ≠ i) : (mup m x i v) x j = m x j := if_neg (fun q => h q.2)
theorem cellE_off {ev : sV} {ad : Nat → Nat} {G : aG} {m : aM} {x i v y : Int} (h : y ≠ x) : cellE ev ad G (mup m x i v) y = cellE ev ad G m y := by
  unfold cellE
  rw [mup_off h]
theorem sH.up {ev : sV} {ad : Nat → Nat} {G : aG} {m : aM} {H0 H : Heap} {locs : List Loc} {x i v : Int} (h1 : 1 ≤ x) (h2 : x ≤ (G.1 : Int))
    (hP : va_P (vD ev) vwCl ((sWl ev ad G m).set (x.toNat - 1) (ad x.toNat, cellE ev ad G (mup m x i v) x)) H) (hD : va_D (vA ev) ((sWl ev ad G m).set (x.toNat - 1) (ad x.toNat, cellE ev ad G (mup m x i v) x))) (hS : va_S (vA ev) H0 H locs) : sH ev ad G (mup m x i v) H0 H locs := by
  rw [sWl_set h1 h2 rfl (fun y _ _ hy => cellE_off hy)] at hP hD
  exact ⟨hP, hD, hS⟩
theorem wC.up {ev : sV} {pc nx : Nat} {L st r : List aV} {mm : aM} {X : aX} {x i v : Int} (h : wC ev (pc, L, st, mm, X)) (hr : ∀ w ∈ r, w ∈ st) (h1 : 1 ≤ x) (h2 : x ≤ (X.1.1 : Int)) (hv : okS X.1 (pk (X.1.2.1 x) i) v (X.1.2.2.2 x i)) : wC ev (nx, L, r, mup mm x i v, X) :=
  ⟨h.1, fun w hw => h.2.1 w (hr w hw), h.2.2.1.up h1 h2 hv, fun j => by
    show mup mm x i v (-1) j = _
    rw [mup_off (by omega)]
    exact h.2.2.2.1 j, h.2.2.2.2⟩
def wt (t : Nat) : Prop := (10 ≤ t ∧ t < 19) ∨ (30 ≤ t ∧ t < 35)
theorem okS_w {G : aG} {t : Nat} {v r : Int} (h : wt t) : okS G t v r ↔ (r = 0 ∨ (1 ≤ r ∧ r ≤ (G.1 : Int) ∧ G.2.1 r = t)) := by
  unfold okS
  unfold wt at h
  split <;> first | rfl | omega
theorem fvl_w {ev : sV} {ad : Nat → Nat} {t : Nat} {v r : Int} (h : wt t) : fvl ev ad t v r = va_rf (vRef ad r) := by
  unfold fvl
  unfold wt at h
  split <;> first | rfl | omega
theorem ftl_all : ∀ t, t < 9 → ∀ j, j < (ftl (t + 10)).length → (ftl (t + 10)).getD j 0 = 0 ∨ (ftl (t + 10)).getD j 0 = 5 ∨ (ftl (t + 10)).getD j 0 = 1 ∨ (ftl (t + 10)).getD j 0 = 40 ∨ ((10 ≤ (ftl (t + 10)).getD j 0 ∧ (ftl (t + 10)).getD j 0 < 19) ∨ (30 ≤ (ftl (t + 10)).getD j 0 ∧ (ftl (t + 10)).getD j 0 < 35)) := by decide +kernel
theorem ftl_ty {t j : Nat} (h1 : 10 ≤ t) (h2 : t < 19) (hj : j < (ftl t).length) : (ftl t).getD j 0 = 0 ∨ (ftl t).getD j 0 = 5 ∨ (ftl t).getD j 0 = 1 ∨ (ftl t).getD j 0 = 40 ∨ wt ((ftl t).getD j 0) := by
  have e : t - 10 + 10 = t := by omega
  have := ftl_all (t - 10) (by omega) j
  rw [e] at this
  exact this hj
theorem aGet_m {ty nx : Nat} {L r : List aV} {mm : aM} {X : aX} {x j : Int} (h : ty = 0 ∨ ty = 5 ∨ ty = 1 ∨ ty = 40 ∨ wt ty) : (match (generalizing := false) ty with
         | 0 => some (nx, L, (0, mm x j) :: r, mm, X)
         | 5 => some (nx, L, (0, mm x j) :: r, mm, X)
         | 1 => some (nx, L, (1, mm x j) :: r, mm, X)
         | 40 => some (nx, L, (40, mm x j) :: r, mm, X)
         | ty => if aRf X x j = 0 then none else some (nx, L, (ty, aRf X x j) :: r, mm, X)) = if ty = 0 ∨ ty = 5 then some (nx, L, (0, mm x j) :: r, mm, X) else if ty = 1 then some (nx, L, (1, mm x j) :: r, mm, X) else if ty = 40 then some (nx, L, (40, mm x j) :: r, mm, X) else if aRf X x j = 0 then none else some (nx, L, ((ty, aRf X x j) : aV) :: r, mm, X) := by
  unfold wt at h
  rcases h with rfl | rfl | rfl | rfl | h
  · rfl
  · rfl
  · rfl
  · rfl
  · rw [if_neg (by omega), if_neg (by omega), if_neg (by omega)]
    split <;> first | omega | rfl
theorem aGet_u {α : Type} {u : Nat} (h : u < 19) (a b c : α) : (match (generalizing := false) u with | 40 => a | 41 => b | _ => c) = c := by
  split <;> first | omega | rfl
section Heap
variable {p : Program} {l : Launch} {e : Env} {R : Room} {s : State} {m : MethodId} {args : Array Value} {below : List Frame} {meth : Method} {cd : Code} {Q : State → Prop} {cc : ByteArray} {ev : sV} {nL : Nat} {ad0 : Nat → Nat} {g0 : aG}
variable {pc : Nat} {L st r : List aV} {mm : aM} {X : aX} {c' : aC} {own : String}
/-- a field's facts -/
def fOK (own : String) (k : Nat) (f : Nat × Nat × Nat) : Prop := ∀ C T N, vwCl[f.1 - 10]? = some (C, T, N) → f.2.1 < N ∧ (ftl f.1).getD f.2.1 0 = f.2.2 ∧ lkF own k C (T f.2.1).2.1 (T f.2.1).2.2.1
theorem sd_getO (hx : p.tables.exec = Jvm.exec) (hb : cd.code = cc) (hown : s.vm.findClass own = some m.cls) (hts : ∀ w ∈ gw, w.before args s = true) (hgn : ∀ w ∈ gn, va_Nw w s) (hK : va_K (vD ev) vwCl (tysV ev) s) {k : Nat} {f : Nat × Nat × Nat} (ht1 : 10 ≤ f.1) (ht2 : f.1 < 19) (hf : fOK own k f) (hd : decode cc pc = .ok (.getfield k, 3))
    (h : aGet f (pc + 3) L st mm X = some c') (kk : sJ p l e R s m args below meth cd ev nL ad0 g0 Q c') : sJ p l e R s m args below meth cd ev nL ad0 g0 Q (pc, L, st, mm, X) := by
  obtain ⟨t, j, ty⟩ := f
  dsimp only at ht1 ht2 hf h
  unfold aGet at h
  split at h
  · rename_i u x r
    dsimp only at h
    split at h
    · rename_i hu
      subst hu
      obtain ⟨C, T, N, hc, hN, hin, hnm, hty, hdc, hfin⟩ := cls_ok ht1 ht2
      obtain ⟨hj, hje, hlk⟩ := hf C T N hc
      dsimp only at hj hje hlk
      have step : ∀ (ad : Nat → Nat) (H : Heap) (locs : List Loc) (ls : Array Slot), wC ev (pc, L, (u, x) :: r, mm, X) → sH ev ad X.1 mm s.heap H locs → W p l e R s m args below meth cd H locs X.2.1 X.2.2 Q (F0 m (pc + 3) ls (fvl ev ad ty (mm x (j : Int)) (X.1.2.2.2 x (j : Int)) :: r.map (cv ev ad))) → W p l e R s m args below meth cd H locs X.2.1 X.2.2 Q (F0 m pc ls (((u, x) :: r).map (cv ev ad))) := by
        intro ad H locs ls hw hH kk
        have hv := (wv_w (Or.inl ⟨ht1, ht2⟩)).mp hw.top.2
        have hat := sWl_at (ev := ev) (ad := ad) (G := X.1) (m := mm) hv.1 hv.2.1
        rw [cellE_obj hv.2.2 ht1 ht2] at hat
        show W p l e R s m args below meth cd H locs X.2.1 X.2.2 Q (F0 m pc ls (cv ev ad (u, x) :: r.map (cv ev ad)))
        rw [cv_w ev ad x (Or.inl ⟨ht1, ht2⟩)]
        have hfs := flds_at (ev := ev) (ad := ad) (t := u) (j := j) (f := mm x) (r := X.1.2.2.2 x) (by rw [← hN]; exact hj)
        rw [hje] at hfs
        rcases hlk with hlk | hlk
        · exact va_get (D := vD ev) (ci := u - 10) (C := C) (T := T) (N := N) hx hb hts hin hown hK hH.1 (x.toNat - 1) hat hc j hj (hts _ hlk) (fun y hy => by rw [hdc j hj] at hy; exact hy) hfs hd kk
        · exact va_getN (D := vD ev) (ci := u - 10) (C := C) (T := T) (N := N) hx hb hts hin hown hK hH.1 (x.toNat - 1) hat hc j hj (va_Nw.use rfl (hgn _ hlk)) (fun y hy => by rw [hdc j hj] at hy; exact hy) hfs hd kk
      have hok : wC ev (pc, L, (u, x) :: r, mm, X) → okS X.1 ty (mm x (j : Int)) (X.1.2.2.2 x (j : Int)) := by
        intro hw
        have hv := (wv_w (Or.inl ⟨ht1, ht2⟩)).mp hw.top.2
        have := (hw.2.2.1.1 x hv.1 hv.2.1).2.2.2 (j : Int) (by omega)
        have e1 : ((j : Int)).toNat = j := by omega
        rw [show (pc, L, (u, x) :: r, mm, X).2.2.2.2.1.2.1 x = u from hv.2.2, pk_obj ht1 ht2, e1, hje] at this
        exact this
      have fin : ∀ w : aV, c' = (pc + 3, L, w :: r, mm, X) → (wC ev (pc, L, (u, x) :: r, mm, X) → w.1 ≠ 99 ∧ wv X.1 w) → (∀ ad, fvl ev ad ty (mm x (j : Int)) (X.1.2.2.2 x (j : Int)) = cv ev ad w) → sJ p l e R s m args below meth cd ev nL ad0 g0 Q (pc, L, (u, x) :: r, mm, X) := by
        intro w hc' hw1 hw2
        subst hc'
        refine sJ_st (fun hw => (wC.pop (nx := pc) hw).push (v := w) (hw1 hw)) (fun ad H locs ls hw hH _ kk => step ad H locs ls hw hH ?_) kk
        rw [hw2 ad]
        exact kk
      have hlen : j < (ftl u).length := by rw [← hN]; exact hj
      have hk := ftl_ty ht1 ht2 hlen
      rw [hje] at hk
      have hm := aGet_m (ty := ty) (nx := pc + 3) (L := L) (r := r) (mm := mm) (X := X) (x := x) (j := (j : Int)) hk
      have h' := hm.symm.trans ((aGet_u (u := u) ht2 _ _ _).symm.trans h)
      rcases hk with rfl | rfl | rfl | rfl | hk
      · exact fin (0, mm x (j : Int)) (Option.some.inj h').symm (fun hw => ⟨n99_0 _, hok hw⟩) (fun ad => rfl)
      · refine fin (0, mm x (j : Int)) (Option.some.inj h').symm (fun hw => ⟨n99_0 _, ?_⟩) (fun ad => rfl)
        rcases hok hw with h0 | h0
        · show in32 _
          rw [h0]
          exact ⟨by decide, by decide⟩
        · show in32 _
          rw [h0]
          exact ⟨by decide, by decide⟩
      · exact fin (1, mm x (j : Int)) (Option.some.inj h').symm (fun hw => ⟨n99_1 _, hok hw⟩) (fun ad => rfl)
      · exact fin (40, mm x (j : Int)) (Option.some.inj h').symm (fun hw => ⟨by show ¬ (40 : Nat) = 99; decide, hok hw⟩) (fun ad => rfl)
      · have hk2 : (10 ≤ ty ∧ ty < 19) ∨ (30 ≤ ty ∧ ty < 35) := hk
        have hne : ¬ (ty = 0 ∨ ty = 5) ∧ ty ≠ 1 ∧ ty ≠ 40 := by omega
        rw [if_neg hne.1, if_neg hne.2.1, if_neg hne.2.2] at h'
        by_cases hr0 : X.1.2.2.2 x (j : Int) = 0
        · rw [if_pos (show aRf X x (j : Int) = 0 from hr0)] at h'
          cases h'
        · rw [if_neg (show ¬ aRf X x (j : Int) = 0 from hr0)] at h'
          refine fin (ty, X.1.2.2.2 x (j : Int)) (Option.some.inj h').symm (fun hw => ⟨by show ty ≠ 99; omega, (wv_w hk).mpr ?_⟩) (fun ad => ?_)
          · rcases (okS_w hk).mp (hok hw) with h0 | h0
            · exact absurd h0 hr0
            · exact h0
          · rw [cv_w ev ad _ hk, fvl_w hk]
            unfold vRef
            rw [if_neg hr0]
            rfl
    · cases h
  · cases h
end Heap
