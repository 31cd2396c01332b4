/-! stores into fields, arrays -/
theorem aPut_m {α : Type} {ty : Nat} (h : ty = 0 ∨ ty = 5 ∨ ty = 1 ∨ ty = 40 ∨ wt ty) (a b c d : α) (f : Nat → α) : (match (generalizing := false) ty with | 0 => a | 5 => b | 1 => c | 40 => d | t => f t) = if ty = 0 then a else if ty = 5 then b else if ty = 1 then c else if ty = 40 then d else f ty := by
  have h2 : ty = 0 ∨ ty = 5 ∨ ty = 1 ∨ ty = 40 ∨ ((10 ≤ ty ∧ ty < 19) ∨ (30 ≤ ty ∧ ty < 35)) := h
  rcases h2 with rfl | rfl | rfl | rfl | h2
  · rfl
  · rfl
  · rfl
  · rfl
  · rw [if_neg (by omega), if_neg (by omega), if_neg (by omega), if_neg (by omega)]
    split <;> first | omega | rfl
theorem fit_obj (C : String) {v : Value} (h : v = .null ∨ ∃ a, v = .ref a) : narrow (.object C) v = v ∧ fits (.object C) v = true := by
  rcases h with rfl | ⟨a, rfl⟩ <;> exact ⟨rfl, rfl⟩
theorem fit_arr (t : FieldType) {v : Value} (h : v = .null ∨ ∃ a, v = .ref a) : narrow (.array t) v = v ∧ fits (.array t) v = true := by
  rcases h with rfl | ⟨a, rfl⟩ <;> exact ⟨rfl, rfl⟩
theorem fit_z {v : Int} (h : v = 0 ∨ v = 1) : narrow .boolean (.int (Int32.ofInt v)) = .int (Int32.ofInt v) ∧ fits .boolean (.int (Int32.ofInt v)) = true := by
  rcases h with rfl | rfl <;> exact ⟨rfl, rfl⟩
/-- geometry with one reference written -/
theorem aPutR_1 (X : aX) (x i v : Int) : (aPutR X x i v).1.1 = X.1.1 := rfl
def gput (G : aG) (x i v : Int) : aG := (G.1, G.2.1, G.2.2.1, (fun y j => if y = x ∧ j = i then v else G.2.2.2 y j))
theorem aPutR_eq (X : aX) (x i v : Int) : aPutR X x i v = (gput X.1 x i v, X.2.1, X.2.2) := rfl
theorem gput_wv {G : aG} {x i v : Int} {w : aV} : wv (gput G x i v) w ↔ wv G w := Iff.rfl
theorem gput_okS {G : aG} {x i v : Int} {t : Nat} {a b : Int} : okS (gput G x i v) t a b ↔ okS G t a b := Iff.rfl
theorem gput_off {G : aG} {x i v y : Int} (h : y ≠ x) : (gput G x i v).2.2.2 y = G.2.2.2 y := by
  funext j
  exact if_neg (fun q => h q.1)
theorem cellE_goff {ev : sV} {ad : Nat → Nat} {G : aG} {m : aM} {x i v y : Int} (h : y ≠ x) : cellE ev ad (gput G x i v) m y = cellE ev ad G m y := by
  unfold cellE
  rw [gput_off h]
  rfl
theorem wM.gup {G : aG} {m : aM} {x i v : Int} (h : wM G m) (h1 : 1 ≤ x) (h2 : x ≤ (G.1 : Int)) (hv : okS G (pk (G.2.1 x) i) (m x i) v) : wM (gput G x i v) m := by
  refine ⟨fun y y1 y2 => ?_, fun y hy j => ?_⟩
  · obtain ⟨a1, a2, a3, a4⟩ := h.1 y y1 y2
    refine ⟨a1, a2, a3, fun j hj => ?_⟩
    show okS G (pk (G.2.1 y) j) (m y j) (if y = x ∧ j = i then v else G.2.2.2 y j)
    by_cases hc : y = x ∧ j = i
    · rw [if_pos hc, hc.1, hc.2]
      exact hv
    · rw [if_neg hc]
      exact a4 j hj
  · have hy : (G.1 : Int) < y := hy
    have hc : ¬ (y = x ∧ j = i) := by omega
    show m y j = 0 ∧ (if y = x ∧ j = i then v else G.2.2.2 y j) = 0
    rw [if_neg hc]
    exact h.2 y hy j
theorem sH.gup {ev : sV} {ad : Nat → Nat} {G : aG} {m : aM} {H0 H : Heap} {locs : List Loc} {x i v : Int} (h1 : 1 ≤ x) (h2 : x ≤ (G.1 : Int))
    (hP : va_P (vD ev) vwCl ((sWl ev ad G m).set (x.toNat - 1) (ad x.toNat, cellE ev ad (gput G x i v) m x)) H) (hD : va_D (vA ev) ((sWl ev ad G m).set (x.toNat - 1) (ad x.toNat, cellE ev ad (gput G x i v) m x))) (hS : va_S (vA ev) H0 H locs) : sH ev ad (gput G x i v) m H0 H locs := by
  rw [sWl_set (G' := gput G x i v) (m' := m) h1 h2 rfl (fun y _ _ hy => cellE_goff hy)] at hP hD
  exact ⟨hP, hD, hS⟩
theorem wC.gup {ev : sV} {pc nx : Nat} {L st r : List aV} {mm : aM} {X : aX} {x i v : Int} (h : wC ev (pc, L, st, mm, X)) (hr : ∀ w ∈ r, w ∈ st) (h1 : 1 ≤ x) (h2 : x ≤ (X.1.1 : Int)) (hv : okS X.1 (pk (X.1.2.1 x) i) (mm x i) v) : wC ev (nx, L, r, mm, aPutR X x i v) :=
  ⟨h.1, fun w hw => h.2.1 w (hr w hw), h.2.2.1.gup h1 h2 hv, h.2.2.2.1, h.2.2.2.2⟩
section Heap2
variable {p : Program} {l : Launch} {e : Env} {R : Room} {s : State} {m : MethodId} {args : Array Value} {below : List Frame} {meth : Method} {cd : Code} {Q : State → Prop} {cc : ByteArray} {ev : sV} {nL : Nat} {ad0 : Nat → Nat} {g0 : aG}
variable {pc : Nat} {L st r : List aV} {mm : aM} {X : aX} {c' : aC} {own : String}
theorem sd_put (hx : p.tables.exec = Jvm.exec) (hb : cd.code = cc) (hown : s.vm.findClass own = some m.cls) (hts : ∀ w ∈ gw, w.before args s = true) (hgn : ∀ w ∈ gn, va_Nw w s) (hK : va_K (vD ev) vwCl (tysV ev) s) {k : Nat} {f : Nat × Nat × Nat} (ht1 : 10 ≤ f.1) (ht2 : f.1 < 19) (hf : fOK own k f)
    (hinit : wt f.2.2 → meth.name = "<init>" ∧ ∀ C T N, vwCl[f.1 - 10]? = some (C, T, N) → C = own ∧ Cond.fieldLink own k C (T f.2.1).2.1 (T f.2.1).2.2.1 ∈ gw) (hd : decode cc pc = .ok (.putfield k, 3))
    (h : aPut f (pc + 3) L st mm X = some c') (kk : sJ p l e R s m args below meth cd ev nL ad0 g0 Q c') : sJ p l e R s m args below meth cd ev nL ad0 g0 Q (pc, L, st, mm, X) := by
  obtain ⟨t, j, ty⟩ := f
  dsimp only at ht1 ht2 hf h hinit
  unfold aPut at h
  split at h
  · rename_i t0 v u x r
    dsimp only at h
    split at h
    · rename_i hu
      subst hu
      obtain ⟨C, T, N, hc, hN, hin, hnm, hty, hdc, hfin⟩ := cls_ok ht1 ht2
      obtain ⟨hj, hje, hlk⟩ := hf C T N hc
      dsimp only at hj hje hlk
      have hlen : j < (ftl u).length := by rw [← hN]; exact hj
      have hk := ftl_ty ht1 ht2 hlen
      rw [hje] at hk
      have h := (aPut_m hk _ _ _ _ _).symm.trans h
      have e1 : ((j : Int)).toNat = j := by omega
      have hpk : ∀ {z}, X.1.2.1 z = u → pk (X.1.2.1 z) (j : Int) = ty := by
        intro z hz
        rw [hz, pk_obj ht1 ht2, e1, hje]
      have hpd := hty j hj
      rw [hje] at hpd
      -- a number's field
      have num : ∀ (w : Value), ty ∈ [0, 5, 1, 40] → narrow (ftT ty) w = w → fits (ftT ty) w = true → (∀ ad, cv ev ad (t0, v) = w) → (∀ ad, fvl ev ad ty v (X.1.2.2.2 x (j : Int)) = w) → c' = (pc + 3, L, r, mup mm x (j : Int) v, X) → (wC ev (pc, L, (t0, v) :: (u, x) :: r, mm, X) → okS X.1 ty v (X.1.2.2.2 x (j : Int))) → sJ p l e R s m args below meth cd ev nL ad0 g0 Q (pc, L, (t0, v) :: (u, x) :: r, mm, X) := by
        intro w hm hn hft hcv hfv hc' hok ad H locs ls h1 h2 h3 h4 h5
        subst hc'
        have hv := (wv_w (Or.inl ⟨ht1, ht2⟩)).mp h3.top2.2
        have hat := sWl_at (ev := ev) (ad := ad) (G := X.1) (m := mm) hv.1 hv.2.1
        rw [cellE_obj hv.2.2 ht1 ht2] at hat
        show W p l e R s m args below meth cd H locs X.2.1 X.2.2 Q (F0 m pc ls (cv ev ad (t0, v) :: cv ev ad (u, x) :: r.map (cv ev ad)))
        rw [cv_w ev ad x (Or.inl ⟨ht1, ht2⟩), hcv ad]
        have hfs : (flds ev ad u (mm x) (X.1.2.2.2 x)).set j w = flds ev ad u (mup mm x (j : Int) v x) (X.1.2.2.2 x) := by
          refine flds_set hlen ?_ (fun i hi => ⟨mup_ne (by omega), rfl⟩)
          rw [hje, mup_self]
          exact hfv ad
        have hff : (T j).2.2.2 = false := by
          rw [hfin j hj, hje]
          exact decide_eq_false (fun q => q hm)
        have kont : ∀ (H1 : Heap) (locs1 : List Loc), va_P (vD ev) vwCl ((sWl ev ad X.1 mm).set (x.toNat - 1) (ad x.toNat, .inr (u - 10, (flds ev ad u (mm x) (X.1.2.2.2 x)).set j w))) H1 → va_D (vA ev) ((sWl ev ad X.1 mm).set (x.toNat - 1) (ad x.toNat, .inr (u - 10, (flds ev ad u (mm x) (X.1.2.2.2 x)).set j w))) → va_S (vA ev) s.heap H1 locs1 → W p l e R s m args below meth cd H1 locs1 X.2.1 X.2.2 Q (F0 m (pc + 3) ls (r.map (cv ev ad))) := by
          intro H1 locs1 hP1 hD1 hS1
          have hce : cellE ev ad X.1 (mup mm x (j : Int) v) x = .inr (u - 10, (flds ev ad u (mm x) (X.1.2.2.2 x)).set j w) := by rw [cellE_obj hv.2.2 ht1 ht2, hfs]
          rw [← hce] at hP1 hD1
          refine kk ad H1 locs1 ls h1 h2 (h3.up (fun w hw => List.mem_cons_of_mem _ (List.mem_cons_of_mem _ hw)) hv.1 hv.2.1 ?_) (sH.up hv.1 hv.2.1 hP1 hD1 hS1) h5
          rw [hpk hv.2.2]
          exact hok h3
        rcases hlk with hlk | hlk
        · exact va_put (D := vD ev) (ci := u - 10) (C := C) (T := T) (N := N) (v := w) (ty := ftT ty) hx hb hts hin _ hty hnm hown hK h4.1 h4.2.1 h4.2.2 (x.toNat - 1) hat hc j hj (hts _ hlk) (fun y hy => by rw [hdc j hj] at hy; exact hy) hff hpd hn hft (by rw [flds_len]; exact hlen) hd kont
        · exact va_putN (D := vD ev) (ci := u - 10) (C := C) (T := T) (N := N) (v := w) (ty := ftT ty) hx hb hts hin _ hty hnm hown hK h4.1 h4.2.1 h4.2.2 (x.toNat - 1) hat hc j hj (va_Nw.use rfl (hgn _ hlk)) (fun y hy => by rw [hdc j hj] at hy; exact hy) hff hpd hn hft (by rw [flds_len]; exact hlen) hd kont
      rcases hk with rfl | rfl | rfl | rfl | hk
      · change (if t0 = 0 then some (pc + 3, L, r, mup mm x (j : Int) v, X) else none) = some c' at h
        split at h
        · rename_i ht
          subst ht
          exact num (.int (Int32.ofInt v)) (by decide) rfl rfl (fun _ => rfl) (fun _ => rfl) (Option.some.inj h).symm (fun hw => hw.top.2)
        · cases h
      · change (if t0 = 0 then (if v = 0 ∨ v = 1 then some (pc + 3, L, r, mup mm x (j : Int) v, X) else none) else none) = some c' at h
        by_cases ht : t0 = 0
        · rw [if_pos ht] at h
          subst ht
          by_cases hz : v = 0 ∨ v = 1
          · rw [if_pos hz] at h
            exact num (.int (Int32.ofInt v)) (by decide) (fit_z hz).1 (fit_z hz).2 (fun _ => rfl) (fun _ => rfl) (Option.some.inj h).symm (fun hw => hz)
          · rw [if_neg hz] at h
            cases h
        · rw [if_neg ht] at h
          cases h
      · change (if t0 = 1 then some (pc + 3, L, r, mup mm x (j : Int) v, X) else none) = some c' at h
        split at h
        · rename_i ht
          subst ht
          exact num (.long (Int64.ofInt v)) (by decide) rfl rfl (fun _ => rfl) (fun _ => rfl) (Option.some.inj h).symm (fun hw => hw.top.2)
        · cases h
      · change (if t0 = 40 then some (pc + 3, L, r, mup mm x (j : Int) v, X) else none) = some c' at h
        split at h
        · rename_i ht
          subst ht
          have hcr := cv_ref ev (fun _ => 0) (v := (40, v)) (by decide : 10 ≤ 40)
          exact num (cv ev (fun _ => 0) (40, v)) (by decide) (fit_obj _ hcr).1 (fit_obj _ hcr).2 (fun _ => rfl) (fun _ => rfl) (Option.some.inj h).symm (fun hw => hw.top.2)
        · cases h
      · have hk2 : (10 ≤ ty ∧ ty < 19) ∨ (30 ≤ ty ∧ ty < 35) := hk
        rw [if_neg (by omega), if_neg (by omega), if_neg (by omega), if_neg (by omega)] at h
        by_cases ht : t0 = ty
        · rw [if_pos ht] at h
          have hc' := (Option.some.inj h).symm
          clear h
          subst ht
          subst hc'
          obtain ⟨hme, hi2⟩ := hinit hk
          obtain ⟨hCo, hlk2⟩ := hi2 C T N hc
          try dsimp only at hlk2
          intro ad H locs ls h1 h2 h3 h4 h5
          have hv := (wv_w (Or.inl ⟨ht1, ht2⟩)).mp h3.top2.2
          have hv0 := (wv_w hk).mp h3.top.2
          have hat := sWl_at (ev := ev) (ad := ad) (G := X.1) (m := mm) hv.1 hv.2.1
          rw [cellE_obj hv.2.2 ht1 ht2] at hat
          show W p l e R s m args below meth cd H locs X.2.1 X.2.2 Q (F0 m pc ls (cv ev ad (t0, v) :: cv ev ad (u, x) :: r.map (cv ev ad)))
          rw [cv_w ev ad x (Or.inl ⟨ht1, ht2⟩), cv_w ev ad v hk]
          have hfs : (flds ev ad u (mm x) (X.1.2.2.2 x)).set j (.ref (ad v.toNat)) = flds ev ad u (mm x) ((gput X.1 x (j : Int) v).2.2.2 x) := by
            refine flds_set hlen ?_ (fun i hi => ⟨rfl, if_neg (fun q => hi (by omega))⟩)
            rw [hje, fvl_w hk]
            show va_rf (vRef ad (if x = x ∧ (j : Int) = (j : Int) then v else _)) = _
            rw [if_pos ⟨rfl, rfl⟩]
            unfold vRef
            rw [if_neg (by omega)]
            rfl
          have hff : (T j).2.2.2 = true := by
            rw [hfin j hj, hje]
            refine decide_eq_true (fun q => ?_)
            simp at q
            omega
          have kont : ∀ (H1 : Heap) (locs1 : List Loc), va_P (vD ev) vwCl ((sWl ev ad X.1 mm).set (x.toNat - 1) (ad x.toNat, .inr (u - 10, (flds ev ad u (mm x) (X.1.2.2.2 x)).set j (.ref (ad v.toNat))))) H1 → va_D (vA ev) ((sWl ev ad X.1 mm).set (x.toNat - 1) (ad x.toNat, .inr (u - 10, (flds ev ad u (mm x) (X.1.2.2.2 x)).set j (.ref (ad v.toNat))))) → va_S (vA ev) s.heap H1 locs1 → W p l e R s m args below meth cd H1 locs1 X.2.1 X.2.2 Q (F0 m (pc + 3) ls (r.map (cv ev ad))) := by
            intro H1 locs1 hP1 hD1 hS1
            have hce : cellE ev ad (gput X.1 x (j : Int) v) mm x = .inr (u - 10, (flds ev ad u (mm x) (X.1.2.2.2 x)).set j (.ref (ad v.toNat))) := by rw [cellE_obj (G := gput X.1 x (j : Int) v) hv.2.2 ht1 ht2, hfs]
            rw [← hce] at hP1 hD1
            refine kk ad H1 locs1 ls h1 h2 (h3.gup (fun w hw => List.mem_cons_of_mem _ (List.mem_cons_of_mem _ hw)) hv.1 hv.2.1 ?_) (sH.gup hv.1 hv.2.1 hP1 hD1 hS1) h5
            rw [hpk hv.2.2, okS_w hk]
            exact Or.inr hv0
          have hfit : narrow (ftT t0) (.ref (ad v.toNat)) = .ref (ad v.toNat) ∧ fits (ftT t0) (.ref (ad v.toNat)) = true := by
            rcases (show t0 = 10 ∨ t0 = 11 ∨ t0 = 12 ∨ t0 = 13 ∨ t0 = 14 ∨ t0 = 15 ∨ t0 = 16 ∨ t0 = 17 ∨ t0 = 18 ∨ t0 = 30 ∨ t0 = 31 ∨ t0 = 32 ∨ t0 = 33 ∨ t0 = 34 by omega) with rfl | rfl | rfl | rfl | rfl | rfl | rfl | rfl | rfl | rfl | rfl | rfl | rfl | rfl <;> exact ⟨rfl, rfl⟩
          exact va_putF (D := vD ev) (ci := u - 10) (C := C) (T := T) (N := N) (v := .ref (ad v.toNat)) (ty := ftT t0) hx hb hts hin _ hty hnm hown hK h4.1 h4.2.1 h4.2.2 (x.toNat - 1) hat hc j hj (hts _ hlk2) (fun y hy => by rw [hdc j hj] at hy; exact hy) hff hme (by rw [hdc j hj]; exact hCo) hpd hfit.1 hfit.2 (by rw [flds_len]; exact hlen) hd kont
        · rw [if_neg ht] at h
          cases h
    · cases h
  · cases h
end Heap2
