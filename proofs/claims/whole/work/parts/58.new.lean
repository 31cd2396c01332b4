/-! what is made -/
theorem okS_0 (G : aG) (t : Nat) : okS G t 0 0 := by
  unfold okS
  split
  · exact ⟨by decide, by decide⟩
  · exact Or.inl rfl
  · exact ⟨by decide, by decide⟩
  · exact ⟨by decide, by decide⟩
  · exact ⟨by decide, by decide⟩
  · exact Or.inl rfl
theorem tag_cases (t : Nat) : t = 0 ∨ t = 1 ∨ t = 40 ∨ t = 41 ∨ t = 42 ∨ t = 43 ∨ t = 44 ∨ t = 46 ∨ t = 47 ∨ (t ≠ 0 ∧ t ≠ 1 ∧ t ≠ 40 ∧ t ≠ 41 ∧ t ≠ 42 ∧ t ≠ 43 ∧ t ≠ 44 ∧ t ≠ 46 ∧ t ≠ 47) := by omega
theorem wv_gen {G : aG} {t : Nat} {x : Int} (h : t ≠ 0 ∧ t ≠ 1 ∧ t ≠ 40 ∧ t ≠ 41 ∧ t ≠ 42 ∧ t ≠ 43 ∧ t ≠ 44 ∧ t ≠ 46 ∧ t ≠ 47) : wv G (t, x) ↔ 1 ≤ x ∧ x ≤ (G.1 : Int) ∧ G.2.1 x = t := by
  unfold wv
  dsimp only
  split <;> first | rfl | omega
theorem cv_gen {ev : sV} {ad : Nat → Nat} {t : Nat} {x : Int} (h : t ≠ 0 ∧ t ≠ 1 ∧ t ≠ 40 ∧ t ≠ 41 ∧ t ≠ 42 ∧ t ≠ 43 ∧ t ≠ 44 ∧ t ≠ 46 ∧ t ≠ 47) : cv ev ad (t, x) = .ref (ad x.toNat) := by
  unfold cv
  dsimp only
  split <;> first | rfl | omega
theorem wv_mono {G G' : aG} (h : gLe G G') {v : aV} (hv : wv G v) : wv G' v := by
  obtain ⟨t, x⟩ := v
  rcases tag_cases t with rfl | rfl | rfl | rfl | rfl | rfl | rfl | rfl | rfl | ht
  all_goals first | exact hv | skip
  rw [wv_gen ht] at hv ⊢
  obtain ⟨a, b, c⟩ := hv
  exact ⟨a, by have := h.1; omega, by rw [h.2 _ a b]; exact c⟩
theorem ok_cases (t : Nat) : t = 0 ∨ t = 5 ∨ t = 6 ∨ t = 1 ∨ t = 40 ∨ (t ≠ 0 ∧ t ≠ 5 ∧ t ≠ 6 ∧ t ≠ 1 ∧ t ≠ 40) := by omega
theorem okS_gen {G : aG} {t : Nat} {v r : Int} (h : t ≠ 0 ∧ t ≠ 5 ∧ t ≠ 6 ∧ t ≠ 1 ∧ t ≠ 40) : okS G t v r ↔ (r = 0 ∨ (1 ≤ r ∧ r ≤ (G.1 : Int) ∧ G.2.1 r = t)) := by
  unfold okS
  split <;> first | rfl | omega
theorem okS_mono {G G' : aG} (h : gLe G G') {t : Nat} {v r : Int} (hv : okS G t v r) : okS G' t v r := by
  rcases ok_cases t with rfl | rfl | rfl | rfl | rfl | ht
  all_goals first | exact hv | skip
  rw [okS_gen ht] at hv ⊢
  rcases hv with hv | ⟨a, b, c⟩
  · exact Or.inl hv
  · exact Or.inr ⟨a, by have := h.1; omega, by rw [h.2 _ a b]; exact c⟩
theorem cv_mono {ev : sV} {ad ad' : Nat → Nat} {G : aG} (ha : ∀ k, k ≤ G.1 → ad' k = ad k) {v : aV} (hv : wv G v) : cv ev ad' v = cv ev ad v := by
  obtain ⟨t, x⟩ := v
  rcases tag_cases t with rfl | rfl | rfl | rfl | rfl | rfl | rfl | rfl | rfl | ht
  all_goals first | rfl | skip
  rw [wv_gen ht] at hv
  rw [cv_gen ht, cv_gen ht, ha _ (by omega)]
theorem vRef_mono {ad ad' : Nat → Nat} {G : aG} (ha : ∀ k, k ≤ G.1 → ad' k = ad k) {r : Int} (hr : r = 0 ∨ (1 ≤ r ∧ r ≤ (G.1 : Int))) : vRef ad' r = vRef ad r := by
  unfold vRef
  split
  · rfl
  · rw [ha _ (by omega)]
theorem cellV_mono {ev : sV} {ad ad' : Nat → Nat} {G : aG} (ha : ∀ k, k ≤ G.1 → ad' k = ad k) {t : Nat} (ht : wt t) {n : Int} {f r : Int → Int} (hok : ∀ j : Int, 0 ≤ j → okS G (pk t j) (f j) (r j)) : cellV ev ad' t n f r = cellV ev ad t n f r := by
  have ht2 : (10 ≤ t ∧ t < 19) ∨ (30 ≤ t ∧ t < 35) := ht
  rcases ht2 with ⟨h1, h2⟩ | ⟨h1, h2⟩
  · have e : ∀ ad9, cellV ev ad9 t n f r = .inr (t - 10, flds ev ad9 t f r) := by
      intro ad9
      unfold cellV
      split <;> first | rfl | omega
    rw [e, e]
    congr 2
    unfold flds
    apply List.map_congr_left
    intro j hj
    have hj := List.mem_range.mp hj
    have hk := hok (j : Int) (by omega)
    rw [pk_obj h1 h2, show ((j : Int)).toNat = j by omega] at hk
    rcases ftl_ty h1 h2 hj with h | h | h | h | h
    · rw [h]; rfl
    · rw [h]; rfl
    · rw [h]; rfl
    · rw [h]; rfl
    · rw [fvl_w h, fvl_w h]
      rw [okS_w h] at hk
      rw [vRef_mono ha (by omega)]
  · rcases (show t = 30 ∨ t = 31 ∨ t = 32 ∨ t = 33 ∨ t = 34 by omega) with rfl | rfl | rfl | rfl | rfl
    · rfl
    · rfl
    · rfl
    · rfl
    · show (Sum.inl (vC ev 34, n.toNat, .inr (.inr (.inr (.inr (fun j : Nat => vRef ad' (r (j : Int))))))) : va_E) = Sum.inl (vC ev 34, n.toNat, .inr (.inr (.inr (.inr (fun j : Nat => vRef ad (r (j : Int)))))))
      have : (fun j : Nat => vRef ad' (r (j : Int))) = fun j : Nat => vRef ad (r (j : Int)) := by
        funext j
        have hk := (okS_w wt15).mp (hok (j : Int) (by omega))
        rw [vRef_mono ha (by omega)]
      rw [this]
/-- the geometry with one cell more -/
def gnew (G : aG) (t : Nat) (len : Int) : aG := (G.1 + 1, (fun y => if y = ((G.1 + 1 : Nat) : Int) then t else G.2.1 y), (fun y => if y = ((G.1 + 1 : Nat) : Int) then len else G.2.2.1 y), G.2.2.2)
theorem aMk_eq (X : aX) (t : Nat) (len : Int) (k : Nat) : aMk X t len k = (gnew X.1 t len, X.2.1 + 1, X.2.2 + k) := rfl
theorem gnew_le (G : aG) (t : Nat) (len : Int) : gLe G (gnew G t len) := ⟨Nat.le_succ _, fun x _ h => if_neg (by omega)⟩
theorem gnew_sh {G : aG} {t : Nat} {len y : Int} (h : y ≤ (G.1 : Int)) : (gnew G t len).2.1 y = G.2.1 y := if_neg (by omega)
theorem gnew_ln {G : aG} {t : Nat} {len y : Int} (h : y ≤ (G.1 : Int)) : (gnew G t len).2.2.1 y = G.2.2.1 y := if_neg (by omega)
theorem wM.gnew {G : aG} {m : aM} {t : Nat} {len : Int} (h : wM G m) (ht : wt t) (h0 : 0 ≤ len) (h1 : len < 100000) : wM (gnew G t len) m := by
  refine ⟨fun x x1 x2 => ?_, fun x hx j => ?_⟩
  · by_cases hx : x = ((G.1 + 1 : Nat) : Int)
    · have e1 : (_root_.Jvm.Pilot.@@N@@.gnew G t len).2.1 x = t := if_pos hx
      have e2 : (_root_.Jvm.Pilot.@@N@@.gnew G t len).2.2.1 x = len := if_pos hx
      rw [e1, e2]
      have hz := h.2 x (by omega)
      refine ⟨ht, h0, h1, fun j _ => ?_⟩
      show okS _ _ (m x j) (G.2.2.2 x j)
      rw [(hz j).1, (hz j).2]
      exact okS_0 _ _
    · have x2 : x ≤ ((G.1 + 1 : Nat) : Int) := x2
      rw [gnew_sh (by omega), gnew_ln (by omega)]
      obtain ⟨a1, a2, a3, a4⟩ := h.1 x x1 (by omega)
      exact ⟨a1, a2, a3, fun j hj => okS_mono (gnew_le G t len) (a4 j hj)⟩
  · have hx : ((G.1 + 1 : Nat) : Int) < x := hx
    exact h.2 x (by omega) j
theorem cellE_new {ev : sV} {ad ad' : Nat → Nat} {G : aG} {m : aM} {t : Nat} {len y : Int} (h : wM G m) (ha : ∀ k, k ≤ G.1 → ad' k = ad k) (h1 : 1 ≤ y) (h2 : y ≤ (G.1 : Int)) : cellE ev ad' (gnew G t len) m y = cellE ev ad G m y := by
  unfold cellE
  rw [gnew_sh h2, gnew_ln h2]
  obtain ⟨a1, a2, a3, a4⟩ := h.1 y h1 h2
  exact cellV_mono ha a1 a4
theorem wC.new {ev : sV} {pc nx : Nat} {L st st' : List aV} {mm : aM} {X : aX} {t k : Nat} {len : Int} (h : wC ev (pc, L, st, mm, X)) (ht : wt t) (h0 : 0 ≤ len) (h1 : len < 100000) (hs : ∀ v ∈ st', v ∈ st ∨ v = (t, ((X.1.1 + 1 : Nat) : Int))) : wC ev (nx, L, st', mm, aMk X t len k) := by
  refine ⟨fun v hv hn => wv_mono (gnew_le X.1 t len) (h.1 v hv hn), fun v hv => ?_, h.2.2.1.gnew ht h0 h1, h.2.2.2.1, ?_⟩
  · rcases hs v hv with hv | rfl
    · exact ⟨(h.2.1 v hv).1, wv_mono (gnew_le X.1 t len) (h.2.1 v hv).2⟩
    · exact ⟨n99_w _ ht, (wv_w ht).mpr ⟨by omega, Int.le_refl _, if_pos rfl⟩⟩
  · exact h.2.2.2.2
section New
variable {p : Program} {l : Launch} {e : Env} {R : Room} {s : State} {m : MethodId} {args : Array Value} {below : List Frame} {meth : Method} {cd : Code} {Q : State → Prop} {cc : ByteArray} {ev : sV} {nL : Nat} {ad0 : Nat → Nat} {g0 : aG}
variable {pc : Nat} {L st r : List aV} {mm : aM} {X : aX} {c' : aC} {own : String}
/-- behind the making of a cell -/
theorem sJ_new {nx t k : Nat} {len : Int} (ht : wt t) (h0 : 0 ≤ len) (h1 : len < 100000) (hs : ∀ v ∈ r, v ∈ st)
    (kk : sJ p l e R s m args below meth cd ev nL ad0 g0 Q (nx, L, (t, ((X.1.1 + 1 : Nat) : Int)) :: r, mm, aMk X t len k))
    {ad : Nat → Nat} {locs : List Loc} {ls : Array Slot} (g1 : ∀ k, k ≤ g0.1 → ad k = ad0 k) (g2 : gLe g0 X.1) (g3 : wC ev (pc, L, st, mm, X)) (g5 : lR ev ad nL L ls) (q : Nat) (H1 : Heap)
    (hP : va_P (vD ev) vwCl (sWl ev ad X.1 mm ++ [(q, cellV ev (va_up ad (X.1.1 + 1) q) t len (fun _ => 0) (fun _ => 0))]) H1) (hD : va_D (vA ev) (sWl ev ad X.1 mm ++ [(q, cellV ev (va_up ad (X.1.1 + 1) q) t len (fun _ => 0) (fun _ => 0))])) (hS : va_S (vA ev) s.heap H1 locs) :
    W p l e R s m args below meth cd H1 locs (X.2.1 + 1) (X.2.2 + k) Q (F0 m nx ls (.ref q :: r.map (cv ev ad))) := by
  have ha : ∀ k, k ≤ X.1.1 → va_up ad (X.1.1 + 1) q k = ad k := fun k hk => if_neg (by omega)
  have hq : va_up ad (X.1.1 + 1) q (X.1.1 + 1) = q := if_pos rfl
  have hz := g3.2.2.1.2 (((X.1.1 + 1 : Nat) : Int)) (by show (X.1.1 : Int) < _; omega)
  have hce : cellE ev (va_up ad (X.1.1 + 1) q) (gnew X.1 t len) mm (((X.1.1 + 1 : Nat) : Int)) = cellV ev (va_up ad (X.1.1 + 1) q) t len (fun _ => 0) (fun _ => 0) := by
    unfold cellE
    rw [show (gnew X.1 t len).2.1 (((X.1.1 + 1 : Nat) : Int)) = t from if_pos rfl, show (gnew X.1 t len).2.2.1 (((X.1.1 + 1 : Nat) : Int)) = len from if_pos rfl]
    congr 1
    · funext j; exact (hz j).1
    · funext j; exact (hz j).2
  have hpush := sWl_push (ev := ev) (ad := ad) (ad' := va_up ad (X.1.1 + 1) q) (G := X.1) (G' := gnew X.1 t len) (m := mm) (m' := mm) rfl (fun k _ hk => ha k hk) (fun y y1 y2 => cellE_new g3.2.2.1 ha y1 y2)
  rw [hq, hce] at hpush
  rw [hpush] at hP hD
  have hW := kk (va_up ad (X.1.1 + 1) q) H1 locs ls (fun k hk => (ha k (Nat.le_trans hk g2.1)).trans (g1 k hk)) (g2.trans (gnew_le X.1 t len)) (g3.new ht h0 h1 (fun v hv => by
    rcases List.mem_cons.mp hv with rfl | hv
    · exact Or.inr rfl
    · exact Or.inl (hs v hv))) ⟨hP, hD, hS⟩ ⟨g5.1, g5.2.1, g5.2.2.1, fun i v hi hv => by rw [cv_mono ha (g3.1 v (List.mem_of_getElem? hi) hv)]; exact g5.2.2.2 i v hi hv⟩
  have e1 : cv ev (va_up ad (X.1.1 + 1) q) (t, ((X.1.1 + 1 : Nat) : Int)) = .ref q := by
    rw [cv_w _ _ _ ht, show (((X.1.1 + 1 : Nat) : Int)).toNat = X.1.1 + 1 by omega, hq]
  have e2 : r.map (cv ev (va_up ad (X.1.1 + 1) q)) = r.map (cv ev ad) := List.map_congr_left fun v hv => cv_mono ha (g3.2.1 v (hs v hv)).2
  have hW : W p l e R s m args below meth cd H1 locs (X.2.1 + 1) (X.2.2 + k) Q (F0 m nx ls (cv ev (va_up ad (X.1.1 + 1) q) (t, ((X.1.1 + 1 : Nat) : Int)) :: r.map (cv ev (va_up ad (X.1.1 + 1) q)))) := hW
  rw [e1, e2] at hW
  exact hW
theorem dflt_w {ev : sV} {ad : Nat → Nat} {ty : Nat} (h : ty = 0 ∨ ty = 5 ∨ ty = 1 ∨ ty = 40 ∨ wt ty) : defaultValue (ftT ty) = fvl ev ad ty 0 0 := by
  have h2 : ty = 0 ∨ ty = 5 ∨ ty = 1 ∨ ty = 40 ∨ ((10 ≤ ty ∧ ty < 19) ∨ (30 ≤ ty ∧ ty < 35)) := h
  rcases h2 with rfl | rfl | rfl | rfl | h2
  · rfl
  · rfl
  · rfl
  · rfl
  · rcases (show ty = 10 ∨ ty = 11 ∨ ty = 12 ∨ ty = 13 ∨ ty = 14 ∨ ty = 15 ∨ ty = 16 ∨ ty = 17 ∨ ty = 18 ∨ ty = 30 ∨ ty = 31 ∨ ty = 32 ∨ ty = 33 ∨ ty = 34 by omega) with rfl | rfl | rfl | rfl | rfl | rfl | rfl | rfl | rfl | rfl | rfl | rfl | rfl | rfl <;> rfl
/-- a class's facts for 'new' -/
def nOK (own : String) (k t n : Nat) : Prop := 10 ≤ t ∧ t < 19 ∧ ∀ C T N, vwCl[t - 10]? = some (C, T, N) → N = n ∧ Cond.classLink own k C ∈ gw ∧ Cond.instantiable C N ∈ gw ∧ Cond.initialized C ∈ gw
theorem sd_new (hx : p.tables.exec = Jvm.exec) (hb : cd.code = cc) (hown : s.vm.findClass own = some m.cls) (hts : ∀ w ∈ gw, w.before args s = true) (hK : va_K (vD ev) vwCl (tysV ev) s) (hA : ∀ q, s.heap.size ≤ q → vA ev q) {k t n : Nat} (hn : nOK own k t n) (hd : decode cc pc = .ok (.new k, 3)) (hr : X.2.1 + 1 ≤ R.cells ∧ X.2.2 + n ≤ R.slots)
    (kk : sJ p l e R s m args below meth cd ev nL ad0 g0 Q (pc + 3, L, (t, ((X.1.1 + 1 : Nat) : Int)) :: st, mm, aMk X t 0 n)) : sJ p l e R s m args below meth cd ev nL ad0 g0 Q (pc, L, st, mm, X) := by
  obtain ⟨ht1, ht2, hn⟩ := hn
  obtain ⟨C, T, N, hc, hN, hin, hnm, hty, hdc, hfin⟩ := cls_ok ht1 ht2
  obtain ⟨rfl, n1, n2, n3⟩ := hn C T N hc
  intro ad H locs ls g1 g2 g3 g4 g5
  refine va_new (D := vD ev) (ci := t - 10) (fs := flds ev ad t (fun _ => 0) (fun _ => 0)) (C := C) (T := T) (N := N) hx hb hts hin (fun j => ftT ((ftl t).getD j 0)) hty hown (hts _ n1) (hts _ n2) (hts _ n3) hK g4.1 g4.2.1 g4.2.2 hA hc (fun j hj => ?_) hr.1 hr.2 hd (fun q H1 hP hD hS => ?_)
  · unfold vp_V
    have e9 := flds_at (ev := ev) (ad := ad) (t := t) (j := j) (f := fun _ => 0) (r := fun _ => 0) (by rw [← hN]; exact hj)
    show _ = ((flds ev ad t (fun _ => 0) (fun _ => 0))[j]?).getD .null
    rw [e9]
    exact dflt_w (ftl_ty ht1 ht2 (by rw [← hN]; exact hj))
  · have e : cellV ev (va_up ad (X.1.1 + 1) q) t 0 (fun _ => 0) (fun _ => 0) = .inr (t - 10, flds ev ad t (fun _ => 0) (fun _ => 0)) := by
      have e1 : cellV ev (va_up ad (X.1.1 + 1) q) t 0 (fun _ => 0) (fun _ => 0) = .inr (t - 10, flds ev (va_up ad (X.1.1 + 1) q) t (fun _ => 0) (fun _ => 0)) := by
        unfold cellV
        split <;> first | rfl | omega
      rw [e1]
      have e2 : flds ev (va_up ad (X.1.1 + 1) q) t (fun _ => 0) (fun _ => 0) = flds ev ad t (fun _ => 0) (fun _ => 0) := by
        unfold flds
        apply List.map_congr_left
        intro j hj
        rw [← dflt_w (ftl_ty ht1 ht2 (List.mem_range.mp hj)), ← dflt_w (ftl_ty ht1 ht2 (List.mem_range.mp hj))]
      rw [e2]
    rw [← e] at hP hD
    exact sJ_new (Or.inl ⟨ht1, ht2⟩) (Int.le_refl 0) (by decide) (fun v hv => hv) kk g1 g2 g3 g5 q H1 hP hD hS
theorem same_arr {tys : List (ClassId × FieldType)} {cA cB : ClassId} {ty : FieldType} (hK : va_K (vD ev) vwCl (tys ++ [(cA, ty)]) s) (hm : (cB, ty) ∈ tys) : cA = cB := by
  obtain ⟨i, hi⟩ := List.getElem?_of_mem hm
  have h1 := (hK.2 i (cB, ty) (by rw [List.getElem?_append_left (List.getElem?_eq_some_iff.mp hi).1]; exact hi)).2
  have h2 := (hK.2 tys.length (cA, ty) (by rw [List.getElem?_append_right (Nat.le_refl _), Nat.sub_self]; rfl)).2
  cases ty with
  | object C =>
    obtain ⟨_, _, _, _, _, h1⟩ := h1
    obtain ⟨_, _, _, _, _, h2⟩ := h2
    exact Option.some.inj (h2.symm.trans h1)
  | _ => exact Option.some.inj (Eq.trans (Eq.symm h2) h1)
theorem sd_newa (hx : p.tables.exec = Jvm.exec) (hb : cd.code = cc) (hts : ∀ w ∈ gw, w.before args s = true) (hK : va_K (vD ev) vwCl (tysV ev) s) (hA : ∀ q, s.heap.size ≤ q → vA ev q) {at' : ArrayType} (hat : at' = .char ∨ at' = .int ∨ at' = .long ∨ at' = .boolean) (hw : Cond.arrayClass (newarray.typeOf at') ∈ gw) {k : Int} (k0 : 0 ≤ k) (k1 : k < 100000) (hd : decode cc pc = .ok (.newarray at', 2)) (hr : X.2.1 + 1 ≤ R.cells ∧ X.2.2 + k.toNat ≤ R.slots)
    (kk : sJ p l e R s m args below meth cd ev nL ad0 g0 Q (pc + 2, L, (aArr at', ((X.1.1 + 1 : Nat) : Int)) :: r, mm, aMk X (aArr at') k k.toNat)) : sJ p l e R s m args below meth cd ev nL ad0 g0 Q (pc, L, (0, k) :: r, mm, X) := by
  intro ad H locs ls g1 g2 g3 g4 g5
  have hk : in32 k := ⟨by omega, by omega⟩
  have hnn : ¬ Int32.ofInt k < 0 := by
    have := i32_lt hk in32_0
    rw [show Int32.ofInt 0 = 0 from rfl] at this
    rw [this]; omega
  rcases hat with rfl | rfl | rfl | rfl
  · refine va_newa (D := vD ev) (ty := .char) (a0 := (k.toNat, .inl (fun _ => Int32.ofInt 0))) hx hb (hts _ hw) rfl hK g4.1 g4.2.1 g4.2.2 hA (fun cA => rfl) hnn (i32_clamp hk) (by show k.toNat * 2 ≤ _; omega) hr.1 hr.2 hd (fun q cA H1 hK1 hP hD hS => ?_)
    have e := same_arr hK1 (show (vC ev 30, FieldType.char) ∈ tysV ev by simp [tysV])
    rw [e] at hP hD
    exact sJ_new wt30 k0 k1 (fun v hv => List.mem_cons_of_mem _ hv) kk g1 g2 g3 g5 q H1 hP hD hS
  · refine va_newa (D := vD ev) (ty := .int) (a0 := (k.toNat, .inl (fun _ => Int32.ofInt 0))) hx hb (hts _ hw) rfl hK g4.1 g4.2.1 g4.2.2 hA (fun cA => rfl) hnn (i32_clamp hk) (by show k.toNat * 4 ≤ _; omega) hr.1 hr.2 hd (fun q cA H1 hK1 hP hD hS => ?_)
    have e := same_arr hK1 (show (vC ev 31, FieldType.int) ∈ tysV ev by simp [tysV])
    rw [e] at hP hD
    exact sJ_new wt31 k0 k1 (fun v hv => List.mem_cons_of_mem _ hv) kk g1 g2 g3 g5 q H1 hP hD hS
  · refine va_newa (D := vD ev) (ty := .long) (a0 := (k.toNat, .inr (.inl (fun _ => Int64.ofInt 0)))) hx hb (hts _ hw) rfl hK g4.1 g4.2.1 g4.2.2 hA (fun cA => rfl) hnn (i32_clamp hk) (by show k.toNat * 8 ≤ _; omega) hr.1 hr.2 hd (fun q cA H1 hK1 hP hD hS => ?_)
    have e := same_arr hK1 (show (vC ev 32, FieldType.long) ∈ tysV ev by simp [tysV])
    rw [e] at hP hD
    exact sJ_new wt32 k0 k1 (fun v hv => List.mem_cons_of_mem _ hv) kk g1 g2 g3 g5 q H1 hP hD hS
  · refine va_newa (D := vD ev) (ty := .boolean) (a0 := (k.toNat, .inl (fun _ => Int32.ofInt 0))) hx hb (hts _ hw) rfl hK g4.1 g4.2.1 g4.2.2 hA (fun cA => rfl) hnn (i32_clamp hk) (by show k.toNat * 1 ≤ _; omega) hr.1 hr.2 hd (fun q cA H1 hK1 hP hD hS => ?_)
    have e := same_arr hK1 (show (vC ev 33, FieldType.boolean) ∈ tysV ev by simp [tysV])
    rw [e] at hP hD
    exact sJ_new wt33 k0 k1 (fun v hv => List.mem_cons_of_mem _ hv) kk g1 g2 g3 g5 q H1 hP hD hS
theorem sd_newq (hx : p.tables.exec = Jvm.exec) (hb : cd.code = cc) (hown : s.vm.findClass own = some m.cls) (hts : ∀ w ∈ gw, w.before args s = true) (hK : va_K (vD ev) vwCl (tysV ev) s) (hA : ∀ q, s.heap.size ≤ q → vA ev q) {i : Nat} (hw : Cond.classLink own i "AskedTable$Token" ∈ gw) (hO : va_AO "AskedTable$Token" s) {k : Int} (k0 : 0 ≤ k) (k1 : k < 100000) (hd : decode cc pc = .ok (.anewarray i, 3)) (hr : X.2.1 + 1 ≤ R.cells ∧ X.2.2 + k.toNat ≤ R.slots)
    (kk : sJ p l e R s m args below meth cd ev nL ad0 g0 Q (pc + 3, L, (34, ((X.1.1 + 1 : Nat) : Int)) :: r, mm, aMk X 34 k k.toNat)) : sJ p l e R s m args below meth cd ev nL ad0 g0 Q (pc, L, (0, k) :: r, mm, X) := by
  intro ad H locs ls g1 g2 g3 g4 g5
  have hk : in32 k := ⟨by omega, by omega⟩
  have hnn : ¬ Int32.ofInt k < 0 := by
    have := i32_lt hk in32_0
    rw [show Int32.ofInt 0 = 0 from rfl] at this
    rw [this]; omega
  refine va_newq (D := vD ev) hx hb hown (hts _ hw) hO hK g4.1 g4.2.1 g4.2.2 hA hnn (i32_clamp hk) (by omega) hr.1 hr.2 hd (fun q cA H1 hK1 hP hD hS => ?_)
  have e := same_arr hK1 (show (vC ev 34, FieldType.object "AskedTable$Token") ∈ tysV ev by simp [tysV])
  rw [e] at hP hD
  exact sJ_new wt34 k0 k1 (fun v hv => List.mem_cons_of_mem _ hv) kk g1 g2 g3 g5 q H1 hP hD hS
theorem sd_aast (hx : p.tables.exec = Jvm.exec) (hb : cd.code = cc) (hK : va_K (vD ev) vwCl (tysV ev) s) {k x v : Int} (hd : decode cc pc = .ok (.aastore, 1))
    (h : (if 0 ≤ k ∧ k < aLen X x then some (pc + 1, L, r, mm, aPutR X x k v) else none) = some c') (kk : sJ p l e R s m args below meth cd ev nL ad0 g0 Q c') : sJ p l e R s m args below meth cd ev nL ad0 g0 Q (pc, L, (15, v) :: (0, k) :: (34, x) :: r, mm, X) := by
  by_cases hk01 : 0 ≤ k ∧ k < aLen X x
  · rw [if_pos hk01] at h
    cases h
    intro ad H locs ls g1 g2 g3 g4 g5
    have hv := (wv_w wt34).mp g3.top3.2
    have hv0 := (wv_w wt15).mp g3.top.2
    have hk : in32 k := g3.top2.2
    show W p l e R s m args below meth cd H locs X.2.1 X.2.2 Q (F0 m pc ls (cv ev ad (15, v) :: .int (Int32.ofInt k) :: cv ev ad (34, x) :: r.map (cv ev ad)))
    rw [cv_w ev ad x wt34, cv_w ev ad v wt15]
    have hat := sWl_at (ev := ev) (ad := ad) (G := X.1) (m := mm) hv.1 hv.2.1
    rw [cell34 hv.2.2] at hat
    have hatv := sWl_at (ev := ev) (ad := ad) (G := X.1) (m := mm) hv0.1 hv0.2.1
    rw [cellE_obj hv0.2.2 (by decide) (by decide)] at hatv
    refine va_astq (D := vD ev) hx hb hK g4.1 g4.2.1 g4.2.2 (x.toNat - 1) 4 (v.toNat - 1) 5 (r := (RX5, TX5, 8)) hat rfl hatv rfl (i32_in hk hk01.1 hk01.2) hd (fun H1 locs1 hP hD hS => ?_)
    have e : va_up (fun j : Nat => vRef ad (X.1.2.2.2 x (j : Int))) (Int32.ofInt k).toNatClampNeg (some (ad v.toNat)) = fun j : Nat => vRef ad ((gput X.1 x k v).2.2.2 x (j : Int)) := by
      funext j
      rw [i32_clamp hk]
      unfold va_up
      show _ = vRef ad (if x = x ∧ (j : Int) = k then v else X.1.2.2.2 x (j : Int))
      by_cases hj : j = k.toNat
      · rw [if_pos hj, if_pos ⟨rfl, by omega⟩]
        unfold vRef
        rw [if_neg (by omega)]
      · rw [if_neg hj, if_neg (by omega)]
    have hce : cellE ev ad (gput X.1 x k v) mm x = .inl (vC ev 34, (X.1.2.2.1 x).toNat, .inr (.inr (.inr (.inr (va_up (fun j : Nat => vRef ad (X.1.2.2.2 x (j : Int))) (Int32.ofInt k).toNatClampNeg (some (ad v.toNat))))))) := by
      rw [e]
      exact cell34 (G := gput X.1 x k v) hv.2.2
    rw [← hce] at hP hD
    refine kk ad H1 locs1 ls g1 g2 (g3.gup (fun w hw => List.mem_cons_of_mem _ (List.mem_cons_of_mem _ (List.mem_cons_of_mem _ hw))) hv.1 hv.2.1 ?_) (sH.gup hv.1 hv.2.1 hP hD hS) g5
    rw [hv.2.2]
    exact (okS_w wt15).mpr (Or.inr hv0)
  · rw [if_neg hk01] at h; cases h
end New
