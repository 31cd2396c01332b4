/-! arrays of the world -/
theorem cell30 {ev : sV} {ad : Nat → Nat} {G : aG} {m : aM} {x : Int} (h : G.2.1 x = 30) : cellE ev ad G m x = .inl (vC ev 30, (G.2.2.1 x).toNat, .inl (fun j => Int32.ofInt (m x (j : Int)))) := by
  unfold cellE; rw [h]; rfl
theorem cell31 {ev : sV} {ad : Nat → Nat} {G : aG} {m : aM} {x : Int} (h : G.2.1 x = 31) : cellE ev ad G m x = .inl (vC ev 31, (G.2.2.1 x).toNat, .inl (fun j => Int32.ofInt (m x (j : Int)))) := by
  unfold cellE; rw [h]; rfl
theorem cell32 {ev : sV} {ad : Nat → Nat} {G : aG} {m : aM} {x : Int} (h : G.2.1 x = 32) : cellE ev ad G m x = .inl (vC ev 32, (G.2.2.1 x).toNat, .inr (.inl (fun j => Int64.ofInt (m x (j : Int))))) := by
  unfold cellE; rw [h]; rfl
theorem cell33 {ev : sV} {ad : Nat → Nat} {G : aG} {m : aM} {x : Int} (h : G.2.1 x = 33) : cellE ev ad G m x = .inl (vC ev 33, (G.2.2.1 x).toNat, .inl (fun j => Int32.ofInt (m x (j : Int)))) := by
  unfold cellE; rw [h]; rfl
theorem cell34 {ev : sV} {ad : Nat → Nat} {G : aG} {m : aM} {x : Int} (h : G.2.1 x = 34) : cellE ev ad G m x = .inl (vC ev 34, (G.2.2.1 x).toNat, .inr (.inr (.inr (.inr (fun j => vRef ad (G.2.2.2 x (j : Int))))))) := by
  unfold cellE; rw [h]; rfl
theorem n99_w {t : Nat} (x : Int) (h : wt t) : ((t, x) : aV).1 ≠ 99 := by
  have h : (10 ≤ t ∧ t < 19) ∨ (30 ≤ t ∧ t < 35) := h
  show t ≠ 99
  omega
theorem wt30 : wt 30 := Or.inr (by decide)
theorem wt31 : wt 31 := Or.inr (by decide)
theorem wt32 : wt 32 := Or.inr (by decide)
theorem wt33 : wt 33 := Or.inr (by decide)
theorem wt34 : wt 34 := Or.inr (by decide)
theorem wt15 : wt 15 := Or.inl (by decide)
theorem upd_eq {f : Int → Int} {m : aM} {x i v : Int} (h0 : 0 ≤ i) (hf : f = m x) : upd (fun j : Nat => Int32.ofInt (f (j : Int))) i.toNat (Int32.ofInt v) = fun j : Nat => Int32.ofInt (mup m x i v x (j : Int)) := by
  funext j
  unfold upd mup
  by_cases h : j = i.toNat
  · rw [if_pos h, if_pos ⟨rfl, by omega⟩]
  · rw [if_neg h, if_neg (by omega), hf]
theorem updL_eq {m : aM} {x i v : Int} (h0 : 0 ≤ i) : vp_updL (fun j : Nat => Int64.ofInt (m x (j : Int))) i.toNat (Int64.ofInt v) = fun j : Nat => Int64.ofInt (mup m x i v x (j : Int)) := by
  funext j
  unfold vp_updL mup
  by_cases h : j = i.toNat
  · rw [if_pos h, if_pos ⟨rfl, by omega⟩]
  · rw [if_neg h, if_neg (by omega)]
section Arr
variable {p : Program} {l : Launch} {e : Env} {R : Room} {s : State} {m : MethodId} {args : Array Value} {below : List Frame} {meth : Method} {cd : Code} {Q : State → Prop} {cc : ByteArray} {ev : sV} {nL : Nat} {ad0 : Nat → Nat} {g0 : aG}
variable {pc : Nat} {L st r : List aV} {mm : aM} {X : aX} {c' : aC} {own : String}
theorem aALd_inv {i n : Int} {v : aV} {nx : Nat} (h : aALd i n v nx L r mm X = some c') : 0 ≤ i ∧ i < n ∧ c' = (nx, L, v :: r, mm, X) := by
  unfold aALd at h
  split at h
  · rename_i hi
    exact ⟨hi.1, hi.2, (Option.some.inj h).symm⟩
  · cases h
theorem aASt_inv {i n x v : Int} {nx : Nat} (h : aASt i n x v nx L r mm X = some c') : 0 ≤ i ∧ i < n ∧ c' = (nx, L, r, mup mm x i v, X) := by
  unfold aASt at h
  split at h
  · rename_i hi
    exact ⟨hi.1, hi.2, (Option.some.inj h).symm⟩
  · cases h
/-- a load of a number out of an array of the world -/
theorem sd_ald {t tv : Nat} {k x : Int} {wval : Value} (ht : wt t) (hw0 : wv X.1 (tv, mm x k) → ((tv, mm x k) : aV).1 ≠ 99)
    (hok : wC ev (pc, L, (0, k) :: (t, x) :: r, mm, X) → X.1.2.1 x = t → 0 ≤ k → wv X.1 (tv, mm x k))
    (hs : ∀ (ad : Nat → Nat) (H : Heap) (locs : List Loc) (ls : Array Slot), 1 ≤ x → x ≤ (X.1.1 : Int) → X.1.2.1 x = t → in32 k → 0 ≤ k → k < X.1.2.2.1 x → sH ev ad X.1 mm s.heap H locs → W p l e R s m args below meth cd H locs X.2.1 X.2.2 Q (F0 m (pc + 1) ls (cv ev ad (tv, mm x k) :: r.map (cv ev ad))) → W p l e R s m args below meth cd H locs X.2.1 X.2.2 Q (F0 m pc ls (.int (Int32.ofInt k) :: .ref (ad x.toNat) :: r.map (cv ev ad))))
    (h : aALd k (aLen X x) (tv, mm x k) (pc + 1) L r mm X = some c') (kk : sJ p l e R s m args below meth cd ev nL ad0 g0 Q c') : sJ p l e R s m args below meth cd ev nL ad0 g0 Q (pc, L, (0, k) :: (t, x) :: r, mm, X) := by
  obtain ⟨k0, k1, rfl⟩ := aALd_inv h
  refine sJ_st (fun hw => ?_) (fun ad H locs ls hw hH hl kk => ?_) kk
  · have hv := (wv_w ht).mp hw.top2.2
    have := hok hw hv.2.2 k0
    exact (wC.pop (nx := pc) (wC.pop (nx := pc) hw)).push ⟨hw0 this, this⟩
  · have hv := (wv_w ht).mp hw.top2.2
    show W p l e R s m args below meth cd H locs X.2.1 X.2.2 Q (F0 m pc ls (.int (Int32.ofInt k) :: cv ev ad (t, x) :: r.map (cv ev ad)))
    rw [cv_w ev ad x ht]
    exact hs ad H locs ls hv.1 hv.2.1 hv.2.2 hw.top.2 k0 k1 hH kk
theorem wC.elt {t : Nat} {k x : Int} {w : aV} (hw : wC ev (pc, L, w :: (t, x) :: r, mm, X)) (ht : wt t) (k0 : 0 ≤ k) : okS X.1 (pk t k) (mm x k) (X.1.2.2.2 x k) := by
  have hv := (wv_w ht).mp hw.top2.2
  have := (hw.2.2.1.1 x hv.1 hv.2.1).2.2.2 k k0
  rw [show (pc, L, w :: (t, x) :: r, mm, X).2.2.2.2.1.2.1 x = t from hv.2.2] at this
  exact this
theorem sd_iald (hx : p.tables.exec = Jvm.exec) (hb : cd.code = cc) (hK : va_K (vD ev) vwCl (tysV ev) s) {k x : Int} (hd : decode cc pc = .ok (.iaload, 1))
    (h : aALd k (aLen X x) (0, mm x k) (pc + 1) L r mm X = some c') (kk : sJ p l e R s m args below meth cd ev nL ad0 g0 Q c') : sJ p l e R s m args below meth cd ev nL ad0 g0 Q (pc, L, (0, k) :: (31, x) :: r, mm, X) := by
  refine sd_ald (wval := .null) wt31 (fun _ => n99_0 _) (fun hw _ k0 => hw.elt wt31 k0) (fun ad H locs ls x1 x2 ht hk k0 k1 hH kk => ?_) h kk
  have hat := sWl_at (ev := ev) (ad := ad) (G := X.1) (m := mm) x1 x2
  rw [cell31 ht] at hat
  refine va_iald (D := vD ev) hx hb hK hH.1 (x.toNat - 1) 1 hat rfl (i32_in hk k0 k1) hd ?_
  rw [i32_clamp hk, show ((k.toNat : Nat) : Int) = k by omega]
  exact kk
theorem sd_cald (hx : p.tables.exec = Jvm.exec) (hb : cd.code = cc) (hK : va_K (vD ev) vwCl (tysV ev) s) {k x : Int} (hd : decode cc pc = .ok (.caload, 1))
    (h : aALd k (aLen X x) (0, mm x k) (pc + 1) L r mm X = some c') (kk : sJ p l e R s m args below meth cd ev nL ad0 g0 Q c') : sJ p l e R s m args below meth cd ev nL ad0 g0 Q (pc, L, (0, k) :: (30, x) :: r, mm, X) := by
  refine sd_ald (wval := .null) wt30 (fun _ => n99_0 _) (fun hw _ k0 => ?_) (fun ad H locs ls x1 x2 ht hk k0 k1 hH kk => ?_) h kk
  · have h6 : 0 ≤ mm x k ∧ mm x k < 65536 := hw.elt wt30 k0
    show in32 _
    exact ⟨by omega, by omega⟩
  have hat := sWl_at (ev := ev) (ad := ad) (G := X.1) (m := mm) x1 x2
  rw [cell30 ht] at hat
  refine va_cald (D := vD ev) hx hb hK hH.1 (x.toNat - 1) 0 hat rfl (i32_in hk k0 k1) hd ?_
  rw [i32_clamp hk, show ((k.toNat : Nat) : Int) = k by omega]
  exact kk
theorem sd_zald (hx : p.tables.exec = Jvm.exec) (hb : cd.code = cc) (hK : va_K (vD ev) vwCl (tysV ev) s) {k x : Int} (hd : decode cc pc = .ok (.baload, 1))
    (h : aALd k (aLen X x) (0, mm x k) (pc + 1) L r mm X = some c') (kk : sJ p l e R s m args below meth cd ev nL ad0 g0 Q c') : sJ p l e R s m args below meth cd ev nL ad0 g0 Q (pc, L, (0, k) :: (33, x) :: r, mm, X) := by
  refine sd_ald (wval := .null) wt33 (fun _ => n99_0 _) (fun hw _ k0 => ?_) (fun ad H locs ls x1 x2 ht hk k0 k1 hH kk => ?_) h kk
  · have h6 : mm x k = 0 ∨ mm x k = 1 := hw.elt wt33 k0
    show in32 _
    exact ⟨by omega, by omega⟩
  have hat := sWl_at (ev := ev) (ad := ad) (G := X.1) (m := mm) x1 x2
  rw [cell33 ht] at hat
  refine va_zald (D := vD ev) hx hb hK hH.1 (x.toNat - 1) 3 hat rfl (i32_in hk k0 k1) hd ?_
  rw [i32_clamp hk, show ((k.toNat : Nat) : Int) = k by omega]
  exact kk
theorem sd_lald (hx : p.tables.exec = Jvm.exec) (hb : cd.code = cc) (hK : va_K (vD ev) vwCl (tysV ev) s) {k x : Int} (hd : decode cc pc = .ok (.laload, 1))
    (h : aALd k (aLen X x) (1, mm x k) (pc + 1) L r mm X = some c') (kk : sJ p l e R s m args below meth cd ev nL ad0 g0 Q c') : sJ p l e R s m args below meth cd ev nL ad0 g0 Q (pc, L, (0, k) :: (32, x) :: r, mm, X) := by
  refine sd_ald (wval := .null) wt32 (fun _ => n99_1 _) (fun hw _ k0 => hw.elt wt32 k0) (fun ad H locs ls x1 x2 ht hk k0 k1 hH kk => ?_) h kk
  have hat := sWl_at (ev := ev) (ad := ad) (G := X.1) (m := mm) x1 x2
  rw [cell32 ht] at hat
  refine va_lald (D := vD ev) hx hb hK hH.1 (x.toNat - 1) 2 hat rfl (i32_in hk k0 k1) hd ?_
  rw [i32_clamp hk, show ((k.toNat : Nat) : Int) = k by omega]
  exact kk
theorem sd_aald (hx : p.tables.exec = Jvm.exec) (hb : cd.code = cc) (hK : va_K (vD ev) vwCl (tysV ev) s) {k x : Int} (hd : decode cc pc = .ok (.aaload, 1))
    (h : (if 0 ≤ k ∧ k < aLen X x then (if aRf X x k = 0 then none else some (pc + 1, L, ((15, aRf X x k) : aV) :: r, mm, X)) else none) = some c') (kk : sJ p l e R s m args below meth cd ev nL ad0 g0 Q c') : sJ p l e R s m args below meth cd ev nL ad0 g0 Q (pc, L, (0, k) :: (34, x) :: r, mm, X) := by
  by_cases hk01 : 0 ≤ k ∧ k < aLen X x
  · rw [if_pos hk01] at h
    by_cases hr0 : aRf X x k = 0
    · rw [if_pos hr0] at h; cases h
    · rw [if_neg hr0] at h
      cases h
      refine sJ_st (fun hw => ?_) (fun ad H locs ls hw hH hl kk => ?_) kk
      · have hv := (wv_w wt34).mp hw.top2.2
        refine (wC.pop (nx := pc) (wC.pop (nx := pc) hw)).push ⟨n99_w _ wt15, (wv_w wt15).mpr ?_⟩
        rcases (okS_w wt15).mp (hw.elt wt34 hk01.1) with h0 | h0
        · exact absurd h0 hr0
        · exact h0
      · have hv := (wv_w wt34).mp hw.top2.2
        have hk : in32 k := hw.top.2
        show W p l e R s m args below meth cd H locs X.2.1 X.2.2 Q (F0 m pc ls (.int (Int32.ofInt k) :: cv ev ad (34, x) :: r.map (cv ev ad)))
        rw [cv_w ev ad x wt34]
        have hat := sWl_at (ev := ev) (ad := ad) (G := X.1) (m := mm) hv.1 hv.2.1
        rw [cell34 hv.2.2] at hat
        refine va_aldq (D := vD ev) hx hb hK hH.1 (x.toNat - 1) 4 hat rfl (i32_in hk hk01.1 hk01.2) hd ?_
        rw [i32_clamp hk, show ((k.toNat : Nat) : Int) = k by omega]
        have hr0 : ¬ X.1.2.2.2 x k = 0 := hr0
        unfold vRef
        rw [if_neg hr0]
        have kk : W p l e R s m args below meth cd H locs X.2.1 X.2.2 Q (F0 m (pc + 1) ls (cv ev ad (15, aRf X x k) :: r.map (cv ev ad))) := kk
        rw [cv_w ev ad _ wt15] at kk
        exact kk
  · rw [if_neg hk01] at h; cases h
/-- stores -/
theorem sd_ast {t : Nat} {k x v v' : Int} {w : aV} {nv : Value} (ht : wt t) (hel : ∀ ad, cellE ev ad X.1 (mup mm x k v') x = cellE ev ad X.1 (mup mm x k v') x)
    (hok : wC ev (pc, L, w :: (0, k) :: (t, x) :: r, mm, X) → okS X.1 (pk t k) v' (X.1.2.2.2 x k))
    (hs : ∀ (ad : Nat → Nat) (H : Heap) (locs : List Loc) (ls : Array Slot), wC ev (pc, L, w :: (0, k) :: (t, x) :: r, mm, X) → 1 ≤ x → x ≤ (X.1.1 : Int) → X.1.2.1 x = t → in32 k → 0 ≤ k → k < X.1.2.2.1 x → sH ev ad X.1 mm s.heap H locs → (∀ (H1 : Heap) (locs1 : List Loc), va_P (vD ev) vwCl ((sWl ev ad X.1 mm).set (x.toNat - 1) (ad x.toNat, cellE ev ad X.1 (mup mm x k v') x)) H1 → va_D (vA ev) ((sWl ev ad X.1 mm).set (x.toNat - 1) (ad x.toNat, cellE ev ad X.1 (mup mm x k v') x)) → va_S (vA ev) s.heap H1 locs1 → W p l e R s m args below meth cd H1 locs1 X.2.1 X.2.2 Q (F0 m (pc + 1) ls (r.map (cv ev ad)))) → W p l e R s m args below meth cd H locs X.2.1 X.2.2 Q (F0 m pc ls (cv ev ad w :: .int (Int32.ofInt k) :: .ref (ad x.toNat) :: r.map (cv ev ad))))
    (h : aASt k (aLen X x) x v' (pc + 1) L r mm X = some c') (kk : sJ p l e R s m args below meth cd ev nL ad0 g0 Q c') : sJ p l e R s m args below meth cd ev nL ad0 g0 Q (pc, L, w :: (0, k) :: (t, x) :: r, mm, X) := by
  obtain ⟨k0, k1, rfl⟩ := aASt_inv h
  intro ad H locs ls h1 h2 h3 h4 h5
  have hv := (wv_w ht).mp h3.top3.2
  show W p l e R s m args below meth cd H locs X.2.1 X.2.2 Q (F0 m pc ls (cv ev ad w :: .int (Int32.ofInt k) :: cv ev ad (t, x) :: r.map (cv ev ad)))
  rw [cv_w ev ad x ht]
  refine hs ad H locs ls h3 hv.1 hv.2.1 hv.2.2 h3.top2.2 k0 k1 h4 (fun H1 locs1 hP hD hS => ?_)
  refine kk ad H1 locs1 ls h1 h2 (h3.up (fun w hw => List.mem_cons_of_mem _ (List.mem_cons_of_mem _ (List.mem_cons_of_mem _ hw))) hv.1 hv.2.1 ?_) (sH.up hv.1 hv.2.1 hP hD hS) h5
  rw [hv.2.2]
  exact hok h3
theorem sd_iast (hx : p.tables.exec = Jvm.exec) (hb : cd.code = cc) (hK : va_K (vD ev) vwCl (tysV ev) s) {k x v : Int} (hd : decode cc pc = .ok (.iastore, 1))
    (h : aASt k (aLen X x) x v (pc + 1) L r mm X = some c') (kk : sJ p l e R s m args below meth cd ev nL ad0 g0 Q c') : sJ p l e R s m args below meth cd ev nL ad0 g0 Q (pc, L, (0, v) :: (0, k) :: (31, x) :: r, mm, X) := by
  refine sd_ast (v := v) (nv := .null) wt31 (fun _ => rfl) (fun hw => hw.top.2) (fun ad H locs ls hw x1 x2 ht hk k0 k1 hH kk => ?_) h kk
  have hat := sWl_at (ev := ev) (ad := ad) (G := X.1) (m := mm) x1 x2
  rw [cell31 ht] at hat
  rw [cell31 (G := X.1) (m := mup mm x k v) ht, ← upd_eq (f := mm x) k0 rfl] at kk
  refine va_iast (D := vD ev) hx hb hK hH.1 hH.2.1 hH.2.2 (x.toNat - 1) 1 hat rfl (i32_in hk k0 k1) hd ?_
  rw [i32_clamp hk]
  exact kk
theorem sd_cast (hx : p.tables.exec = Jvm.exec) (hb : cd.code = cc) (hK : va_K (vD ev) vwCl (tysV ev) s) {k x v : Int} (hd : decode cc pc = .ok (.castore, 1))
    (h : aASt k (aLen X x) x (v % 65536) (pc + 1) L r mm X = some c') (kk : sJ p l e R s m args below meth cd ev nL ad0 g0 Q c') : sJ p l e R s m args below meth cd ev nL ad0 g0 Q (pc, L, (0, v) :: (0, k) :: (30, x) :: r, mm, X) := by
  refine sd_ast (v := v) (nv := .null) wt30 (fun _ => rfl) (fun hw => show 0 ≤ v % 65536 ∧ v % 65536 < 65536 by omega) (fun ad H locs ls hw x1 x2 ht hk k0 k1 hH kk => ?_) h kk
  have hat := sWl_at (ev := ev) (ad := ad) (G := X.1) (m := mm) x1 x2
  rw [cell30 ht] at hat
  rw [cell30 (G := X.1) (m := mup mm x k (v % 65536)) ht, ← upd_eq (f := mm x) k0 rfl] at kk
  refine va_cast (D := vD ev) hx hb hK hH.1 hH.2.1 hH.2.2 (x.toNat - 1) 0 hat rfl (i32_in hk k0 k1) hd ?_
  rw [i32_clamp hk, nar_c]
  exact kk
theorem sd_zast (hx : p.tables.exec = Jvm.exec) (hb : cd.code = cc) (hK : va_K (vD ev) vwCl (tysV ev) s) {k x v : Int} (hz : v = 0 ∨ v = 1) (hd : decode cc pc = .ok (.bastore, 1))
    (h : aASt k (aLen X x) x v (pc + 1) L r mm X = some c') (kk : sJ p l e R s m args below meth cd ev nL ad0 g0 Q c') : sJ p l e R s m args below meth cd ev nL ad0 g0 Q (pc, L, (0, v) :: (0, k) :: (33, x) :: r, mm, X) := by
  refine sd_ast (v := v) (nv := .null) wt33 (fun _ => rfl) (fun hw => hz) (fun ad H locs ls hw x1 x2 ht hk k0 k1 hH kk => ?_) h kk
  have hat := sWl_at (ev := ev) (ad := ad) (G := X.1) (m := mm) x1 x2
  rw [cell33 ht] at hat
  rw [cell33 (G := X.1) (m := mup mm x k v) ht, ← upd_eq (f := mm x) k0 rfl] at kk
  refine va_zast (D := vD ev) hx hb hK hH.1 hH.2.1 hH.2.2 (x.toNat - 1) 3 hat rfl (i32_in hk k0 k1) hd ?_
  rw [i32_clamp hk, nar_z hz]
  exact kk
theorem sd_last (hx : p.tables.exec = Jvm.exec) (hb : cd.code = cc) (hK : va_K (vD ev) vwCl (tysV ev) s) {k x v : Int} (hd : decode cc pc = .ok (.lastore, 1))
    (h : aASt k (aLen X x) x v (pc + 1) L r mm X = some c') (kk : sJ p l e R s m args below meth cd ev nL ad0 g0 Q c') : sJ p l e R s m args below meth cd ev nL ad0 g0 Q (pc, L, (1, v) :: (0, k) :: (32, x) :: r, mm, X) := by
  refine sd_ast (v := v) (nv := .null) wt32 (fun _ => rfl) (fun hw => hw.top.2) (fun ad H locs ls hw x1 x2 ht hk k0 k1 hH kk => ?_) h kk
  have hat := sWl_at (ev := ev) (ad := ad) (G := X.1) (m := mm) x1 x2
  rw [cell32 ht] at hat
  rw [cell32 (G := X.1) (m := mup mm x k v) ht, ← updL_eq k0] at kk
  refine va_last (D := vD ev) hx hb hK hH.1 hH.2.1 hH.2.2 (x.toNat - 1) 2 hat rfl (i32_in hk k0 k1) hd ?_
  rw [i32_clamp hk]
  exact kk
theorem sd_alen (hx : p.tables.exec = Jvm.exec) (hb : cd.code = cc) (hK : va_K (vD ev) vwCl (tysV ev) s) {t : Nat} {x : Int} (ht1 : 30 ≤ t) (ht2 : t ≤ 34) (hd : decode cc pc = .ok (.arraylength, 1))
    (kk : sJ p l e R s m args below meth cd ev nL ad0 g0 Q (pc + 1, L, (0, aLen X x) :: r, mm, X)) : sJ p l e R s m args below meth cd ev nL ad0 g0 Q (pc, L, (t, x) :: r, mm, X) := by
  have ht : wt t := Or.inr ⟨ht1, by omega⟩
  refine sJ_st (fun hw => ?_) (fun ad H locs ls hw hH hl kk => ?_) kk
  · have hv := (wv_w ht).mp hw.top.2
    have := hw.2.2.1.1 x hv.1 hv.2.1
    refine (wC.pop (nx := pc) hw).push ⟨n99_0 _, ?_⟩
    show in32 (X.1.2.2.1 x)
    have h1 : 0 ≤ X.1.2.2.1 x := this.2.1
    have h2 : X.1.2.2.1 x < 100000 := this.2.2.1
    exact ⟨by omega, by omega⟩
  · have hv := (wv_w ht).mp hw.top.2
    have h1 : 0 ≤ X.1.2.2.1 x := (hw.2.2.1.1 x hv.1 hv.2.1).2.1
    show W p l e R s m args below meth cd H locs X.2.1 X.2.2 Q (F0 m pc ls (cv ev ad (t, x) :: r.map (cv ev ad)))
    rw [cv_w ev ad x ht]
    have hat := sWl_at (ev := ev) (ad := ad) (G := X.1) (m := mm) hv.1 hv.2.1
    have e1 : Int32.ofNat (X.1.2.2.1 x).toNat = Int32.ofInt (X.1.2.2.1 x) := by
      show Int32.ofInt (((X.1.2.2.1 x).toNat : Nat) : Int) = _
      rw [show (((X.1.2.2.1 x).toNat : Nat) : Int) = X.1.2.2.1 x by omega]
    have ht' := hv.2.2
    rcases (show t = 30 ∨ t = 31 ∨ t = 32 ∨ t = 33 ∨ t = 34 by omega) with rfl | rfl | rfl | rfl | rfl
    · rw [cell30 ht'] at hat
      exact va_alen (D := vD ev) hx hb hK hH.1 (x.toNat - 1) 0 hat (ty := .char) rfl e1 hd kk
    · rw [cell31 ht'] at hat
      exact va_alen (D := vD ev) hx hb hK hH.1 (x.toNat - 1) 1 hat (ty := .int) rfl e1 hd kk
    · rw [cell32 ht'] at hat
      exact va_alen (D := vD ev) hx hb hK hH.1 (x.toNat - 1) 2 hat (ty := .long) rfl e1 hd kk
    · rw [cell33 ht'] at hat
      exact va_alen (D := vD ev) hx hb hK hH.1 (x.toNat - 1) 3 hat (ty := .boolean) rfl e1 hd kk
    · rw [cell34 ht'] at hat
      exact va_alen (D := vD ev) hx hb hK hH.1 (x.toNat - 1) 4 hat (ty := .object "AskedTable$Token") rfl e1 hd kk
end Arr
