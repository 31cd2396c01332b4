/-! CALLS -/
theorem met_of {l : Launch} {y : MethodName} {ws : List Cond} {rm : Room} {Pc : Array Value → State → Prop} {mc ms : Nat} {ev : sV} {ad0 : Nat → Nat} {g0 : aG} {r : aR} (hr : r.1 < 2) (h : vx_Met l y ws rm Pc (qC ev ad0 g0 r) (xC ev ad0 g0 r) mc ms (vA ev)) : Met l y ws rm Pc (qC ev ad0 g0 r) mc ms (vA ev) := by
  intro p e ha hc hk s m args below hf happ hP hK
  obtain ⟨n, o, h1, h2, h3, h4⟩ := h p e ha hc hk s m args below hf happ hP hK
  refine ⟨n, o, h1, h2, h3, ?_⟩
  rcases h4 with h4 | ⟨q, ho, E, ce, L, hX, _⟩
  · exact h4
  · exact absurd hX.1.1 (by omega)
section Calls
variable {p : Program} {l : Launch} {e : Env} {R : Room} {s : State} {m : MethodId} {args : Array Value} {below : List Frame} {meth : Method} {cd : Code} {Q : State → Prop} {cc : ByteArray} {ev : sV} {nL : Nat} {ad0 : Nat → Nat} {g0 : aG}
variable {pc n : Nat} {L st rest : List aV} {mm : aM} {X : aX} {own : String} {D : aD} {r2 : aR} {c2 : aC}
theorem run_x {H : Heap} {locs : List Loc} {cells slots mc ms : Nat} {g : JFrame} {rs : List Value} {Qa : State → Outcome → State → Prop} {XC : String → State → State → Prop} {free : Addr → Prop} (h : va_Run p l e R s m args below meth cd H locs cells slots mc ms g rs Qa free) : vx_Run p l e R s m args below meth cd H locs cells slots mc ms g rs Qa XC free := fun T hT hX => Or.inl (h T hT hX)
/-- the handlers of a body are as the table of the abstract machine has them -/
def hdOK (own : String) (cc : ByteArray) (nL : Nat) (cd : Code) (D : aD) : Prop := ∀ pc e h k, aHand pc e D.2.2.2.2.2 = some (h, k) → k < nL ∧ ∃ (pre : List ExceptionTableEntry) (x : ExceptionTableEntry) (suf : List ExceptionTableEntry) (name : String), cd.exceptionTable.toList = pre ++ x :: suf ∧
  (∀ z ∈ pre, covers z pc = false ∨ (z.catchType ≠ 0 ∧ ∃ nm : String, Cond.classLink own z.catchType nm ∈ gw ∧ (exN e, nm) ∈ sNc)) ∧ covers x pc = true ∧ x.catchType ≠ 0 ∧ Cond.classLink own x.catchType name ∈ gw ∧ Cond.castable (exN e) name ∈ gn ∧ ((∃ kf : Fin 4, kf.val = k ∧ decode cc x.handlerPc = .ok (.astore_n kf, 1) ∧ h = x.handlerPc + 1) ∨ (decode cc x.handlerPc = .ok (.astore k, 2) ∧ h = x.handlerPc + 2))
theorem sJ_run (hx : p.tables.exec = Jvm.exec) (hb : cd.code = cc) (hown : s.vm.findClass own = some m.cls) (hts : ∀ w ∈ gw, w.before args s = true) (hKS : KS ev s s.heap) (hh : hdOK own cc nL cd D) (hrest : ∀ v ∈ rest, v ∈ st)
    (hrun : ∀ (ad : Nat → Nat) (H : Heap) (locs : List Loc) (ls : Array Slot), wC ev (pc, L, st, mm, X) → sH ev ad X.1 mm s.heap H locs → lR ev ad nL L ls → ∃ a : Array Value, vx_Run p l e R s m args below meth cd H locs X.2.1 X.2.2 r2.2.2.2.2.1 r2.2.2.2.2.2 (F0 m pc ls (st.map (cv ev ad))) (rest.map (cv ev ad)) (qC ev ad X.1 r2 a) (xC ev ad X.1 r2) (vA ev))
    (hret : aRet D pc (pc + 3, L, rest, mm, X) r2 = some c2) (kk : sJ p l e R s m args below meth cd ev nL ad0 g0 Q c2) : sJ p l e R s m args below meth cd ev nL ad0 g0 Q (pc, L, st, mm, X) := by
  intro ad H locs ls g1 g2 g3 g4 g5 T hT hX
  obtain ⟨k0, v0, m2, ⟨G2, mc, ms⟩⟩ := r2
  -- the locals and the stack go over to the new addresses
  have over : ∀ {ad' : Nat → Nat}, (∀ k, k ≤ X.1.1 → ad' k = ad k) → lR ev ad' nL L ls ∧ rest.map (cv ev ad') = rest.map (cv ev ad) := by
    intro ad' ha
    refine ⟨⟨g5.1, g5.2.1, g5.2.2.1, fun i v hi hv => by rw [cv_mono ha (g3.1 v (List.mem_of_getElem? hi) hv)]; exact g5.2.2.2 i v hi hv⟩, List.map_congr_left fun v hv => cv_mono ha (g3.2.1 v (hrest v hv)).2⟩
  obtain ⟨a9, hrun⟩ := hrun ad H locs ls g3 g4 g5
  rcases hrun T hT hX with ⟨v, st₀, t, T', L9, h0, X', hL, e1, e2, ⟨⟨hlt, hwr, ad', ha', hv, hP, hD⟩, hF⟩, stp⟩ | ⟨q, st₀, t, T', L9, E, ce, h0, X', hL, e1, e2, ⟨⟨hge, hE, hwr, ad', ha', hP, hD⟩, hF⟩, hce, hcv, hcl, stp⟩
  · obtain ⟨k1, k2, k3⟩ := vx_keep h0 e1 g4.2.2 (fun _ _ h => h) (fun _ h => h) hL hF
    obtain ⟨o1, o2⟩ := over ha'
    obtain ⟨w1, w2, w3, w4, w5⟩ := hwr
    dsimp only at w1 w2 w3 w4 w5 hlt hv hP hD
    have hs4 : sH ev ad' G2 m2 s.heap T'.heap (locs ++ L9) := ⟨by rw [e1]; exact hP, hD, k3⟩
    have hg1 : ∀ k, k ≤ g0.1 → ad' k = ad0 k := fun k hk => (ha' k (Nat.le_trans hk g2.1)).trans (g1 k hk)
    have hwL : ∀ v ∈ L, v.1 ≠ 99 → wv G2 v := fun v hv hn => wv_mono w1 (g3.1 v hv hn)
    have hwS : ∀ v ∈ rest, v.1 ≠ 99 ∧ wv G2 v := fun v hv => ⟨(g3.2.1 v (hrest v hv)).1, wv_mono w1 (g3.2.1 v (hrest v hv)).2⟩
    rcases (show k0 = 0 ∨ k0 = 1 by omega) with rfl | rfl
    · have hc2 : c2 = (pc + 3, L, rest, m2, (G2, X.2.1 + mc, X.2.2 + ms)) := (Option.some.inj hret).symm
      subst hc2
      have hW := kk ad' T'.heap (locs ++ L9) ls hg1 (g2.trans w1) ⟨hwL, hwS, w2, w3, w4⟩ hs4 o1
      have hv : v = none := by have := hv; cases this; rfl
      subst hv
      have hW : W p l e R s m args below meth cd T'.heap (locs ++ L9) (X.2.1 + mc) (X.2.2 + ms) Q (F0 m (pc + 3) ls (rest.map (cv ev ad'))) := hW
      rw [o2] at hW
      obtain ⟨t2, a1, b1⟩ := hW T' rfl X'
      exact ⟨t2, stp t2 a1, b1⟩
    · have hc2 : c2 = (pc + 3, L, v0 :: rest, m2, (G2, X.2.1 + mc, X.2.2 + ms)) := (Option.some.inj hret).symm
      subst hc2
      have hW := kk ad' T'.heap (locs ++ L9) ls hg1 (g2.trans w1) ⟨hwL, fun v hv => by
        rcases List.mem_cons.mp hv with rfl | hv
        · exact w5 rfl
        · exact hwS v hv, w2, w3, w4⟩ hs4 o1
      have hv : v = some (cv ev ad' v0) := by have := hv; cases this; rfl
      subst hv
      have hW : W p l e R s m args below meth cd T'.heap (locs ++ L9) (X.2.1 + mc) (X.2.2 + ms) Q (F0 m (pc + 3) ls (cv ev ad' v0 :: rest.map (cv ev ad'))) := hW
      rw [o2] at hW
      obtain ⟨t2, a1, b1⟩ := hW T' rfl X'
      exact ⟨t2, stp t2 a1, b1⟩
  · obtain ⟨k1, k2, k3⟩ := vx_keep h0 e1 g4.2.2 (fun _ _ h => h) (fun _ h => h) hL hF
    obtain ⟨o1, o2⟩ := over ha'
    obtain ⟨w1, w2, w3, w4, w5⟩ := hwr
    dsimp only at w1 w2 w3 w4 w5 hge hE hP hD
    have hs4 : sH ev ad' G2 m2 s.heap T'.heap (locs ++ L9) := ⟨by rw [e1]; exact hP, hD, k3⟩
    have hg1 : ∀ k, k ≤ g0.1 → ad' k = ad0 k := fun k hk => (ha' k (Nat.le_trans hk g2.1)).trans (g1 k hk)
    obtain ⟨e9, rfl⟩ : ∃ e9, k0 = e9 + 2 := ⟨k0 - 2, by omega⟩
    rw [show e9 + 2 - 2 = e9 by omega] at hE
    have hret : (match aHand pc e9 D.2.2.2.2.2 with
      | some (h, k) => some (h, aSt1 L k (99, 0), ([] : List aV), m2, (G2, X.2.1 + mc, X.2.2 + ms))
      | none => none) = some c2 := hret
    cases hhd : aHand pc e9 D.2.2.2.2.2 with
    | none => rw [hhd] at hret; cases hret
    | some hk =>
      rw [hhd] at hret
      obtain ⟨h, k⟩ := hk
      have hc2 := (Option.some.inj hret).symm
      try dsimp only at hc2
      subst hc2
      obtain ⟨hkn, pre, x, suf, name, hsp, hpass, hcov, hct, hlk, hcast, hst⟩ := hh pc e9 h k hhd
      have hW : W p l e R s m args below meth cd T'.heap (locs ++ L9) (X.2.1 + mc) (X.2.2 + ms) Q (F0 m x.handlerPc ls [.ref q]) := by
        have fin : ∀ ls' : Array Slot, lv_has ls' nL ((k, Value.ref q) :: (lLs ev ad' L).filter (fun z => !(z.1 == k) && !(z.1 + 1 == k && z.2.category == 2))) → W p l e R s m args below meth cd T'.heap (locs ++ L9) (X.2.1 + mc) (X.2.2 + ms) Q (F0 m h ls' []) := by
          intro ls' hl'
          refine kk ad' T'.heap (locs ++ L9) ls' hg1 (g2.trans w1) ⟨fun v hv hn => ?_, fun v hv => (by cases hv), w2, w3, w4⟩ hs4 ?_
          · rcases aSt1_mem hv hn with rfl | hm
            · exact absurd rfl hn
            · exact wv_mono w1 (g3.1 v hm hn)
          · refine lR.of hl' (by unfold aSt1; rw [List.length_set, aClr_len]; exact g5.1) (fun j w hj hw => ?_)
            unfold aSt1 at hj
            rw [List.getElem?_set] at hj
            by_cases hij : k = j
            · subst hij
              rw [if_pos rfl, if_pos (by rw [aClr_len]; rw [g5.1]; exact hkn)] at hj
              cases hj
              exact absurd rfl hw
            · rw [if_neg hij] at hj
              obtain ⟨a1, a2⟩ := aClr_at hj hw
              refine List.mem_cons_of_mem _ (List.mem_filter.mpr ⟨lLs_mem.mpr ⟨w, a1, hw, rfl⟩, ?_⟩)
              have e1 : (j == k) = false := by simp; omega
              simp only [e1, cv_cat]
              by_cases hji : j + 1 = k
              · have := a2 hji
                simp [this]
              · simp [hji]
        rcases hst with ⟨kf, hkf, hdec, hh2⟩ | ⟨hdec, hh2⟩
        · rw [hh2] at fin
          exact lv_astore_n hx hb hdec hkf o1.has hkn rfl fin
        · rw [hh2] at fin
          exact lv_astore hx hb hdec o1.has hkn rfl fin
      have hcat := vx_catch (E := E) (ce := ce) (q := q) (name := name) (pc := pc) (ls := ls) (rest := rest.map (cv ev ad)) hown pre x suf hsp (fun z hz => by
        rcases hpass z hz with h | ⟨h1, nm, h2, h3⟩
        · exact Or.inl h
        · refine Or.inr ⟨h1, nm, hts _ h2, ?_⟩
          rw [hE]
          exact hKS.2.2.2.2.2.2.2.2.2.2.2.2.2.1 _ h3) hcov hct (hts _ hlk) (by rw [hE]; exact nw_use rfl (hKS.2.2.2.2.2.2.2.2.2.2.2.1 _ hcast)) (by rw [e1]; exact hce) hcv hcl hW
      obtain ⟨t2, a1, b1⟩ := hcat T' rfl X'
      exact ⟨t2, stp.trans a1, b1⟩
end Calls
