/-! ASK: the reference puts rows together -/
section
variable {T : Tb} {kd c k : Int} {c0 q : aM} {u : Int → Int} {n N : Int} {L : List Int}
theorem lns_join {g : List Int} {post : List (List Int)} : ∀ {pre : List (List Int)} {x : Int}, lns T kd c q x pre → LR T kd c q (x + (pre.length : Int)) g → q 151 (x + (pre.length : Int)) = rep g → lns T kd c q (x + (pre.length : Int) + 1) post → lns T kd c q x (pre ++ g :: post)
  | [], x, _, h1, h2, h3 => by
    rw [show x + (([] : List (List Int)).length : Int) = x by simp] at h1 h2 h3
    exact ⟨h1, h2, h3⟩
  | p :: pre, x, h, h1, h2, h3 => by
    have e : x + ((p :: pre).length : Int) = x + 1 + (pre.length : Int) := by simp only [List.length_cons]; omega
    rw [e] at h1 h2 h3
    exact ⟨h.1, h.2.1, lns_join h.2.2 h1 h2 h3⟩
theorem len_mem : ∀ {gs : List (List Int)} {g : List Int}, g ∈ gs → g.length ≤ gs.flatten.length
  | [], g, h => nomatch h
  | h :: gs, g, m => by
    rw [List.flatten_cons, List.length_append]
    rcases List.mem_cons.mp m with e | e
    · rw [e]; omega
    · have := len_mem e; omega
theorem gpp_bad {p : Nat → Bool} {a : Nat} (h : ∃ g ∈ gpp T k (crow p a), sumG T c g = none) : ∀ d : Nat, ∃ g ∈ gpp T k (crow p (a + d)), sumG T c g = none
  | 0 => h
  | d + 1 => by
    obtain ⟨g, m, e⟩ := gpp_bad h d
    show ∃ g ∈ gpp T k (crow p (a + d) ++ (if p (a + d) then [((a + d : Nat) : Int)] else [])), sumG T c g = none
    by_cases hp : p (a + d) = true
    · rw [if_pos hp]
      unfold gpp at m ⊢
      by_cases k1 : k = -1
      · rw [if_pos k1] at m ⊢
        have := List.mem_singleton.mp m
        subst this
        exact ⟨_, List.mem_cons_self .., sumG_app e⟩
      · rw [if_neg k1] at m ⊢
        rw [grp_snoc]
        exact insG_bad ⟨g, m, e⟩
    · rw [if_neg hp, List.append_nil]
      exact ⟨g, m, e⟩
/-- the reference's lines are the groups -/
def LNS (T : Tb) (kd c k : Int) (q : aM) (R : List Int) : Prop := (k = -1 → q 130 37 = 1 ∧ LR T kd c q 0 R) ∧ (k ≠ -1 → q 130 37 = ((grp T k R).length : Int) ∧ lns T kd c q 0 (grp T k R))
abbrev agP (y j : Int) : Prop := (y = 130 ∧ j = 37) ∨ (150 ≤ y ∧ y ≤ 154)
theorem ag_aq {q' : aM} (f : Fr agP q q') : Fr aqP q q' := f.wk (fun y j e => by
  rcases e with e | e
  · exact Or.inl ⟨e.1, by omega⟩
  · exact Or.inr ⟨by omega, by omega⟩)
theorem RQ.ag {q' : aM} (h : RQ c0 N q L) (f : Fr agP q q') : RQ c0 N q' L := h.of (f 130 26 (fun e => by omega)) (fun y a b => by
  funext j
  exact f y j (fun e => by omega))
theorem LNS.ch {q' : aM} {R : List Int} (h : LNS T kd c k q R) (f : Fr chP q q') : LNS T kd c k q' R := by
  refine ⟨fun e => ?_, fun e => ?_⟩
  · obtain ⟨a, b⟩ := h.1 e
    exact ⟨by rw [chP_row f (by decide)]; exact a, b.of (fun y p r => by rw [chP_row f (by omega)])⟩
  · obtain ⟨a, b⟩ := h.2 e
    exact ⟨by rw [chP_row f (by decide)]; exact a, lns_of0 (fun y j p r _ _ => by rw [chP_row f (by omega)]) b⟩
/-- one more row -/
theorem r_row {R : List Int} {r : Int} (wt : WT T) (hE : EM q T u n) (hk : 2 ≤ kd ∧ kd ≤ 5) (h38 : q 130 38 = kd - 1) (h39 : q 130 39 = k) (hkr : k = -1 ∨ (0 ≤ k ∧ k < Tn T)) (h40 : 3 ≤ kd → q 130 40 = c ∧ 0 ≤ c ∧ c < Tn T) (h3 : kd = 3 → tyS T c ≤ 1) (hL : LNS T kd c k q R) (hR : (R.length : Int) < 16) (hr : ∀ x ∈ R, 0 ≤ x ∧ x < Tr T) (r0 : 0 ≤ r) (r1 : r < Tr T) : ∃ o q', ((fM_lineOf q r).bind fun v3 => fM_gather v3.2 v3.1 r) = some (o, q') ∧ Fr agP q q' ∧ ((o = 0 ∧ kd = 3 ∧ ∃ g ∈ gpp T k (R ++ [r]), sumG T c g = none) ∨ (o = 1 ∧ LNS T kd c k q' (R ++ [r]))) := by
  have fld (q1 : aM) (f : Fr loP q q1) : q1 130 38 = kd - 1 ∧ (3 ≤ kd → q1 130 40 = c ∧ 0 ≤ c ∧ c < Tn T) := ⟨by rw [f 130 38 (fun e => by omega)]; exact h38, fun h => by rw [f 130 40 (fun e => by omega)]; exact h40 h⟩
  unfold fM_lineOf fM_lineOf_2 gpp
  rcases hkr with k1 | kr
  · obtain ⟨a37, aL⟩ := hL.1 k1
    have e1 : aLoop (fM_lineOf_2_b q r) FU 0 = some (0, q) := by
      refine aL_end (n := 999999) ?_
      unfold fM_lineOf_2_b fM_lineOf_25 fM_compareLine
      rw [a37, h39, if_pos (by decide), if_pos (by omega)]
      simp only [Option.bind_some]
      rw [if_neg (by decide), if_pos (by decide), if_pos trivial]
      rfl
    rw [e1]
    simp only [Option.bind_some]
    obtain ⟨o, q', e2, f2, h⟩ := r_gather (l := 0) (r := r) (g := R) wt hE hk h38 h40 h3 (by omega) (by omega) aL (by omega) hr r0 r1
    refine ⟨o, q', e2, f2.wk (fun y j e => Or.inr ⟨by omega, by omega⟩), ?_⟩
    rw [if_pos k1]
    rcases h with ⟨a, b, d⟩ | ⟨a, b⟩
    · exact Or.inl ⟨a, b, _, List.mem_cons_self .., d⟩
    · exact Or.inr ⟨a, fun _ => ⟨by rw [ga_row f2 (by decide)]; exact a37, b⟩, fun e => absurd k1 e⟩
  · have k0 : k ≠ -1 := by omega
    obtain ⟨a37, aL⟩ := hL.2 k0
    have pm := grp_perm (T := T) (k := k) k0 R
    have gw := grp_ok (T := T) (k := k) R
    have gl := GW_len gw
    have pl := pm.length_eq
    have gin : ∀ g ∈ grp T k R, ∀ a ∈ g, 0 ≤ a ∧ a < Tr T := fun g hg a ha => hr a (pm.mem_iff.mp (List.mem_flatten.mpr ⟨g, hg, ha⟩))
    obtain ⟨l, q1, pre, g, post, p1, p2, p3, p4, p5, p6, p7, p8, p9, p10, p11⟩ := r_place (q := q) (r := r) (kd := kd) (c := c) wt kr.1 kr.2 r0 r1 hE h39 (grp T k R) 0 FU (by omega) (by omega) (by omega) aL gw gin (by show _ < 1000000; omega)
    rw [p1]
    simp only [Option.bind_some]
    have fl := fld q1 p2
    have ill : (insG T k r (grp T k R)).length ≤ (insG T k r (grp T k R)).flatten.length := GW_len (insG_ok gw)
    have il2 : (insG T k r (grp T k R)).flatten.length = R.length + 1 := by
      rw [← grp_snoc, (grp_perm (T := T) (k := k) k0 (R ++ [r])).length_eq, List.length_append]
      rfl
    have preL : (pre.length : Int) < ((insG T k r (grp T k R)).length : Int) := by
      rw [p4, List.length_append]
      simp only [List.length_cons]
      omega
    have glen : (g.length : Int) ≤ 16 := by
      rcases p11 with h | h
      · rw [h]; simp
      · have := len_mem h; omega
    have grng : ∀ x ∈ g, 0 ≤ x ∧ x < Tr T := by
      rcases p11 with h | h
      · rw [h]; exact fun x hx => nomatch hx
      · exact gin g h
    obtain ⟨o, q', e2, f2, h⟩ := r_gather (l := l) (r := r) (g := g) wt (hE.fr (lo_aq p2)) hk fl.1 fl.2 h3 (by omega) (by omega) p7 glen grng r0 r1
    have fa : Fr agP q q' := (p2.wk (fun y j e => by
      rcases e with e | e
      · exact Or.inl e
      · exact Or.inr ⟨by omega, e.2⟩)).tr (f2.wk (fun y j e => Or.inr ⟨by omega, by omega⟩))
    refine ⟨o, q', e2, fa, ?_⟩
    rw [if_neg k0, grp_snoc]
    rcases h with ⟨a, b, d⟩ | ⟨a, b⟩
    · exact Or.inl ⟨a, b, g ++ [r], by rw [p4]; exact List.mem_append_right _ (List.mem_cons_self ..), d⟩
    · refine Or.inr ⟨a, fun e => absurd e k0, fun _ => ⟨?_, ?_⟩⟩
      · rw [ga_row f2 (by decide), grp_snoc, p10]; omega
      · rw [grp_snoc, p4]
        rw [Int.zero_add] at p5
        refine lns_join (lns_of0 (fun y j y0 y1 j0 j1 => f2 y j (fun e => by omega)) p6) (by rw [Int.zero_add, ← p5]; exact b) ?_ ?_
        · rw [Int.zero_add, ← p5, ga_row f2 (by decide)]; exact p8
        · rw [Int.zero_add, ← p5]
          exact lns_of0 (fun y j y0 y1 j0 j1 => f2 y j (fun e => by omega)) p9
theorem r_agg (hx : Cx c0 T u n N) (hE : EM q T u n) (hq : RQ c0 N q L) (hw : wf L) (l96 : (L.length : Int) ≤ 96) (hk : 2 ≤ kd ∧ kd ≤ 5) (h38 : q 130 38 = kd - 1) (h39 : q 130 39 = k) (hkr : k = -1 ∨ (0 ≤ k ∧ k < Tn T)) (h40 : 3 ≤ kd → q 130 40 = c ∧ 0 ≤ c ∧ c < Tn T) (h3 : kd = 3 → tyS T c ≤ 1) : ∃ o q', fM_aggregateAll q = some (o, q') ∧ Fr agP q q' ∧ ((o = 0 ∧ kd = 3 ∧ ∃ g ∈ gpp T k (RR c0 T u L), sumG T c g = none) ∨ (o = 1 ∧ LNS T kd c k q' (RR c0 T u L))) := by
  have wt := hx.1
  have w2 := wt.2.1
  have run (m : aM) (fm : Fr agP q m) (hm : LNS T kd c k m []) : ∃ o q', fM_aggregateAll_25 m 0 = some (o, q') ∧ Fr agP q q' ∧ ((o = 0 ∧ kd = 3 ∧ ∃ g ∈ gpp T k (RR c0 T u L), sumG T c g = none) ∨ (o = 1 ∧ LNS T kd c k q' (RR c0 T u L))) := by
    unfold fM_aggregateAll_25
    obtain ⟨⟨o, q'⟩, e, hp⟩ := aLoop_ok (f := fM_aggregateAll_25_b) (Inv := fun x : aM × Int => Fr agP q x.1 ∧ ∃ i : Nat, x.2 = (i : Int) ∧ (i : Int) ≤ Tr T ∧ LNS T kd c k x.1 (crow (pB c0 T u L) i)) (μ := fun x => (Tr T - x.2).toNat) (Post := fun v => Fr agP q v.2 ∧ ((v.1 = 0 ∧ kd = 3 ∧ ∃ g ∈ gpp T k (crow (pB c0 T u L) (Tr T).toNat), sumG T c g = none) ∨ (v.1 = 1 ∧ LNS T kd c k v.2 (crow (pB c0 T u L) (Tr T).toNat)))) (by
      rintro ⟨m1, x1⟩ ⟨g1, i, gi, iT, gl⟩
      simp only at g1 gi gl
      subst gi
      have hE1 := hE.fr (ag_aq g1)
      unfold fM_aggregateAll_25_b
      simp only
      rw [hE1.2.2.1]
      by_cases hi : (i : Int) < Tr T
      · obtain ⟨m2, e2, f2⟩ := r_isChosen hx hE1 (hq.ag g1) hw l96 (by omega) hi
        rw [if_pos hi, e2]
        simp only [Option.bind_some]
        have f2' : Fr agP m1 m2 := f2.wk (fun y j e => Or.inr ⟨by omega, by omega⟩)
        rw [show ((i : Int)).toNat = i by omega]
        have len := crow_len (p := pB c0 T u L) (k := i)
        by_cases hc : ch c0 T u L i = true
        · rw [if_pos hc, if_neg (by decide)]
          have pk : pB c0 T u L i = true := by
            unfold pB
            rw [decide_eq_true hi, hc]; rfl
          have ck : crow (pB c0 T u L) (i + 1) = crow (pB c0 T u L) i ++ [(i : Int)] := by
            show crow (pB c0 T u L) i ++ (if pB c0 T u L i then [(i : Int)] else []) = _
            rw [if_pos pk]
          have fq2 := g1.tr f2'
          obtain ⟨o, m3, e3, f3, h⟩ := r_row (q := m2) (r := (i : Int)) (R := crow (pB c0 T u L) i) wt (hE.fr (ag_aq fq2)) hk (by rw [fq2 130 38 (fun e => by omega)]; exact h38) (by rw [fq2 130 39 (fun e => by omega)]; exact h39) hkr (fun h => by rw [fq2 130 40 (fun e => by omega)]; exact h40 h) h3 (gl.ch f2) (by omega) (fun x hx' => by have := crow_mem hx'; omega) (by omega) hi
          have e3' : ((fM_lineOf m2 (i : Int)).bind fun v3 => (fM_gather v3.2 v3.1 (i : Int)).bind fun v4 => if v4.1 = 0 then some (Sum.inr ((0, v4.2))) else some (Sum.inl (v4.2, w32 ((i : Int) + 1))) : Option ((aM × Int) ⊕ (Int × aM))) = if o = 0 then some (Sum.inr (0, m3)) else some (Sum.inl (m3, w32 ((i : Int) + 1))) := by
            cases hl : fM_lineOf m2 (i : Int) with
            | none => rw [hl] at e3; exact nomatch e3
            | some v =>
              rw [hl] at e3
              simp only [Option.bind_some] at e3 ⊢
              rw [e3]
              rfl
          rw [e3', ← ck] at *
          rcases h with ⟨a, b, d⟩ | ⟨a, b⟩
          · right
            rw [if_pos a]
            refine ⟨(0, m3), rfl, fq2.tr f3, Or.inl ⟨rfl, b, ?_⟩⟩
            have := gpp_bad d ((Tr T).toNat - (i + 1))
            rwa [show i + 1 + ((Tr T).toNat - (i + 1)) = (Tr T).toNat by omega] at this
          · left
            rw [if_neg (by omega), w32_id (by omega) (by omega)]
            exact ⟨(m3, (i : Int) + 1), rfl, ⟨fq2.tr f3, i + 1, by simp only; omega, by omega, b⟩, by simp only; omega⟩
        · left
          have pk : pB c0 T u L i = false := by
            unfold pB
            rw [Bool.eq_false_iff.mpr hc]
            exact Bool.and_false _
          have ck : crow (pB c0 T u L) (i + 1) = crow (pB c0 T u L) i := by
            show crow (pB c0 T u L) i ++ (if pB c0 T u L i then [(i : Int)] else []) = _
            rw [pk]
            exact List.append_nil _
          rw [if_neg hc, if_pos rfl, w32_id (by omega) (by omega)]
          exact ⟨(m2, (i : Int) + 1), rfl, ⟨g1.tr f2', i + 1, by simp only; omega, by omega, by simp only; rw [ck]; exact gl.ch f2⟩, by simp only; omega⟩
      · right
        rw [if_neg hi]
        have ei : i = (Tr T).toNat := by omega
        rw [ei] at gl
        exact ⟨(1, m1), rfl, g1, Or.inr ⟨rfl, gl⟩⟩) FU (m, 0) ⟨fm, 0, rfl, by omega, hm⟩ (by show _ < 1000000; simp only; omega)
    rw [RR_tr wt] at hp
    exact ⟨o, q', e, hp⟩
  unfold fM_aggregateAll
  rw [h39]
  rcases hkr with k1 | kr
  · rw [if_pos (by omega)]
    unfold fM_begin
    rw [gd_pos (by decide)]
    simp only [Option.bind_some]
    refine run _ ?_ ⟨fun _ => ⟨mup_same _ _ _ _, ?_, fun _ => ⟨0, false, rfl, ?_, ?_⟩, fun _ => ?_⟩, fun e => absurd k1 e⟩
    · exact (((((Fr.rf.up (Or.inl ⟨rfl, rfl⟩)).up (Or.inr ⟨by decide, by decide⟩)).up (Or.inr ⟨by decide, by decide⟩)).up (Or.inr ⟨by decide, by decide⟩)).up (Or.inr ⟨by decide, by decide⟩)).up (Or.inl ⟨rfl, rfl⟩)
    · rw [mup_ref (by decide), mup_ref (by decide), mup_ref (by decide), mup_same]; rfl
    · rw [mup_ref (by decide), mup_ref (by decide), mup_same]
    · rw [mup_ref (by decide), mup_same]; decide
    · rw [mup_ref (by decide), mup_same]; rfl
  · rw [if_neg (by omega)]
    exact run _ (Fr.rf.up (Or.inl ⟨rfl, rfl⟩)) ⟨fun e => by omega, fun _ => ⟨mup_same _ _ _ _, trivial⟩⟩
end
