/-! ASK: rows, sorted by the reference -/
section
variable {c0 m q : aM} {T : Tb} {u : Int → Int} {n N B : Int} {L : List Int}
abbrev crP (y j : Int) : Prop := (y = 130 ∧ j = 37) ∨ y = 150 ∨ y = 151
theorem cr_aq {q q' : aM} (f : Fr crP q q') : Fr aqP q q' := f.wk (fun y j e => by
  rcases e with e | e | e
  · exact Or.inl ⟨e.1, by omega⟩
  · exact Or.inr ⟨by omega, by omega⟩
  · exact Or.inr ⟨by omega, by omega⟩)
theorem RQ.cr {q' : aM} (h : RQ c0 N q L) (f : Fr crP q q') : RQ c0 N q' L := h.of (f 130 26 (fun e => by omega)) (fun y a b => by
  funext j
  exact f y j (fun e => by omega))
theorem r_rows {k f : Int} (hx : Cx c0 T u n N) (hE : EM q T u n) (hq : RQ c0 N q L) (hw : wf L) (l96 : (L.length : Int) ≤ 96) (h47 : q 130 47 = k) (h48 : q 130 48 = f) (hr : k = -1 ∨ (0 ≤ k ∧ k < Tn T)) (hf : f = 0 ∨ f = 1) : ∃ q', fM_chooseRows q = some q' ∧ Fr crP q q' ∧ q' 130 37 = ((RR c0 T u L).length : Int) ∧ lst q' 151 (srt (lt0 T k f) (RR c0 T u L)) := by
  have wt := hx.1
  have w2 := wt.2.1
  unfold fM_chooseRows fM_chooseRows_7
  obtain ⟨q', e, hp⟩ := aLoop_ok (f := fM_chooseRows_7_b) (Inv := fun x : aM × Int => Fr crP q x.1 ∧ ∃ i : Nat, x.2 = (i : Int) ∧ (i : Int) ≤ Tr T ∧ x.1 130 37 = ((crow (pB c0 T u L) i).length : Int) ∧ lst x.1 151 (srt (lt0 T k f) (crow (pB c0 T u L) i))) (μ := fun x => (Tr T - x.2).toNat) (Post := fun q' => Fr crP q q' ∧ q' 130 37 = ((RR c0 T u L).length : Int) ∧ lst q' 151 (srt (lt0 T k f) (RR c0 T u L))) (by
    rintro ⟨m1, x1⟩ ⟨g1, i, gi, iT, g37, gl⟩
    simp only at g1 gi g37 gl
    subst gi
    have hE1 := hE.fr (cr_aq g1)
    unfold fM_chooseRows_7_b
    simp only
    rw [hE1.2.2.1]
    by_cases hi : (i : Int) < Tr T
    · left
      obtain ⟨m2, e2, f2⟩ := r_isChosen hx hE1 (hq.cr g1) hw l96 (by omega) hi
      rw [if_pos hi, e2]
      simp only [Option.bind_some]
      have f2' : Fr crP m1 m2 := f2.wk (fun y j e => Or.inr (Or.inl e))
      rw [show ((i : Int)).toNat = i by omega]
      have len := crow_len (p := pB c0 T u L) (k := i)
      by_cases hc : ch c0 T u L i = true
      · rw [if_pos hc, if_neg (by decide)]
        have pk : pB c0 T u L i = true := by
          unfold pB
          rw [decide_eq_true hi, hc]; rfl
        have ck : crow (pB c0 T u L) (i + 1) = crow (pB c0 T u L) i ++ [(i : Int)] := by
          show crow (pB c0 T u L) i ++ (if pB c0 T u L i then [(i : Int)] else []) = _
          rw [if_pos pk]
        have e37 : m2 130 37 = ((crow (pB c0 T u L) i).length : Int) := by rw [f2 130 37 (by decide)]; exact g37
        have slen : (srt (lt0 T k f) (crow (pB c0 T u L) i)).length = (crow (pB c0 T u L) i).length := (srt_perm _).length_eq
        have smem (s : Int) (hs : s ∈ srt (lt0 T k f) (crow (pB c0 T u L) i)) : 0 ≤ s ∧ s < Tr T := by
          have := crow_mem ((srt_perm _).mem_iff.mp hs)
          omega
        unfold fM_chooseRows_28
        have bef (m3 : aM) (f3 : Fr (rwP 151) m2 m3) (s : Int) (hs : s ∈ srt (lt0 T k f) (crow (pB c0 T u L) i)) : fM_isBefore m3 (i : Int) s = some (if lt0 T k f (i : Int) s = true then 1 else 0) := by
          have sr := smem s hs
          have fa : Fr crP q m3 := (g1.tr f2').tr (f3.wk (fun y j e => Or.inr (Or.inr e)))
          rw [r_before wt (hE.fr (cr_aq fa)).2 (by omega) hi sr.1 sr.2 (k := k) (f := f) (by rw [fa 130 47 (fun e => by omega)]; exact h47) (by rw [fa 130 48 (fun e => by omega)]; exact h48) hr hf]
          unfold lt0
          by_cases g : k ≠ -1 ∧ (if f = 0 then 1 else -1) * zr T (i : Int) s k < 0
          · rw [if_pos g, decide_eq_true g, if_pos rfl]
          · rw [if_neg g, decide_eq_false g]; rfl
        have lm2 : lst m2 151 (srt (lt0 T k f) (crow (pB c0 T u L) i)) := lst_of (fun j a b => by rw [f2 151 j (show ¬ ((151 : Int) = 150) by decide)]) gl
        obtain ⟨m3, x, l1, l2, l3, l4, l5, l6⟩ := ins_loop (y := 151) (v := (i : Int)) (lt := lt0 T k f) (b := fM_chooseRows_28_b (i : Int)) (fin := fun m x => (Sum.inl (mup (mup m 151 x (i : Int)) 130 37 (w32 (m 130 37 + 1)), w32 ((i : Int) + 1)) : (aM × Int) ⊕ aM)) (m0 := m2) (srt (lt0 T k f) (crow (pB c0 T u L) i)) (by
          intro m3 x s f3 x0 x1 es hs hlt
          rw [slen] at x1
          unfold fM_chooseRows_28_b
          simp only
          rw [if_pos x0, w32_id (by omega) (by omega), gd_pos (by omega), es, bef m3 f3 s hs, hlt]
          simp only [Option.bind_some]
          rw [if_neg (by decide), gd_pos (by omega), w32_id (by omega) (by omega)]
          rfl) (by
          intro m3 x f3 x0 x1 hx'
          rw [slen] at x1
          unfold fM_chooseRows_28_b fM_chooseRows_68
          simp only
          rcases hx' with e | ⟨xp, s, es, hs, hlt⟩
          · rw [if_neg (by omega), gd_pos (by omega)]
            rfl
          · rw [if_pos xp, w32_id (by omega) (by omega), gd_pos (by omega), es, bef m3 f3 s hs, hlt]
            simp only [Option.bind_some]
            rw [if_pos (by rfl), gd_pos (by omega)]
            rfl) (srt (lt0 T k f) (crow (pB c0 T u L) i)) m2 FU (fun s h => h) (Nat.le_refl _) Fr.rf lm2 (by rw [slen]; show _ < 1000000; omega)
        rw [slen] at l1 l4 l6
        rw [e37, l1]
        refine ⟨_, rfl, ⟨(((g1.tr f2').tr (l2.wk (fun y j e => Or.inr (Or.inr e)))).up (Or.inr (Or.inr rfl))).up (Or.inl ⟨rfl, rfl⟩), i + 1, ?_, by omega, ?_, ?_⟩, ?_⟩
        · simp only
          rw [w32_id (by omega) (by omega)]
          omega
        · simp only
          rw [mup_same, l2 130 37 (by decide), e37, w32_id (by omega) (by omega), ck, List.length_append]
          simp only [List.length_cons, List.length_nil]
          omega
        · simp only
          rw [ck, srt_snoc]
          exact lst_of (fun j a b => by rw [mup_ref (by decide)]) l5
        · simp only
          rw [w32_id (by omega) (by omega)]
          omega
      · have pk : pB c0 T u L i = false := by
          unfold pB
          rw [Bool.eq_false_iff.mpr hc]
          exact Bool.and_false _
        have ck : crow (pB c0 T u L) (i + 1) = crow (pB c0 T u L) i := by
          show crow (pB c0 T u L) i ++ (if pB c0 T u L i then [(i : Int)] else []) = _
          rw [pk]
          exact List.append_nil _
        rw [if_neg hc, if_pos rfl, w32_id (by omega) (by omega)]
        exact ⟨_, rfl, ⟨g1.tr f2', i + 1, by simp only; omega, by omega, by simp only; rw [ck, f2 130 37 (by decide)]; exact g37, by simp only; rw [ck]; exact lst_of (fun j a b => by rw [f2 151 j (show ¬ ((151 : Int) = 150) by decide)]) gl⟩, by simp only; omega⟩
    · right
      rw [if_neg hi]
      have ei : i = (Tr T).toNat := by omega
      rw [ei, RR_tr wt] at g37 gl
      refine ⟨m1, rfl, ?_⟩
      exact ⟨g1, g37, gl⟩) FU (mup q 130 37 0, 0) ⟨Fr.rf.up (Or.inl ⟨rfl, rfl⟩), 0, rfl, by omega, (mup_same q 130 37 0).trans rfl, trivial⟩ (by show _ < 1000000; simp only; omega)
  exact ⟨q', e, hp⟩
end
