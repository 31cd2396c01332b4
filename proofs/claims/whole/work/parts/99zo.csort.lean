/-! ASK: rows, sorted -/
section
variable {c0 m q : aM} {T : Tb} {u : Int → Int} {n N B : Int} {L : List Int}
theorem c_sort {k f : Int} {R : List Int} (wt : WT T) (ct : CT m T) (mt : MT q T) (hk : m 123 3 = k) (hr : k = -1 ∨ (0 ≤ k ∧ k < Tn T)) (hf : f = 0 ∨ f = 1) (h5 : m 123 5 = (R.length : Int)) (l16 : (R.length : Int) ≤ 16) (hR : ∀ r ∈ R, 0 ≤ r ∧ r < Tr T) (hl : lst m 124 R.reverse) : ∃ m', fA_sortRows m f = some m' ∧ Fr (rwP 124) m m' ∧ lst m' 124 (srt (lt0 T k f) R) := by
  have e0 : fA_sortRows m f = fA_sortRows_13 m (if f = 0 then 1 else -1) 1 := by
    unfold fA_sortRows
    rcases hf with e | e
    · rw [if_pos e, if_pos e]
    · rw [if_neg (by omega), if_neg (by omega)]
  rw [e0]
  unfold fA_sortRows_13
  rcases hr with k1 | kr
  · refine ⟨m, aL_end (n := 999999) ?_, Fr.rf, ?_⟩
    · unfold fA_sortRows_13_b
      simp only
      rw [hk, if_pos k1]
    · rw [k1, lt0_none, srt_none]; exact hl
  have get := lst_get R hl
  obtain ⟨m', e, h1, h2⟩ := aLoop_ok (f := fA_sortRows_13_b (if f = 0 then 1 else -1)) (Inv := fun x : aM × Int => Fr (rwP 124) m x.1 ∧ ∃ i : Nat, x.2 = (i : Int) ∧ 1 ≤ i ∧ (i ≤ R.length ∨ R.length = 0) ∧ lst x.1 124 (srt (lt0 T k f) (R.take i)) ∧ ∀ j : Nat, i ≤ j → j < R.length → x.1 124 (j : Int) = R.getD j 0) (μ := fun x => (17 - x.2).toNat) (Post := fun m' => Fr (rwP 124) m m' ∧ lst m' 124 (srt (lt0 T k f) R)) (by
    rintro ⟨m1, x4⟩ ⟨g1, i, gi, i1, iR, gl, gr⟩
    simp only at g1 gi gl gr
    subst gi
    have row (y : Int) (hy : y ≠ 124) : m1 y = m y := by
      funext j
      exact g1 y j hy
    unfold fA_sortRows_13_b
    simp only
    rw [row 123 (by decide), hk, if_neg (by omega), h5]
    by_cases hi : i < R.length
    · left
      rw [if_pos (by omega), gd_pos (by omega)]
      have ev : m1 124 (i : Int) = R.getD i 0 := gr i (Nat.le_refl _) hi
      obtain ⟨v, hv⟩ : ∃ v, v = R.getD i 0 := ⟨_, rfl⟩
      have vm : v ∈ R := by
        rw [hv, List.getD_eq_getElem?_getD, List.getElem?_eq_getElem hi]
        exact List.getElem_mem hi
      rw [ev, ← hv]
      have vr := hR v vm
      have slen : (srt (lt0 T k f) (R.take i)).length = i := by
        rw [(srt_perm _).length_eq, List.length_take]
        omega
      have smem (s : Int) (hs : s ∈ srt (lt0 T k f) (R.take i)) : s ∈ R := List.mem_of_mem_take ((srt_perm _).mem_iff.mp hs)
      unfold fA_sortRows_43
      have cmp (m2 : aM) (f2 : Fr (rwP 124) m1 m2) (s : Int) (hs : s ∈ R) : fT_compareRows m2 v s k = some (zr T v s k) ∧ m2 123 3 = k := by
        have sr := hR s hs
        refine ⟨c_compareRows wt (ct.row (fun y a b => ?_)) vr.1 vr.2 sr.1 sr.2 kr.1 kr.2, ?_⟩
        · rw [← row y (by omega)]
          funext j
          exact f2 y j (by omega)
        · rw [f2 123 3 (by decide), row 123 (by decide)]; exact hk
      obtain ⟨m2, x, l1, l2, l3, l4, l5, l6⟩ := ins_loop (y := 124) (v := v) (lt := lt0 T k f) (b := fA_sortRows_43_b (if f = 0 then 1 else -1) (i : Int) v) (fin := fun m x => (Sum.inl (mup m 124 x v, w32 ((i : Int) + 1)) : (aM × Int) ⊕ aM)) (m0 := m1) (srt (lt0 T k f) (R.take i)) (by
        intro m2 x s f2 x0 x1 es hs hlt
        have sr := hR s (smem s hs)
        have bd := zr_bd wt mt vr.1 vr.2 sr.1 sr.2 kr.1 kr.2
        obtain ⟨c1, c2⟩ := cmp m2 f2 s (smem s hs)
        unfold lt0 at hlt
        rw [decide_eq_true_eq] at hlt
        unfold fA_sortRows_43_b
        simp only
        rw [slen] at x1
        rw [if_pos x0, w32_id (by omega) (by omega), gd_pos (by omega), es, c2, c1]
        simp only [Option.bind_some]
        have ws : w32 ((if f = 0 then 1 else -1) * zr T v s k) = (if f = 0 then 1 else -1) * zr T v s k := by
          apply w32_id
          · split <;> omega
          · split <;> omega
        rw [ws, if_pos hlt.2, gd_pos (by omega), w32_id (by omega) (by omega)]
        rfl) (by
        intro m2 x f2 x0 x1 hx
        rw [slen] at x1
        unfold fA_sortRows_43_b
        simp only
        rcases hx with e | ⟨xp, s, es, hs, hlt⟩
        · rw [if_neg (by omega), gd_pos (by omega)]
        · have sr := hR s (smem s hs)
          have bd := zr_bd wt mt vr.1 vr.2 sr.1 sr.2 kr.1 kr.2
          obtain ⟨c1, c2⟩ := cmp m2 f2 s (smem s hs)
          unfold lt0 at hlt
          rw [decide_eq_false_iff_not] at hlt
          have ws : w32 ((if f = 0 then 1 else -1) * zr T v s k) = (if f = 0 then 1 else -1) * zr T v s k := by
            apply w32_id
            · split <;> omega
            · split <;> omega
          rw [if_pos xp, w32_id (by omega) (by omega), gd_pos (by omega), es, c2, c1]
          simp only [Option.bind_some]
          rw [ws, if_neg (fun g => hlt ⟨by omega, g⟩), gd_pos (by omega)]) (srt (lt0 T k f) (R.take i)) m1 FU (fun s h => h) (Nat.le_refl _) Fr.rf gl (by rw [slen]; show _ < 1000000; omega)
      rw [slen] at l1 l4 l6
      rw [l1]
      refine ⟨_, rfl, ⟨(g1.tr l2).up rfl, i + 1, ?_, by omega, by omega, ?_, fun j j0 j1 => ?_⟩, ?_⟩
      · simp only
        rw [w32_id (by omega) (by omega)]
        omega
      · rw [take_snoc hi, srt_snoc, ← hv]
        exact l5
      · simp only
        rw [mup_idx (by omega), l6 _ (by omega)]
        exact gr j (by omega) j1
      · simp only
        rw [w32_id (by omega) (by omega)]
        omega
    · right
      rw [if_neg (by omega)]
      refine ⟨_, rfl, g1, ?_⟩
      rcases iR with e | e
      · have : i = R.length := by omega
        rw [this, List.take_length] at gl
        exact gl
      · have : R = [] := List.eq_nil_of_length_eq_zero e
        subst this
        trivial) FU (m, 1) ⟨Fr.rf, 1, rfl, Nat.le_refl _, by omega, by
      cases R with
      | nil => trivial
      | cons a R =>
        refine ⟨?_, trivial⟩
        have := get 0 (by simp)
        simpa using this, fun j j0 j1 => get j j1⟩ (by show _ < 1000000; simp only; omega)
  exact ⟨m', e, h1, h2⟩
end
