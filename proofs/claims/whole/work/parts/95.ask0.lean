/-! THE CALLS THAT ONLY ASK -/
section Cells
variable {m : aM} {T : Tb}
theorem mulb {r n c : Int} (h1 : 0 ≤ r) (h2 : r < 16) (h3 : 0 ≤ n) (h4 : n ≤ 6) (h5 : 0 ≤ c) (h6 : c < n) : 0 ≤ (r + 1) * n + c ∧ (r + 1) * n + c < 102 ∧ 0 ≤ (r + 1) * n ∧ (r + 1) * n ≤ 96 := by
  have a1 : (r + 1) * n ≤ 16 * n := Int.mul_le_mul_of_nonneg_right (by omega) h3
  have a2 : 0 ≤ (r + 1) * n := Int.mul_nonneg (by omega) h3
  omega
theorem c_cellAt (wt : WT T) (ct : CT m T) {r c : Int} (hr : i32 r) (hc : i32 c) : fT_cellAt m r c = if 0 ≤ r ∧ r < Tr T ∧ 0 ≤ c ∧ c < Tn T then (r + 1) * Tn T + c else -1 := by
  obtain ⟨⟨n0, n6⟩, ⟨r0, r16⟩, -⟩ := wt
  obtain ⟨e8, e7, -⟩ := ct
  unfold fT_cellAt
  rw [e8, e7]
  by_cases h1 : r < 0
  · rw [if_pos h1, if_neg (by omega)]; rfl
  rw [if_neg h1]
  by_cases h2 : r < Tr T
  · rw [if_pos h2]
    by_cases h3 : c < 0
    · rw [if_pos h3, if_neg (by omega)]; rfl
    rw [if_neg h3]
    by_cases h4 : c < Tn T
    · rw [if_pos h4, if_pos (by omega)]
      unfold fT_cellAt_29
      have hb := mulb (r := r) (n := Tn T) (c := c) (by omega) (by omega) n0 n6 (by omega) h4
      rw [if_neg (by decide), e8, w32_id (x := r + 1) (by omega) (by omega), w32_id (x := (r + 1) * Tn T) (by omega) (by omega), w32_id (by omega) (by omega)]
    · rw [if_neg h4, if_neg (by omega)]; rfl
  · rw [if_neg h2, if_neg (by omega)]; rfl
theorem cell_rng (wt : WT T) {r c : Int} (h1 : 0 ≤ r) (h2 : r < Tr T) (h3 : 0 ≤ c) (h4 : c < Tn T) : 0 ≤ (r + 1) * Tn T + c ∧ (r + 1) * Tn T + c < 102 := by
  obtain ⟨⟨n0, n6⟩, ⟨r0, r16⟩, -⟩ := wt
  have hb := mulb (r := r) (n := Tn T) (c := c) h1 (by omega) n0 n6 h3 h4
  omega
theorem c_cellIn (wt : WT T) (ct : CT m T) {r c : Int} (h1 : 0 ≤ r) (h2 : r < Tr T) (h3 : 0 ≤ c) (h4 : c < Tn T) : fT_cellAt m r c = (r + 1) * Tn T + c := by
  obtain ⟨⟨n0, n6⟩, ⟨r0, r16⟩, -⟩ := id wt
  rw [c_cellAt wt ct ⟨by omega, by omega⟩ ⟨by omega, by omega⟩, if_pos ⟨h1, h2, h3, h4⟩]
theorem missB_iff {r c : Int} : missB T r c = true ↔ Tq T r c = 0 ∧ Tt T r c = [] := by
  unfold missB
  rw [Bool.and_eq_true, decide_eq_true_iff, List.isEmpty_iff]
theorem c_gone (wt : WT T) (ct : CT m T) {r c : Int} (h1 : 0 ≤ r) (h2 : r < Tr T) (h3 : 0 ≤ c) (h4 : c < Tn T) : fT_isGone m ((r + 1) * Tn T + c) = some (if missB T r c then 1 else 0) := by
  have hk := cell_rng wt h1 h2 h3 h4
  obtain ⟨-, -, -, -, d, -⟩ := ct
  obtain ⟨d1, d2, d3, d4, d5, -⟩ := d r c h1 h2 h3 h4
  unfold fT_isGone
  rw [gd_pos hk, d5]
  have hl : m 15 ((r + 1) * Tn T + c) = m 16 ((r + 1) * Tn T + c) ↔ Tt T r c = [] := by
    rw [← d4]
    constructor
    · intro e
      exact sl_nil (by omega)
    · intro e
      have := sl_len m 14 (m 15 ((r + 1) * Tn T + c)) (m 16 ((r + 1) * Tn T + c))
      rw [e] at this
      simp at this
      omega
  by_cases q : Tq T r c = 0
  · rw [if_pos q]
    by_cases e : Tt T r c = []
    · rw [if_pos (hl.mpr e), if_pos (missB_iff.mpr ⟨q, e⟩)]
    · rw [if_neg (fun h => e (hl.mp h)), if_neg (fun h => e (missB_iff.mp h).2)]
  · rw [if_neg q, if_neg (fun h => q (missB_iff.mp h).1)]
theorem c_lacks (wt : WT T) (ct : CT m T) {r c : Int} (h1 : 0 ≤ r) (h2 : r < Tr T) (h3 : 0 ≤ c) (h4 : c < Tn T) : fT_lacks m r c = some (if missB T r c then 1 else 0) := by
  have hk := cell_rng wt h1 h2 h3 h4
  unfold fT_lacks
  rw [c_cellIn wt ct h1 h2 h3 h4, if_neg (by omega), c_gone wt ct h1 h2 h3 h4]
  simp only [Option.bind_some]
  by_cases e : missB T r c = true
  · rw [if_pos e, if_neg (by decide)]
  · rw [if_neg e, if_pos rfl]
theorem c_typeAt (wt : WT T) (ct : CT m T) {c : Int} (h3 : 0 ≤ c) (h4 : c < Tn T) : fT_typeAt m c = some (tyS T c) := by
  obtain ⟨⟨n0, n6⟩, -⟩ := wt
  obtain ⟨e8, -, -, -, -, d⟩ := ct
  unfold fT_typeAt fT_hasColumn
  rw [e8, if_neg (show ¬ c < 0 by omega), if_pos h4, if_neg (by decide), gd_pos (by omega), d c h3 h4]
theorem c_valueAt (wt : WT T) (ct : CT m T) {r c : Int} (h1 : 0 ≤ r) (h2 : r < Tr T) (h3 : 0 ≤ c) (h4 : c < Tn T) : fT_valueAt m r c = some (if shapeS (Tt T r c) = 3 then 0 else valS (Tt T r c)) := by
  have hk := cell_rng wt h1 h2 h3 h4
  unfold fT_valueAt
  rw [c_cellIn wt ct h1 h2 h3 h4, if_neg (by omega), gd_pos hk]
  obtain ⟨-, -, -, -, d, -⟩ := ct
  obtain ⟨d1, d2, d3, d4, d5, d6, d7⟩ := d r c h1 h2 h3 h4
  rw [d7]
theorem r_isNone (wt : WT T) (mt : MT m T) {r c : Int} (h1 : 0 ≤ r) (h2 : r < Tr T) (h3 : 0 ≤ c) (h4 : c < Tn T) : fM_isNone m r c = some (if missB T r c then 1 else 0) := by
  obtain ⟨⟨n0, n6⟩, ⟨r0, r16⟩, -⟩ := wt
  obtain ⟨-, -, -, d⟩ := mt
  obtain ⟨d1, d2, d3, d4, d5, d6⟩ := d r c h1 h2 h3 h4
  unfold fM_isNone
  rw [w32_id (x := 6 * r) (by omega) (by omega), w32_id (x := 6 * r + c) (by omega) (by omega), gd_pos (by omega), d4]
  by_cases e : missB T r c = true
  · rw [if_pos e, if_pos e, if_pos (by decide)]
  · rw [if_neg e, if_neg e, if_neg (by omega)]
/-- what fits a type has its shape -/
theorem fit_ty (wt : WT T) {r c : Int} (h1 : 0 ≤ r) (h2 : r < Tr T) (hm : missB T r c = false) (ht : tyS T c < 3) : fitC (Tq T r c) (Tt T r c) (tyS T c) = true := by
  have key (t : Int) (h : fitAll T c t = true) : fitC (Tq T r c) (Tt T r c) t = true := by
    unfold fitAll at h
    have := List.all_eq_true.mp h r.toNat (List.mem_range.mpr (by omega))
    rw [show ((r.toNat : Nat) : Int) = r by omega, hm, Bool.false_or] at this
    exact this
  unfold tyS at ht ⊢
  by_cases f0 : fitAll T c 0 = true
  · rw [if_pos f0]; exact key 0 f0
  rw [if_neg f0] at ht ⊢
  by_cases f1 : fitAll T c 1 = true
  · rw [if_pos f1]; exact key 1 f1
  rw [if_neg f1] at ht ⊢
  by_cases f2 : fitAll T c 2 = true
  · rw [if_pos f2]; exact key 2 f2
  rw [if_neg f2] at ht
  exact absurd ht (by decide)
theorem ty_rng {c : Int} : 0 ≤ tyS T c ∧ tyS T c ≤ 3 := by
  unfold tyS
  split
  · decide
  · split
    · decide
    · split <;> decide
theorem fit_shape {q : Int} {s : List Int} {t : Int} (h : fitC q s t = true) (ht : t < 3) : shapeS s ≠ 3 := by
  unfold fitC at h
  simp only [Bool.and_eq_true, Bool.or_eq_true, decide_eq_true_iff] at h
  omega
end Cells
section Calls
variable {S : Int → Int}
theorem ok_columns : OkV (RI S) (fun m => some (fX_columns m, m)) (fun m => some (fM_columns m)) := by
  intro m hm
  refine ⟨_, _, rfl, rfl, rfl, ?_, hm.thr Thr.mk1⟩
  obtain ⟨T, -, -, -, -, -, ct, mt, -⟩ := hm
  show m 12 8 = m 130 4
  rw [ct.1, mt.1]
theorem ok_fault : OkV (RI S) (fun m => some (fX_fault m, m)) (fun m => some (fM_fault m)) := by
  intro m hm
  refine ⟨_, _, rfl, rfl, rfl, ?_, hm.thr Thr.mk1⟩
  obtain ⟨T, -, -, -, fx, -⟩ := hm
  exact fx
theorem ok_lines : OkV (RI S) (fun m => some (fX_lines m, m)) (fun m => some (fM_lines m)) := by
  intro m hm
  refine ⟨_, _, rfl, rfl, rfl, ?_, hm.thr Thr.mk1⟩
  obtain ⟨T, -, -, -, -, -, -, -, ax, -⟩ := hm
  show fX_lines m = m 130 37
  unfold fX_lines
  rcases ax with ⟨a0, a1⟩ | ⟨a0, a1, -⟩
  · rw [if_pos a0, a1]
  · rw [if_neg (by rw [a0]; decide), a1]
/-- both sides of a call that changes nothing -/
theorem okT_of {ks : Nat → Prop} {kd : Nat → Int} {fX : aM → Option (Nat × Int × aM)} {fM : aM → Option (Int × aM)} (h : ∀ m, RI S m → ∃ (k : Nat) (x y : Int), fX m = some (k, x, m) ∧ (k = 1 ∨ ks k) ∧ (∀ m', Thr m m' → fM m' = some (y, mup m' 130 0 (kd k))) ∧ (k = 1 → x = y)) : OkT (RI S) ks kd fX fM := by
  intro m hm
  obtain ⟨k, x, y, h1, h2, h3, h4⟩ := h m hm
  have hN : Thr m (mkN (k, x, m)) := Thr.mkN
  refine ⟨(k, x, m), (y, mup (mkN (k, x, m)) 130 0 (kd k)), h1, h2, rfl, h3 _ hN, mup_same (mkN (k, x, m)) 130 0 (kd k), h4, ?_, hm.thr (hN.tr Thr.mk1)⟩
  funext j
  show mup (mkN (k, x, m)) 130 0 (kd k) 156 j = mkN (k, x, m) 156 j
  exact mup_ref (by decide)
theorem Thr.row {m m' : aM} (h : Thr m m') (y : Int) (h1 : y ≠ 130) (h2 : y ≠ 156) : m' y = m y := by
  funext j
  exact h y j (fun e => h1 e.1) h2
theorem Thr.cel {m m' : aM} (h : Thr m m') (j : Int) (hj : j ≠ 0) : m' 130 j = m 130 j := h 130 j (fun e => hj e.2) (by decide)
theorem Thr.mt {m m' : aM} {T : Tb} (h : Thr m m') (mt : MT m T) : MT m' T :=
  mt.of (h.cel 4 (by decide)) (h.cel 5 (by decide)) (h.row 132 (by decide) (by decide)) (h.row 133 (by decide) (by decide)) (h.row 134 (by decide) (by decide)) (h.row 135 (by decide) (by decide)) (h.row 136 (by decide) (by decide)) (h.row 137 (by decide) (by decide)) (fun i _ _ => by rw [h.row 131 (by decide) (by decide)])
theorem ok_type {x : Int} (hx : i32 x) : OkT (RI S) (fun k => k = 6) kd_type (fun m => fX_type m x) (fun m => fM_type m x) := by
  refine okT_of fun m hm => ?_
  obtain ⟨T, wt, -, -, -, -, ct, mt, -⟩ := hm
  by_cases hc : 0 ≤ x ∧ x < Tn T
  · refine ⟨1, tyS T x, tyS T x, ?_, Or.inl rfl, fun m' ht => ?_, fun _ => rfl⟩
    · show fX_type m x = _
      unfold fX_type fT_hasColumn
      rw [ct.1, if_neg (show ¬ x < 0 by omega), if_pos hc.2, if_neg (by decide), c_typeAt wt ct hc.1 hc.2]
      rfl
    · have mt' := ht.mt mt
      show fM_type m' x = _
      unfold fM_type fM_isColumn fM_type_14
      rw [mt'.1, if_neg (show ¬ x < 0 by omega), if_pos hc.2, if_neg (by decide), if_neg (by decide), gd_pos (by have := wt.1; omega), (mt'.2.2.1 x hc.1 hc.2).2]
      rfl
  · refine ⟨6, 0, 0, ?_, Or.inr rfl, fun m' ht => ?_, fun h => by cases h⟩
    · show fX_type m x = _
      unfold fX_type
      have : fT_hasColumn m x = 0 := by
        unfold fT_hasColumn
        rw [ct.1]
        by_cases h0 : x < 0
        · rw [if_pos h0]
        · rw [if_neg h0, if_neg (by omega)]
      rw [if_pos this]
    · have mt' := ht.mt mt
      show fM_type m' x = _
      unfold fM_type
      have : fM_isColumn m' x = 0 := by
        unfold fM_isColumn
        rw [mt'.1]
        by_cases h0 : x < 0
        · rw [if_pos h0]
        · rw [if_neg h0, if_neg (by omega)]
      rw [if_pos this]
      rfl
theorem r_isCell {m : aM} {T : Tb} (mt : MT m T) {r c : Int} : fM_isCell m r c = if 0 ≤ r ∧ r < Tr T ∧ 0 ≤ c ∧ c < Tn T then 1 else 0 := by
  unfold fM_isCell fM_isColumn
  rw [mt.1, mt.2.1]
  by_cases h1 : r < 0
  · rw [if_pos h1, if_neg (by omega)]
  rw [if_neg h1]
  by_cases h2 : r < Tr T
  · rw [if_pos h2]
    by_cases h3 : c < 0
    · rw [if_pos h3, if_pos rfl, if_neg (by omega)]
    rw [if_neg h3]
    by_cases h4 : c < Tn T
    · rw [if_pos h4, if_neg (by decide), if_pos (by omega)]
    · rw [if_neg h4, if_pos rfl, if_neg (by omega)]
  · rw [if_neg h2, if_neg (by omega)]
theorem ok_isMissing {x y : Int} (hx : i32 x) (hy : i32 y) : OkT (RI S) (fun k => k = 6) kd_isMissing (fun m => fX_isMissing m x y) (fun m => fM_isMissing m x y) := by
  refine okT_of fun m hm => ?_
  obtain ⟨T, wt, -, -, -, -, ct, mt, -⟩ := hm
  by_cases hc : 0 ≤ x ∧ x < Tr T ∧ 0 ≤ y ∧ y < Tn T
  · refine ⟨1, if missB T x y then 1 else 0, if missB T x y then 1 else 0, ?_, Or.inl rfl, fun m' ht => ?_, fun _ => rfl⟩
    · show fX_isMissing m x y = _
      have hk := cell_rng wt hc.1 hc.2.1 hc.2.2.1 hc.2.2.2
      unfold fX_isMissing fT_hasCell
      rw [c_cellIn wt ct hc.1 hc.2.1 hc.2.2.1 hc.2.2.2, if_neg (show ¬ (x + 1) * Tn T + y = -1 by omega), if_neg (by decide), c_lacks wt ct hc.1 hc.2.1 hc.2.2.1 hc.2.2.2]
      simp only [Option.bind_some]
      rw [gd_pos (by split <;> simp)]
    · have mt' := ht.mt mt
      show fM_isMissing m' x y = _
      unfold fM_isMissing fM_isMissing_15
      have mt2 : MT (mup m' 130 0 0) T := (Thr.mk1 (m := m')).mt mt'
      rw [r_isCell mt', if_pos hc, if_neg (by decide), if_pos rfl, r_isNone wt mt2 hc.1 hc.2.1 hc.2.2.1 hc.2.2.2]
      simp only [Option.bind_some]
      by_cases e : missB T x y = true
      · rw [if_pos e, if_neg (by decide)]; rfl
      · rw [if_neg e, if_pos rfl]; rfl
  · refine ⟨6, 0, 0, ?_, Or.inr rfl, fun m' ht => ?_, fun h => by cases h⟩
    · show fX_isMissing m x y = _
      unfold fX_isMissing fT_hasCell
      rw [c_cellAt wt ct hx hy, if_neg hc, if_pos rfl, if_pos rfl]
    · have mt' := ht.mt mt
      show fM_isMissing m' x y = _
      unfold fM_isMissing fM_isMissing_15
      rw [r_isCell mt', if_neg hc, if_pos rfl, if_neg (by decide)]
      rfl
theorem ok_value {x y : Int} (hx : i32 x) (hy : i32 y) : OkT (RI S) (fun k => k = 6 ∨ k = 3 ∨ k = 4) kd_value (fun m => fX_value m x y) (fun m => fM_value m x y) := by
  refine okT_of fun m hm => ?_
  obtain ⟨T, wt, -, -, -, -, ct, mt, -⟩ := hm
  by_cases hc : 0 ≤ x ∧ x < Tr T ∧ 0 ≤ y ∧ y < Tn T
  · have hk := cell_rng wt hc.1 hc.2.1 hc.2.2.1 hc.2.2.2
    have hX : fX_value m x y = if tyS T y = 3 then some (3, 0, m) else if missB T x y then some (4, 0, m) else some (1, (if shapeS (Tt T x y) = 3 then 0 else valS (Tt T x y)), m) := by
      unfold fX_value fT_hasCell
      rw [c_cellIn wt ct hc.1 hc.2.1 hc.2.2.1 hc.2.2.2, if_neg (show ¬ (x + 1) * Tn T + y = -1 by omega), if_neg (by decide), c_typeAt wt ct hc.2.2.1 hc.2.2.2, c_lacks wt ct hc.1 hc.2.1 hc.2.2.1 hc.2.2.2, c_valueAt wt ct hc.1 hc.2.1 hc.2.2.1 hc.2.2.2]
      simp only [Option.bind_some]
      by_cases e3 : tyS T y = 3
      · rw [if_pos e3, if_pos e3]
      · rw [if_neg e3, if_neg e3]
        by_cases e : missB T x y = true
        · rw [if_pos e, if_neg (by decide), if_pos e]
        · rw [if_neg e, if_pos rfl, if_neg e]
    have hM (m' : aM) (ht : Thr m m') : fM_value m' x y = if tyS T y = 3 then some (0, mup m' 130 0 2) else if missB T x y then some (0, mup m' 130 0 3) else some (m' 137 (6 * x + y), mup m' 130 0 0) := by
      have mt' := ht.mt mt
      have w1 := wt.1
      have w2 := wt.2.1
      unfold fM_value
      rw [r_isCell mt', if_pos hc, if_neg (by decide), gd_pos (by omega), (mt'.2.2.1 y hc.2.2.1 hc.2.2.2).2, r_isNone wt mt' hc.1 hc.2.1 hc.2.2.1 hc.2.2.2]
      simp only [Option.bind_some]
      by_cases e3 : tyS T y = 3
      · rw [if_pos e3, if_pos e3]; rfl
      · rw [if_neg e3, if_neg e3]
        by_cases e : missB T x y = true
        · rw [if_pos e, if_neg (by decide), if_pos e]; rfl
        · rw [if_neg e, if_pos rfl, if_neg e]
          unfold fM_value_42
          rw [if_neg (by decide), w32_id (x := 6 * x) (by omega) (by omega), w32_id (x := 6 * x + y) (by omega) (by omega), gd_pos (by omega)]
    by_cases e3 : tyS T y = 3
    · exact ⟨3, 0, 0, by show fX_value m x y = _; rw [hX, if_pos e3], Or.inr (Or.inr (Or.inl rfl)), fun m' ht => by show fM_value m' x y = _; rw [hM m' ht, if_pos e3]; rfl, fun h => by cases h⟩
    · by_cases e : missB T x y = true
      · exact ⟨4, 0, 0, by show fX_value m x y = _; rw [hX, if_neg e3, if_pos e], Or.inr (Or.inr (Or.inr rfl)), fun m' ht => by show fM_value m' x y = _; rw [hM m' ht, if_neg e3, if_pos e]; rfl, fun h => by cases h⟩
      · have hty : tyS T y < 3 := by have := ty_rng (T := T) (c := y); omega
        have hsh := fit_shape (fit_ty wt hc.1 hc.2.1 (by simpa using e) hty) hty
        refine ⟨1, valS (Tt T x y), valS (Tt T x y), by show fX_value m x y = _; rw [hX, if_neg e3, if_neg e, if_neg hsh], Or.inl rfl, fun m' ht => ?_, fun _ => rfl⟩
        show fM_value m' x y = _
        have mt' := ht.mt mt
        rw [hM m' ht, if_neg e3, if_neg e, (mt'.2.2.2 x y hc.1 hc.2.1 hc.2.2.1 hc.2.2.2).2.2.2.2.2 hty, if_neg e]
        rfl
  · refine ⟨6, 0, 0, ?_, Or.inr (Or.inl rfl), fun m' ht => ?_, fun h => by cases h⟩
    · show fX_value m x y = _
      unfold fX_value fT_hasCell
      rw [c_cellAt wt ct hx hy, if_neg hc, if_pos rfl, if_pos rfl]
    · have mt' := ht.mt mt
      show fM_value m' x y = _
      unfold fM_value
      rw [r_isCell mt', if_neg hc, if_pos rfl]
      rfl
theorem ok_out {x : Int} (hx : i32 x) : OkT (RI S) (fun k => k = 6) kd_out (fun m => fX_out m x) (fun m => fM_out m x) := by
  refine okT_of fun m hm => ?_
  obtain ⟨T, wt, -, -, -, ox, -⟩ := hm
  obtain ⟨⟨o0, o7⟩, o1, o2⟩ := ox
  have hR : ChR m 6 := ⟨o0, o7, by decide⟩
  by_cases hc : 0 ≤ x ∧ x < m 6 1
  · have h2 := o2 x hc.1 hc.2
    refine ⟨1, m 7 x, m 7 x, ?_, Or.inl rfl, fun m' ht => ?_, fun _ => rfl⟩
    · show fX_out m x = _
      unfold fX_out
      rw [at_eq hR, ca_in hc.1 hc.2]
      simp only [Option.bind_some]
      have c1 : 0 ≤ m 7 x ∧ m 7 x ≤ 255 := h2.2
      show (if m 7 x = -1 then _ else _) = _
      rw [if_neg (by omega)]
      rfl
    · show fM_out m' x = _
      unfold fM_out fM_out_18
      rw [ht.cel 45 (by decide), ht.row 155 (by decide) (by decide), o1, if_neg (by omega), if_pos hc.2, if_neg (by decide), gd_pos (by omega), h2.1]
      rfl
  · refine ⟨6, 0, 0, ?_, Or.inr rfl, fun m' ht => ?_, fun h => by cases h⟩
    · show fX_out m x = _
      unfold fX_out
      rw [at_eq hR, ca_out (by omega)]
      rfl
    · show fM_out m' x = _
      unfold fM_out fM_out_18
      rw [ht.cel 45 (by decide), o1]
      by_cases h0 : x < 0
      · rw [if_pos h0]; rfl
      · rw [if_neg h0, if_neg (by omega)]; rfl
theorem ok_line {x : Int} (hx : i32 x) : OkT (RI S) (fun k => k = 3 ∨ k = 6) kd_line (fun m => fX_line m x) (fun m => fM_line m x) := by
  refine okT_of fun m hm => ?_
  obtain ⟨T, wt, -, -, -, -, -, -, ax, -⟩ := hm
  rcases ax with ⟨a0, a1⟩ | ⟨a0, a1, -, ⟨a2, a3⟩, ⟨a4, a5⟩, a6, a7, a8, -⟩
  · refine ⟨3, 0, 0, ?_, Or.inr (Or.inl rfl), fun m' ht => ?_, fun h => by cases h⟩
    · show fX_line m x = _
      unfold fX_line
      rw [if_pos a0]
    · show fM_line m' x = _
      unfold fM_line
      rw [ht.cel 37 (by decide), a1, if_pos (by decide)]
      rfl
  · by_cases hc : 0 ≤ x ∧ x < m 123 4
    · have hh : fA_has m x = 1 := by
        unfold fA_has
        rw [if_neg (by omega), if_pos hc.2, if_pos (by omega)]
      have hM (m' : aM) (ht : Thr m m') : fM_line m' x = some (if m 123 1 = 1 then m 151 x else m 152 x, mup m' 130 0 0) := by
        unfold fM_line fM_line_29
        rw [ht.cel 37 (by decide), a1, if_neg (by omega), if_neg (by omega), if_pos hc.2, if_neg (by decide), ht.cel 38 (by decide), a6, ht.row 151 (by decide) (by decide), ht.row 152 (by decide) (by decide), gd_pos (by omega), gd_pos (by omega)]
        by_cases e : m 123 1 = 1
        · rw [if_pos (by omega), if_pos e]
        · rw [if_neg (by omega), if_neg e]
      refine ⟨1, if m 123 1 = 1 then m 151 x else m 152 x, if m 123 1 = 1 then m 151 x else m 152 x, ?_, Or.inl rfl, fun m' ht => hM m' ht, fun _ => rfl⟩
      show fX_line m x = _
      unfold fX_line
      rw [if_neg (by rw [a0]; decide), hh, if_neg (by decide), gd_pos (by omega), gd_pos (by omega)]
      by_cases e : m 123 1 = 1
      · rw [if_pos e, if_pos e, ((a7 e).1 x hc.1 hc.2).1]
      · rw [if_neg e, if_neg e, ((a8 (by omega)).2.2.1 x hc.1 hc.2).1]
    · refine ⟨6, 0, 0, ?_, Or.inr (Or.inr rfl), fun m' ht => ?_, fun h => by cases h⟩
      · have hh : fA_has m x = 0 := by
          unfold fA_has
          by_cases h0 : x < 0
          · rw [if_pos h0]
          · rw [if_neg h0, if_neg (by omega)]
        show fX_line m x = _
        unfold fX_line
        rw [if_neg (by rw [a0]; decide), hh, if_pos rfl]
      · show fM_line m' x = _
        unfold fM_line
        rw [ht.cel 37 (by decide), a1, if_neg (by omega)]
        by_cases h0 : x < 0
        · rw [if_pos h0]; rfl
        · rw [if_neg h0, if_neg (by omega)]; rfl
theorem ok_aggregate {x : Int} (hx : i32 x) : OkT (RI S) (fun k => k = 3 ∨ k = 6 ∨ k = 4) kd_aggregate (fun m => fX_aggregate m x) (fun m => fM_aggregate m x) := by
  refine okT_of fun m hm => ?_
  obtain ⟨T, wt, -, -, -, -, ct, mt, ax, -⟩ := hm
  have w1 := wt.1
  have w2 := wt.2.1
  rcases ax with ⟨a0, a1⟩ | ⟨a0, a1, -, ⟨a2, a3⟩, ⟨a4, a5⟩, a6, a7, a8, a9, a10, a11, a12⟩
  · refine ⟨3, 0, 0, ?_, Or.inr (Or.inl rfl), fun m' ht => ?_, fun h => by cases h⟩
    · show fX_aggregate m x = _
      unfold fX_aggregate
      rw [if_pos a0]
    · show fM_aggregate m' x = _
      unfold fM_aggregate
      rw [ht.cel 37 (by decide), a1, if_pos (by decide)]
      rfl
  · have no (hv : fA_hasValues m = some 0) (hM : ∀ m', Thr m m' → fM_aggregate m' x = some (0, mup m' 130 0 1)) : ∃ (k : Nat) (x1 y : Int), fX_aggregate m x = some (k, x1, m) ∧ (k = 1 ∨ (k = 3 ∨ k = 6 ∨ k = 4)) ∧ (∀ m', Thr m m' → fM_aggregate m' x = some (y, mup m' 130 0 (kd_aggregate k))) ∧ (k = 1 → x1 = y) := by
      refine ⟨3, 0, 0, ?_, Or.inr (Or.inl rfl), hM, fun h => by cases h⟩
      unfold fX_aggregate
      rw [if_neg (by rw [a0]; decide), hv]
      rfl
    by_cases e1 : m 123 1 = 1
    · refine no (by unfold fA_hasValues; rw [if_pos e1]) (fun m' ht => ?_)
      unfold fM_aggregate
      rw [ht.cel 37 (by decide), a1, if_neg (by omega), ht.cel 38 (by decide), a6, if_pos (by omega)]
      rfl
    by_cases e4 : 4 ≤ m 123 1 ∧ tyS T (m 123 2) = 3
    · obtain ⟨b1, ⟨b2, b3⟩, b4⟩ := a10 (by omega)
      refine no ?_ (fun m' ht => ?_)
      · unfold fA_hasValues
        have : fA_isBest m = 1 := by
          unfold fA_isBest
          by_cases q : m 123 1 = 4
          · rw [if_pos q]
          · rw [if_neg q, if_pos (by omega)]
        rw [if_neg e1, this, if_neg (by decide), c_typeAt wt ct b2 b3, e4.2]
        rfl
      · have mt' := ht.mt mt
        unfold fM_aggregate
        rw [ht.cel 37 (by decide), a1, if_neg (by omega), ht.cel 38 (by decide), a6, if_neg (by omega), if_pos (by omega), ht.cel 40 (by decide), b1, gd_pos (by omega), (mt'.2.2.1 _ b2 b3).2, e4.2, if_pos rfl]
        rfl
    have hv : fA_hasValues m = some 1 := by
      unfold fA_hasValues
      rw [if_neg e1]
      by_cases q4 : m 123 1 = 4 ∨ m 123 1 = 5
      · obtain ⟨b1, ⟨b2, b3⟩, b4⟩ := a10 (by omega)
        have : fA_isBest m = 1 := by
          unfold fA_isBest
          by_cases q : m 123 1 = 4
          · rw [if_pos q]
          · rw [if_neg q, if_pos (by omega)]
        rw [this, if_neg (by decide), c_typeAt wt ct b2 b3]
        show (if tyS T (m 123 2) = 3 then some 0 else some 1) = _
        rw [if_neg (by omega)]
      · have : fA_isBest m = 0 := by
          unfold fA_isBest
          rw [if_neg (by omega), if_neg (by omega)]
        rw [this, if_pos rfl]
    have hM (m' : aM) (ht : Thr m m') : fM_aggregate m' x = fM_aggregate_40 m' x := by
      have mt' := ht.mt mt
      unfold fM_aggregate
      rw [ht.cel 37 (by decide), a1, if_neg (by omega), ht.cel 38 (by decide), a6, if_neg (by omega)]
      by_cases q4 : 2 < m 123 1 - 1
      · obtain ⟨b1, ⟨b2, b3⟩, b4⟩ := a10 (by omega)
        rw [if_pos q4, ht.cel 40 (by decide), b1, gd_pos (by omega), (mt'.2.2.1 _ b2 b3).2, if_neg (by omega)]
      · rw [if_neg q4]
    by_cases hc : 0 ≤ x ∧ x < m 123 4
    · have hh : fA_has m x = 1 := by
        unfold fA_has
        rw [if_neg (by omega), if_pos hc.2, if_pos (by omega)]
      have hX : fX_aggregate m x = if m 129 x = 0 then some (1, m 128 x, m) else some (4, 0, m) := by
        unfold fX_aggregate
        rw [if_neg (by rw [a0]; decide), hv]
        simp only [Option.bind_some]
        rw [if_neg (by decide), hh, if_neg (by decide), gd_pos (by omega)]
      by_cases e2 : m 123 1 = 2
      · have b := a9 e2 x hc.1 hc.2
        refine ⟨1, m 152 x, m 152 x, by show fX_aggregate m x = _; rw [hX, if_pos b.2, b.1], Or.inl rfl, fun m' ht => ?_, fun _ => rfl⟩
        show fM_aggregate m' x = _
        rw [hM m' ht]
        unfold fM_aggregate_40 fM_aggregate_78
        rw [ht.cel 37 (by decide), a1, if_neg (by omega), if_pos hc.2, ht.cel 38 (by decide), a6, if_neg (by omega), if_neg (by decide), if_pos (by omega), gd_pos (by omega), ht.row 152 (by decide) (by decide)]
        rfl
      · obtain ⟨b1, ⟨b2, b3⟩, b4⟩ := a10 (by omega)
        have b5 := b4 x hc.1 hc.2
        by_cases e9 : m 129 x = 0
        · have b6 := b5.2.mp e9
          refine ⟨1, m 128 x, m 128 x, by show fX_aggregate m x = _; rw [hX, if_pos e9], Or.inl rfl, fun m' ht => ?_, fun _ => rfl⟩
          have mt' := ht.mt mt
          show fM_aggregate m' x = _
          rw [hM m' ht]
          unfold fM_aggregate_40 fM_aggregate_78
          rw [ht.cel 37 (by decide), a1, if_neg (by omega), if_pos hc.2, ht.cel 38 (by decide), a6, if_pos (by omega), gd_pos (by omega), ht.row 154 (by decide) (by decide), if_neg (by omega), if_neg (by decide), if_neg (by omega)]
          by_cases e3 : m 123 1 = 3
          · rw [if_pos (by omega), gd_pos (by omega), ht.row 153 (by decide) (by decide), (a11 e3 x hc.1 hc.2 e9).1]
            rfl
          · obtain ⟨c1, ⟨c2, c3⟩, c4, c5⟩ := (a12 (by omega)).1 x hc.1 hc.2 e9
            rw [if_neg (by omega), gd_pos (by omega), ← c1, ht.cel 40 (by decide), b1, w32_id (x := 6 * m 127 x) (by omega) (by omega), w32_id (x := 6 * m 127 x + m 123 2) (by omega) (by omega), gd_pos (by omega)]
            have hty : tyS T (m 123 2) < 3 := by have := ty_rng (T := T) (c := m 123 2); omega
            have hsh := fit_shape (fit_ty wt c2 c3 c4 hty) hty
            rw [(mt'.2.2.2 _ _ c2 c3 b2 b3).2.2.2.2.2 hty, c4, c5, if_neg hsh]
            rfl
        · refine ⟨4, 0, 0, by show fX_aggregate m x = _; rw [hX, if_neg e9], Or.inr (Or.inr (Or.inr rfl)), fun m' ht => ?_, fun h => by cases h⟩
          show fM_aggregate m' x = _
          rw [hM m' ht]
          unfold fM_aggregate_40
          have b6 : ¬ 0 ≤ m 154 x := fun h => e9 (b5.2.mpr h)
          rw [ht.cel 37 (by decide), a1, if_neg (by omega), if_pos hc.2, ht.cel 38 (by decide), a6, if_pos (by omega), gd_pos (by omega), ht.row 154 (by decide) (by decide), if_pos (by omega)]
          rfl
    · refine ⟨6, 0, 0, ?_, Or.inr (Or.inr (Or.inl rfl)), fun m' ht => ?_, fun h => by cases h⟩
      · have hh : fA_has m x = 0 := by
          unfold fA_has
          by_cases h0 : x < 0
          · rw [if_pos h0]
          · rw [if_neg h0, if_neg (by omega)]
        show fX_aggregate m x = _
        unfold fX_aggregate
        rw [if_neg (by rw [a0]; decide), hv]
        simp only [Option.bind_some]
        rw [if_neg (by decide), hh, if_pos rfl]
      · show fM_aggregate m' x = _
        rw [hM m' ht]
        unfold fM_aggregate_40
        by_cases h0 : x < 0
        · rw [if_pos h0]; rfl
        · rw [if_neg h0, ht.cel 37 (by decide), a1, if_neg (by omega)]; rfl
end Calls
