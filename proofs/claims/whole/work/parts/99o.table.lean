/-! LOAD: the table that the records make -/
def TL (t : Int → Int) (L : List (List tF)) : Tb := (hdw L, (L.length : Int) - 1, fun c => un (rawT t (gF L c)), fun r c => (gF L ((r + 1) * hdw L + c)).2.2, fun r c => un (rawT t (gF L ((r + 1) * hdw L + c))))
theorem flat_len {L : List (List tF)} (h : same L = true) : (L.flatten.length : Int) = (L.length : Int) * hdw L := by
  have key : ∀ r : Nat, r ≤ L.length → (((L.take r).flatten).length : Int) = (r : Int) * hdw L := by
    intro r
    induction r with
    | zero => intro _; rw [List.take_zero, show ((0 : Nat) : Int) = 0 from rfl, Int.zero_mul]; rfl
    | succ r ih =>
      intro hr
      have hr' : r < L.length := by omega
      have := same_iff.mp h r hr'
      rw [take_step hr', show (((r + 1 : Nat)) : Int) = (r : Int) + 1 by omega, Int.add_mul, Int.one_mul, ← ih (by omega)]
      omega
  have := key L.length (Nat.le_refl _)
  rw [List.take_length] at this
  exact this
theorem take_len {L : List (List tF)} (h : same L = true) {r : Nat} (hr : r ≤ L.length) : (((L.take r).flatten).length : Int) = (r : Int) * hdw L := by
  induction r with
  | zero => rw [List.take_zero, show ((0 : Nat) : Int) = 0 from rfl, Int.zero_mul]; rfl
  | succ r ih =>
    have hr' : r < L.length := by omega
    have := same_iff.mp h r hr'
    rw [take_step hr', show (((r + 1 : Nat)) : Int) = (r : Int) + 1 by omega, Int.add_mul, Int.one_mul, ← ih (by omega)]
    omega
theorem sm_split {g : Nat → Int} {a : Nat} : ∀ b : Nat, sm g (a + b) = sm g a + sm (fun k => g (a + k)) b := by
  intro b
  induction b with
  | zero => show sm g a = sm g a + 0; omega
  | succ b ih => show sm g (a + b) + g (a + b) = sm g a + (sm (fun k => g (a + k)) b + g (a + b)); rw [ih]; omega
theorem sm_rows {g : Nat → Int} {w : Nat} : ∀ r : Nat, sm g (w + r * w) = sm g w + sm (fun i => sm (fun c => g ((i + 1) * w + c)) w) r := by
  intro r
  induction r with
  | zero => rw [Nat.zero_mul, Nat.add_zero]; show sm g w = sm g w + 0; omega
  | succ r ih =>
    have e : w + (r + 1) * w = (w + r * w) + w := by rw [Nat.add_mul, Nat.one_mul]; omega
    rw [e, sm_split, ih]
    show _ = sm g w + (sm _ r + sm (fun c => g ((r + 1) * w + c)) w)
    have e2 : (fun k => g (w + r * w + k)) = fun c => g ((r + 1) * w + c) := by
      funext k
      rw [show w + r * w + k = (r + 1) * w + k by rw [Nat.add_mul, Nat.one_mul]; omega]
    rw [e2]
    omega
theorem sm_wsum {L : List (List tF)} : ∀ k : Nat, k ≤ L.flatten.length → sm (fun i => fwt (gF L (i : Int))) k = wsum (L.flatten.take k) := by
  intro k
  induction k with
  | zero => intro _; rw [List.take_zero]; rfl
  | succ k ih =>
    intro hk
    have := wsum_step (L := L) (k := (k : Int)) (by omega) (by omega)
    rw [show ((k : Int)).toNat = k by omega] at this
    show sm _ k + fwt (gF L (k : Int)) = _
    rw [ih (by omega), this]
/-- all that load has found good -/
def goodL (t : Int → Int) (n : Int) (L : List (List tF)) : Prop := same L = true ∧ hdw L ≤ 6 ∧ L ≠ [] ∧ NM t L (hdw L) ∧ (L.length : Int) ≤ 17 ∧ fOk t n L.flatten ∧ wsum L.flatten ≤ n + 1 ∧ (∀ x ∈ L, 1 ≤ x.length) ∧ n ≤ 240 ∧ ∀ i, 0 ≤ i → i < n → okT (t i)
theorem goodL.w {t : Int → Int} {n : Int} {L : List (List tF)} (h : goodL t n L) : 1 ≤ hdw L ∧ 1 ≤ (L.length : Int) ∧ (L.flatten.length : Int) = (L.length : Int) * hdw L ∧ (L.flatten.length : Int) ≤ 102 := by
  obtain ⟨h1, h2, h3, h4, h5, h6, h7, h8, -⟩ := h
  have e := flat_len h1
  have hp : 0 < L.length := List.length_pos_iff.mpr h3
  have hw : 1 ≤ hdw L := by
    cases L with
    | nil => exact absurd rfl h3
    | cons x r => have := h8 x List.mem_cons_self; show 1 ≤ (x.length : Int); omega
  refine ⟨hw, by omega, e, ?_⟩
  have : (L.length : Int) * hdw L ≤ 17 * hdw L := Int.mul_le_mul_of_nonneg_right (by omega) (by omega)
  omega
theorem gidx {t : Int → Int} {n : Int} {L : List (List tF)} (h : goodL t n L) {r c : Int} (r0 : 0 ≤ r) (r1 : r < (L.length : Int) - 1) (c0 : 0 ≤ c) (c1 : c < hdw L) : 0 ≤ (r + 1) * hdw L + c ∧ (r + 1) * hdw L + c < (L.flatten.length : Int) := by
  obtain ⟨w1, w2, w3, w4⟩ := h.w
  rw [w3]
  have a1 : (r + 1 + 1) * hdw L ≤ (L.length : Int) * hdw L := Int.mul_le_mul_of_nonneg_right (by omega) (by omega)
  have a2 : 0 ≤ (r + 1) * hdw L := Int.mul_nonneg (by omega) (by omega)
  rw [Int.add_mul (r + 1) 1, Int.one_mul] at a1
  omega
theorem raw_ok {t : Int → Int} {n : Int} {L : List (List tF)} (h : goodL t n L) {k : Int} (h0 : 0 ≤ k) (h1 : k < (L.flatten.length : Int)) : ∀ x ∈ un (rawT t (gF L k)), okT x := by
  have oi := gF_ok h.2.2.2.2.2.1 h0 h1
  intro x hx
  have hm := (un_spec _ (rawT t (gF L k)) (Nat.le_refl _)).2.2 x hx
  have hall : ∀ c ∈ rawT t (gF L k), okT c := sl_mem (m := fun _ => t) (x := 0) (P := okT) (fun q q0 q1 => h.2.2.2.2.2.2.2.2.2 q (by omega) (by omega))
  exact hall x hm
theorem name_un {t : Int → Int} {n : Int} {L : List (List tF)} (h : goodL t n L) {c : Int} (c0 : 0 ≤ c) (c1 : c < hdw L) : un (rawT t (gF L c)) = rawT t (gF L c) := by
  refine un_plain (fun x hx => ?_)
  have := lo_iff.mp ((h.2.2.2.1 c c0 c1).1.2.2.1 x hx)
  omega
theorem WT_TL {t : Int → Int} {n : Int} {L : List (List tF)} (h : goodL t n L) : WT (TL t L) := by
  obtain ⟨w1, w2, w3, w4⟩ := h.w
  obtain ⟨g1, g2, g3, g4, g5, g6, g7, g8, g9, g10⟩ := id h
  refine ⟨⟨by show 0 ≤ hdw L; omega, g2⟩, ⟨by show 0 ≤ (L.length : Int) - 1; omega, by show (L.length : Int) - 1 ≤ 16; omega⟩, fun e => by have e : hdw L = 0 := e; omega, fun c c0 c1 => ?_, fun c d c0 cd d1 => ?_, fun r c r0 r1 c0 c1 => ?_, ?_⟩
  · show 1 ≤ (un (rawT t (gF L c))).length ∧ (un (rawT t (gF L c))).length ≤ 6 ∧ (∀ x ∈ un (rawT t (gF L c)), lo x = true) ∧ wRes (wordS (un (rawT t (gF L c)))) = 0
    rw [name_un h c0 c1]
    exact (g4 c c0 c1).1
  · show un (rawT t (gF L c)) ≠ un (rawT t (gF L d))
    rw [name_un h c0 (show c < hdw L from Int.lt_trans cd d1), name_un h (by omega) d1]
    exact fun e => (g4 d (by omega) d1).2 c c0 cd e.symm
  · have hi := gidx h r0 r1 c0 c1
    exact ⟨(gF_ok g6 hi.1 hi.2).2.2.2.1, raw_ok h hi.1 hi.2⟩
  · -- how long
    obtain ⟨w, ew⟩ : ∃ w : Nat, (w : Int) = hdw L := ⟨(hdw L).toNat, by omega⟩
    obtain ⟨r, er⟩ : ∃ r : Nat, (r : Int) = (L.length : Int) - 1 := ⟨L.length - 1, by omega⟩
    have e1 : (Tn (TL t L)).toNat = w := by show (hdw L).toNat = w; omega
    have e2 : (Tr (TL t L)).toNat = r := by show ((L.length : Int) - 1).toNat = r; omega
    rw [e1, e2]
    obtain ⟨g, hg⟩ : ∃ g : Nat → Int, g = fun k : Nat => Lw (un (rawT t (gF L (k : Int)))) + 1 := ⟨_, rfl⟩
    have a1 : sm (fun c => ((Tm (TL t L) (c : Int)).length : Int) + 1) w ≤ sm g w := by
      refine sm_mono _ (fun c hc => ?_)
      rw [hg]
      show ((un (rawT t (gF L (c : Int)))).length : Int) + 1 ≤ Lw (un (rawT t (gF L (c : Int)))) + 1
      unfold Lw
      omega
    have a2 : sm (fun i => sm (fun c => Lw (Tt (TL t L) (i : Int) (c : Int)) + 1) w) r = sm (fun i => sm (fun c => g ((i + 1) * w + c)) w) r := by
      congr 1
      funext i
      congr 1
      funext c
      rw [hg]
      show Lw (un (rawT t (gF L (((i : Int) + 1) * hdw L + (c : Int))))) + 1 = Lw (un (rawT t (gF L (((i + 1) * w + c : Nat) : Int)))) + 1
      rw [show (((i + 1) * w + c : Nat) : Int) = ((i : Int) + 1) * hdw L + (c : Int) by rw [← ew]; simp]
    have a3 := sm_rows (g := g) (w := w) r
    have hlen : w + r * w = L.flatten.length := by
      have : ((w + r * w : Nat) : Int) = (L.flatten.length : Int) := by
        rw [w3, show (L.length : Int) = (r : Int) + 1 by omega, Int.add_mul, Int.one_mul, ← ew]
        simp
        omega
      omega
    have a4 : sm g (L.flatten.length) ≤ sm (fun i => fwt (gF L (i : Int))) (L.flatten.length) := by
      refine sm_mono _ (fun k hk => ?_)
      have ok := gF_ok g6 (show 0 ≤ (k : Int) by omega) (show (k : Int) < (L.flatten.length : Int) by omega)
      have hrl := raw_len (t := t) ok.2.1
      have hus := un_spec _ (rawT t (gF L (k : Int))) (Nat.le_refl _)
      rw [hg]
      show Lw (un (rawT t (gF L (k : Int)))) + 1 ≤ (gF L (k : Int)).2.1 - (gF L (k : Int)).1 + 1 + 2 * (gF L (k : Int)).2.2
      rcases ok.2.2.2.1 with hq | hq
      · have hpl : un (rawT t (gF L (k : Int))) = rawT t (gF L (k : Int)) := un_plain (sl_mem (m := fun _ => t) (x := 0) (P := fun c => c ≠ 34) (fun q q0 q1 => ok.2.2.2.2 hq q q0 q1))
        have hc0 : (rawT t (gF L (k : Int))).count 34 = 0 := List.count_eq_zero.mpr (fun hm => by
          have := sl_mem (m := fun _ => t) (x := 0) (a := (gF L (k : Int)).1) (b := (gF L (k : Int)).2.1) (P := fun c => c ≠ 34) (fun q q0 q1 => ok.2.2.2.2 hq q q0 q1) 34 hm
          exact this rfl)
        rw [hpl]
        unfold Lw
        omega
      · omega
    have a5 := sm_wsum (L := L) L.flatten.length (Nat.le_refl _)
    rw [List.take_length] at a5
    rw [hlen] at a3
    omega
/-- the types put in -/
def pt (m : aM) (T : Tb) : aM := fun y j => if y = 20 then tyS T j else m y j
theorem c_fitsV {m : aM} {T : Tb} (wt : WT T) (ct : CT (pt m T) T) {r c ty : Int} (h1 : 0 ≤ r) (h2 : r < Tr T) (h3 : 0 ≤ c) (h4 : c < Tn T) : fT_fits m ((r + 1) * Tn T + c) ty = some (if fitC (Tq T r c) (Tt T r c) ty then 1 else 0) := by
  have hk := cell_rng wt h1 h2 h3 h4
  obtain ⟨d1, d2, d3, d4, d5, d6, -⟩ := ct.2.2.2.2.1 r c h1 h2 h3 h4
  have d5 : m 17 ((r + 1) * Tn T + c) = Tq T r c := d5
  have d6 : m 18 ((r + 1) * Tn T + c) = shapeS (Tt T r c) := d6
  unfold fT_fits fitC
  rw [gd_pos hk, d5, d6]
  by_cases q : Tq T r c = 0
  · rw [if_pos q, decide_eq_true q, Bool.true_and]
    by_cases s1 : shapeS (Tt T r c) = ty
    · rw [if_pos s1, decide_eq_true s1]; rfl
    · rw [if_neg s1, decide_eq_false s1, Bool.false_or]
      by_cases s2 : shapeS (Tt T r c) = 0
      · rw [if_pos s2, decide_eq_true s2, Bool.true_and]
        by_cases s3 : ty = 1
        · rw [if_pos s3, decide_eq_true s3]; rfl
        · rw [if_neg s3, decide_eq_false s3]; rfl
      · rw [if_neg s2, decide_eq_false s2]; rfl
  · rw [if_neg q, decide_eq_false q]; rfl
theorem fitAll_iff {T : Tb} {c ty : Int} : fitAll T c ty = true ↔ ∀ r, 0 ≤ r → r < Tr T → missB T r c = true ∨ fitC (Tq T r c) (Tt T r c) ty = true := by
  unfold fitAll
  rw [List.all_eq_true]
  constructor
  · intro h r r0 r1
    have := h r.toNat (List.mem_range.mpr (by omega))
    rw [show ((r.toNat : Nat) : Int) = r by omega, Bool.or_eq_true] at this
    exact this
  · intro h k hk
    rw [List.mem_range] at hk
    rw [Bool.or_eq_true]
    exact h (k : Int) (by omega) (by omega)
theorem c_allFit {m : aM} {T : Tb} (wt : WT T) (ct : CT (pt m T) T) {c ty : Int} (h3 : 0 ≤ c) (h4 : c < Tn T) : fT_allFit m c ty = some (if fitAll T c ty then 1 else 0) := by
  have w2 := wt.2.1
  have e7 : m 12 7 = Tr T := ct.2.1
  unfold fT_allFit fT_allFit_2
  obtain ⟨v, hv, hP⟩ := aLoop_ok (f := fT_allFit_2_b m c ty) (Inv := fun r : Int => 0 ≤ r ∧ r ≤ Tr T ∧ ∀ q, 0 ≤ q → q < r → missB T q c = true ∨ fitC (Tq T q c) (Tt T q c) ty = true) (μ := fun r => (Tr T - r).toNat) (Post := fun v => v = if fitAll T c ty then 1 else 0) (by
    rintro r ⟨g1, g2, g3⟩
    unfold fT_allFit_2_b
    rw [e7]
    by_cases hr : r < Tr T
    · have hk := cell_rng wt g1 hr h3 h4
      have ec : fT_cellAt m r c = (r + 1) * Tn T + c := c_cellIn (m := pt m T) wt ct g1 hr h3 h4
      have eg : fT_isGone m ((r + 1) * Tn T + c) = some (if missB T r c then 1 else 0) := c_gone (m := pt m T) wt ct g1 hr h3 h4
      rw [if_pos hr, ec, if_neg (by omega), eg, w32_id (by omega) (by omega)]
      simp only [Option.bind_some]
      have next (h : missB T r c = true ∨ fitC (Tq T r c) (Tt T r c) ty = true) : ∀ q, 0 ≤ q → q < r + 1 → missB T q c = true ∨ fitC (Tq T q c) (Tt T q c) ty = true := fun q q0 q1 => by
        by_cases e : q = r
        · rw [e]; exact h
        · exact g3 q q0 (by omega)
      by_cases hm : missB T r c = true
      · left
        rw [if_pos hm, if_neg (by decide)]
        exact ⟨_, rfl, ⟨by omega, by omega, next (Or.inl hm)⟩, by omega⟩
      · rw [if_neg hm, if_pos rfl, c_fitsV wt ct g1 hr h3 h4]
        simp only [Option.bind_some]
        by_cases hf : fitC (Tq T r c) (Tt T r c) ty = true
        · left
          rw [if_pos hf, if_neg (by decide)]
          exact ⟨_, rfl, ⟨by omega, by omega, next (Or.inr hf)⟩, by omega⟩
        · right
          rw [if_neg hf, if_pos rfl]
          refine ⟨_, rfl, ?_⟩
          rw [if_neg (fun q => (fitAll_iff.mp q r g1 hr).elim hm hf)]
    · right
      rw [if_neg hr]
      refine ⟨_, rfl, ?_⟩
      rw [if_pos (fitAll_iff.mpr (fun q q0 q1 => g3 q q0 (by omega)))]) FU 0 ⟨by omega, by omega, fun q q0 q1 => by omega⟩ (by show (Tr T - 0).toNat < 1000000; omega)
  rw [hv, hP]
theorem c_findType {m : aM} {T : Tb} (wt : WT T) (ct : CT (pt m T) T) {c : Int} (h3 : 0 ≤ c) (h4 : c < Tn T) : fT_findType m c = some (tyS T c) := by
  have st (ty : Int) (h : ty < 3) (h0 : 0 ≤ ty) : fT_findType_2_b m c ty = if fitAll T c ty then some (Sum.inr ty) else some (Sum.inl (ty + 1)) := by
    unfold fT_findType_2_b
    rw [if_pos h, c_allFit wt ct h3 h4, w32_id (by omega) (by omega)]
    simp only [Option.bind_some]
    by_cases hf : fitAll T c ty = true
    · rw [if_pos hf, if_neg (by decide), if_pos hf]
    · rw [if_neg hf, if_pos rfl, if_neg hf]
  unfold fT_findType fT_findType_2 tyS
  show aLoop (fT_findType_2_b m c) (999996 + 1 + 1 + 1 + 1) 0 = _
  by_cases f0 : fitAll T c 0 = true
  · rw [if_pos f0]
    exact aL_end (by rw [st 0 (by decide) (by decide), if_pos f0])
  rw [if_neg f0, aL_go (y := 0 + 1) (by rw [st 0 (by decide) (by decide), if_neg f0])]
  by_cases f1 : fitAll T c 1 = true
  · rw [if_pos f1]
    exact aL_end (by rw [show (0 : Int) + 1 = 1 from rfl, st 1 (by decide) (by decide), if_pos f1])
  rw [if_neg f1, aL_go (y := 1 + 1) (by rw [show (0 : Int) + 1 = 1 from rfl, st 1 (by decide) (by decide), if_neg f1])]
  by_cases f2 : fitAll T c 2 = true
  · rw [if_pos f2]
    exact aL_end (by rw [show (1 : Int) + 1 = 2 from rfl, st 2 (by decide) (by decide), if_pos f2])
  rw [if_neg f2, aL_go (y := 2 + 1) (by rw [show (1 : Int) + 1 = 2 from rfl, st 2 (by decide) (by decide), if_neg f2])]
  exact aL_end (by rfl)
