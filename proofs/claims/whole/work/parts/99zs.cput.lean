/-! ASK: the lines of the class -/
def clns (T : Tb) (kd c : Int) (m : aM) : Int → List (List Int) → Prop
  | _, [] => True
  | x, g :: gs => LCl T kd c m x g ∧ clns T kd c m (x + 1) gs
section
variable {T : Tb} {kd c k : Int} {m : aM}
theorem clns_of {m' : aM} : ∀ {gs : List (List Int)} {x : Int}, (∀ y j, 125 ≤ y → y ≤ 129 → x ≤ j → j < x + (gs.length : Int) → m' y j = m y j) → clns T kd c m x gs → clns T kd c m' x gs
  | [], _, _, _ => trivial
  | g :: gs, x, e, h => ⟨h.1.of (fun y a b => e y x a b (by omega) (by simp only [List.length_cons]; omega)), clns_of (fun y j a b d f => e y j a b (by omega) (by simp only [List.length_cons]; omega)) h.2⟩
theorem clns_snoc {g : List Int} : ∀ {gs : List (List Int)} {x : Int}, clns T kd c m x gs → LCl T kd c m (x + (gs.length : Int)) g → clns T kd c m x (gs ++ [g])
  | [], x, _, h => ⟨by rw [show x + (([] : List (List Int)).length : Int) = x by simp] at h; exact h, trivial⟩
  | g0 :: gs, x, hg, h => ⟨hg.1, clns_snoc hg.2 (by rw [show x + 1 + (gs.length : Int) = x + ((g0 :: gs).length : Int) by simp only [List.length_cons]; omega]; exact h)⟩
theorem seg_get {y : Int} : ∀ {g : List Int} {x j : Int}, seg m y x g → x ≤ j → j < x + (g.length : Int) → m y j ∈ g
  | [], x, j, _, h1, h2 => by simp only [List.length_nil] at h2; omega
  | r :: g, x, j, h, h1, h2 => by
    by_cases e : j = x
    · rw [e, h.1]; exact List.mem_cons_self ..
    · exact List.mem_cons_of_mem _ (seg_get h.2 (by omega) (by simp only [List.length_cons] at h2; omega))
theorem seg_rep {y x : Int} {g : List Int} (h : seg m y x g) (hne : g ≠ []) : m y x = rep g := by
  cases g with
  | nil => exact absurd rfl hne
  | cons a g => exact h.1
theorem GW_app : ∀ {gs hs : List (List Int)}, GW T k (gs ++ hs) → GW T k hs
  | [], _, h => h
  | _ :: gs, _, h => GW_app (gs := gs) h.2.2.2
theorem GW_len : ∀ {gs : List (List Int)}, GW T k gs → gs.length ≤ gs.flatten.length
  | [], _ => Nat.le_refl 0
  | g :: gs, h => by
    have := GW_len h.2.2.2
    have := List.length_pos_iff.mpr h.1
    rw [List.flatten_cons, List.length_append]
    simp only [List.length_cons]
    omega
theorem GW_front : ∀ {gs hs : List (List Int)}, GW T k (gs ++ hs) → gs.length ≤ gs.flatten.length
  | [], _, _ => Nat.le_refl 0
  | g :: gs, hs, h => by
    have := GW_front (gs := gs) h.2.2.2
    have := List.length_pos_iff.mpr h.1
    rw [List.flatten_cons, List.length_append]
    simp only [List.length_cons]
    omega
abbrev apP (y j : Int) : Prop := (y = 123 ∧ j = 4) ∨ (125 ≤ y ∧ y ≤ 129)
theorem ap_row {m' : aM} (f : Fr apP m m') {y : Int} (h1 : y ≠ 123) (h : ¬ (125 ≤ y ∧ y ≤ 129)) : m' y = m y := by
  funext j
  exact f y j (fun e => by omega)
theorem c_groups {gs : List (List Int)} {K : Int} (wt : WT T) (ct : CT m T) (hG : GW T k gs) (h1 : m 123 1 = kd) (h2 : m 123 2 = c) (h3 : m 123 3 = k) (k0 : 0 ≤ k) (k1 : k < Tn T) (hk : 2 ≤ kd ∧ kd ≤ 5) (hc : 3 ≤ kd → 0 ≤ c ∧ c < Tn T) (h3' : kd = 3 → tyS T c ≤ 1) (h4 : m 123 4 = 0) (h5 : m 123 5 = K) (hK : K = (gs.flatten.length : Int)) (K16 : K ≤ 16) (hg : seg m 124 0 gs.flatten) (hr : ∀ r ∈ gs.flatten, 0 ≤ r ∧ r < Tr T) :
    ∃ o m', fA_putTogether_51 m 1 0 1 = some (o, m') ∧ Fr apP m m' ∧ ((o = 0 ∧ kd = 3 ∧ ∃ g ∈ gs, sumG T c g = none) ∨ (o = 1 ∧ m' 123 4 = (gs.length : Int) ∧ clns T kd c m' 0 gs)) := by
  unfold fA_putTogether_51
  obtain ⟨⟨o, m'⟩, e, hp⟩ := aLoop_ok (f := fA_putTogether_51_b) (Inv := fun x : aM × Int × Int × Int => Fr apP m x.1 ∧ (0 ≤ x.2.2.2 ∧ x.2.2.2 ≤ K + 1) ∧ ((x.2.1 = 1 ∧ ∃ done g rest, gs = done ++ g :: rest ∧ x.2.2.1 = (done.flatten.length : Int) ∧ x.2.2.1 < x.2.2.2 ∧ x.2.2.2 ≤ x.2.2.1 + (g.length : Int) ∧ x.1 123 4 = (done.length : Int) ∧ clns T kd c x.1 0 done) ∨ (x.2.1 = 1 ∧ x.2.2.2 = K + 1 ∧ x.1 123 4 = (gs.length : Int) ∧ clns T kd c x.1 0 gs) ∨ (x.2.1 = 0 ∧ kd = 3 ∧ ∃ g ∈ gs, sumG T c g = none))) (μ := fun x => (20 - x.2.2.2).toNat) (Post := fun v => Fr apP m v.2 ∧ ((v.1 = 0 ∧ kd = 3 ∧ ∃ g ∈ gs, sumG T c g = none) ∨ (v.1 = 1 ∧ v.2 123 4 = (gs.length : Int) ∧ clns T kd c v.2 0 gs))) (by
    rintro ⟨m1, x2, x3, x4⟩ ⟨g1, g2, g3⟩
    simp only at g1 g2 g3
    have e5 : m1 123 5 = K := by rw [g1 123 5 (fun e => by omega)]; exact h5
    unfold fA_putTogether_51_b fA_putTogether_97
    simp only
    rw [e5]
    rcases g3 with ⟨x21, done, g, rest, eg, ex3, l34, l4, n4, hcl⟩ | ⟨x21, x4K, n4, hcl⟩ | ⟨x20, bad⟩
    · left
      have hGg := GW_app (gs := done) (hs := g :: rest) (by rw [← eg]; exact hG)
      have fl : gs.flatten = done.flatten ++ (g ++ rest.flatten) := by rw [eg, List.flatten_append, List.flatten_cons]
      have fll : K = (done.flatten.length : Int) + ((g.length : Int) + (rest.flatten.length : Int)) := by
        rw [hK, fl, List.length_append, List.length_append]; omega
      have sg1 : seg m1 124 0 gs.flatten := seg_of (fun j _ _ => by rw [ap_row g1 (by decide) (by decide)]) hg
      rw [fl] at sg1
      have s1 := (seg_app sg1).2
      rw [Int.zero_add, ← ex3] at s1
      have s2 := seg_app s1
      have gmem : ∀ r ∈ g, r ∈ gs.flatten := fun r hr => by rw [fl]; exact List.mem_append_right _ (List.mem_append_left _ hr)
      have dl := GW_front (gs := done) (hs := g :: rest) (by rw [← eg]; exact hG)
      have gl := List.length_pos_iff.mpr hGg.1
      have ct1 : CT m1 T := ct.row (fun y a b => ap_row g1 (by omega) (by omega))
      have r3 : m1 124 x3 = rep g := seg_rep s2.1 hGg.1
      have rm := hr _ (gmem _ (rep_mem hGg.1))
      -- a group is complete
      have add (hend : x4 = x3 + (g.length : Int)) : ∃ y, ((fA_addLine m1 x3 x4).bind fun v2 => some (Sum.inl (v2.2, v2.1, x4, w32 (x4 + 1))) : Option ((aM × Int × Int × Int) ⊕ (Int × aM))) = some (Sum.inl y) ∧ (Fr apP m y.1 ∧ (0 ≤ y.2.2.2 ∧ y.2.2.2 ≤ K + 1) ∧ ((y.2.1 = 1 ∧ ∃ done g rest, gs = done ++ g :: rest ∧ y.2.2.1 = (done.flatten.length : Int) ∧ y.2.2.1 < y.2.2.2 ∧ y.2.2.2 ≤ y.2.2.1 + (g.length : Int) ∧ y.1 123 4 = (done.length : Int) ∧ clns T kd c y.1 0 done) ∨ (y.2.1 = 1 ∧ y.2.2.2 = K + 1 ∧ y.1 123 4 = (gs.length : Int) ∧ clns T kd c y.1 0 gs) ∨ (y.2.1 = 0 ∧ kd = 3 ∧ ∃ g ∈ gs, sumG T c g = none))) ∧ (20 - y.2.2.2).toNat < (20 - x4).toNat := by
        obtain ⟨o, m2, e2, f2, h⟩ := c_addLine (l := (done.length : Int)) (a := x3) (b := x4) (g := g) wt ct1 (by rw [g1 123 1 (fun e => by omega)]; exact h1) (by rw [g1 123 2 (fun e => by omega)]; exact h2) hk hc h3' n4 (by omega) (by omega) s2.1 (by omega) hend.symm (by omega) (fun r h => hr r (gmem r h))
        rw [e2]
        simp only [Option.bind_some]
        rw [w32_id (by omega) (by omega)]
        have fa : Fr apP m m2 := g1.tr (f2.wk (fun y j e => by omega))
        refine ⟨_, rfl, ⟨fa, by simp only; omega, ?_⟩, by simp only; omega⟩
        simp only
        rcases h with ⟨o0, bd, bs⟩ | ⟨o1, n4', hL⟩
        · exact Or.inr (Or.inr ⟨o0, bd, g, by rw [eg]; exact List.mem_append_right _ (List.mem_cons_self ..), bs⟩)
        · have hcl2 : clns T kd c m2 0 (done ++ [g]) := clns_snoc (clns_of (fun y j a b d f => f2 y j (fun e => by omega)) hcl) (by rw [Int.zero_add]; exact hL)
          cases rest with
          | nil =>
            right; left
            refine ⟨o1, ?_, ?_, by rw [eg]; exact hcl2⟩
            · simp only [List.flatten_nil, List.length_nil] at fll
              omega
            · rw [n4', eg, List.length_append]
              simp only [List.length_cons, List.length_nil]
              omega
          | cons g' rest =>
            left
            have gl' := List.length_pos_iff.mpr hGg.2.2.2.1
            refine ⟨o1, done ++ [g], g', rest, by rw [eg, List.append_assoc]; rfl, ?_, by omega, by omega, ?_, hcl2⟩
            · rw [List.flatten_append, List.length_append, List.flatten_cons, List.flatten_nil, List.append_nil]
              omega
            · rw [n4', List.length_append]
              simp only [List.length_cons, List.length_nil]
              omega
      rw [if_neg (by omega), if_neg (by omega)]
      by_cases eK : x4 = K
      · rw [if_pos eK]
        exact add (by omega)
      · rw [if_neg eK, gd_pos (by omega), gd_pos (by omega), g1 123 3 (fun e => by omega), h3, r3]
        by_cases inner : x4 < x3 + (g.length : Int)
        · have xm := seg_get s2.1 (j := x4) (by omega) inner
          have xr := hr _ (gmem _ xm)
          rw [c_compareRows wt ct1 rm.1 rm.2 xr.1 xr.2 k0 k1]
          simp only [Option.bind_some]
          rw [if_pos (zr_comm0 (hGg.2.1 _ xm)), w32_id (by omega) (by omega)]
          exact ⟨_, rfl, ⟨g1, by simp only; omega, Or.inl ⟨x21, done, g, rest, eg, ex3, by simp only; omega, by simp only; omega, n4, hcl⟩⟩, by simp only; omega⟩
        · have hend : x4 = x3 + (g.length : Int) := by omega
          cases rest with
          | nil =>
            simp only [List.flatten_nil, List.length_nil] at fll
            omega
          | cons g' rest' =>
            have hne' := hGg.2.2.2.1
            have s3 := s2.2
            rw [← hend, List.flatten_cons] at s3
            have r4 : m1 124 x4 = rep g' := seg_rep (seg_app s3).1 hne'
            have xr := hr (rep g') (by rw [fl, List.flatten_cons]; exact List.mem_append_right _ (List.mem_append_right _ (List.mem_append_left _ (rep_mem hne'))))
            rw [r4, c_compareRows wt ct1 rm.1 rm.2 xr.1 xr.2 k0 k1]
            simp only [Option.bind_some]
            have := hGg.2.2.1 g' (List.mem_cons_self ..)
            rw [if_neg (by omega)]
            exact add hend
    · right
      rw [if_pos (by omega), gd_pos (Or.inr x21)]
      exact ⟨_, rfl, g1, Or.inr ⟨x21, n4, hcl⟩⟩
    · right
      have res : ((if K < x4 then gd (x2 = 0 ∨ x2 = 1) (some (Sum.inr (x2, m1))) else if x2 = 0 then gd (x2 = 0 ∨ x2 = 1) (some (Sum.inr (x2, m1))) else if x4 = K then (fA_addLine m1 x3 x4).bind fun v2 => some (Sum.inl (v2.2, v2.1, x4, w32 (x4 + 1))) else gd (0 ≤ x3 ∧ x3 < 16) (gd (0 ≤ x4 ∧ x4 < 16) ((fT_compareRows m1 (m1 124 x3) (m1 124 x4) (m1 123 3)).bind fun v5 => if v5 = 0 then some (Sum.inl (m1, x2, x3, w32 (x4 + 1))) else (fA_addLine m1 x3 x4).bind fun v2 => some (Sum.inl (v2.2, v2.1, x4, w32 (x4 + 1)))))) : Option ((aM × Int × Int × Int) ⊕ (Int × aM))) = some (Sum.inr (x2, m1)) := by
        by_cases hh : K < x4
        · rw [if_pos hh, gd_pos (Or.inl x20)]
        · rw [if_neg hh, if_pos x20, gd_pos (Or.inl x20)]
      exact ⟨_, res, g1, Or.inl ⟨x20, bad⟩⟩) FU (m, 1, 0, 1) ⟨Fr.rf, by simp only; omega, by
      cases gs with
      | nil =>
        right; left
        exact ⟨rfl, by simp only; rw [hK]; rfl, h4, trivial⟩
      | cons g gs =>
        left
        have := List.length_pos_iff.mpr hG.1
        exact ⟨rfl, [], g, gs, rfl, rfl, by simp only; omega, by simp only; omega, h4, trivial⟩⟩ (by show _ < 1000000; simp only; omega)
  exact ⟨o, m', e, hp⟩
/-- the groups of a question -/
def gpp (T : Tb) (k : Int) (R : List Int) : List (List Int) := if k = -1 then [R] else grp T k R
theorem c_put {R : List Int} (wt : WT T) (ct : CT m T) (h1 : m 123 1 = kd) (h2 : m 123 2 = c) (h3 : m 123 3 = k) (hkr : k = -1 ∨ (0 ≤ k ∧ k < Tn T)) (hk : 2 ≤ kd ∧ kd ≤ 5) (hc : 3 ≤ kd → 0 ≤ c ∧ c < Tn T) (h3' : kd = 3 → tyS T c ≤ 1) (h5 : m 123 5 = (R.length : Int)) (l16 : (R.length : Int) ≤ 16) (hl : lst m 124 (srt (lt0 T k 0) R)) (hr : ∀ r ∈ R, 0 ≤ r ∧ r < Tr T) :
    ∃ o m', fA_putTogether m = some (o, m') ∧ Fr apP m m' ∧ ((o = 0 ∧ kd = 3 ∧ ∃ g ∈ gpp T k R, sumG T c g = none) ∨ (o = 1 ∧ m' 123 4 = ((gpp T k R).length : Int) ∧ clns T kd c m' 0 (gpp T k R))) := by
  have f0 : Fr apP m (mup m 123 4 0) := Fr.rf.up (Or.inl ⟨rfl, rfl⟩)
  have ct0 : CT (mup m 123 4 0) T := ct.row (fun y a b => row_up (by omega))
  unfold fA_putTogether gpp
  rw [h1, if_neg (by omega), h3]
  rcases hkr with k1 | kr
  · rw [if_pos k1, if_pos k1, h5]
    rw [k1, lt0_none, srt_none] at hl
    obtain ⟨o, m2, e2, f2, h⟩ := c_addLine (l := 0) (a := 0) (b := (R.length : Int)) (g := R) wt ct0 (by rw [mup_idx (by decide)]; exact h1) (by rw [mup_idx (by decide)]; exact h2) hk hc h3' (mup_same _ _ _ _) (by omega) (by omega) (seg_of (fun j _ _ => by rw [mup_ref (by decide)]) (lst_seg R hl)) (by omega) (by omega) l16 hr
    rw [e2]
    simp only [Option.bind_some]
    have fa : Fr apP m m2 := f0.tr (f2.wk (fun y j e => by omega))
    rcases h with ⟨o0, bd, bs⟩ | ⟨o1, n4', hL⟩
    · rw [gd_pos (Or.inl o0)]
      exact ⟨o, m2, rfl, fa, Or.inl ⟨o0, bd, R, List.mem_cons_self .., bs⟩⟩
    · rw [gd_pos (Or.inr o1)]
      exact ⟨o, m2, rfl, fa, Or.inr ⟨o1, n4', hL, trivial⟩⟩
  · rw [if_neg (by omega), if_neg (by omega)]
    have fs := grp_srt (T := T) (k := k) (by omega) R
    have pm := grp_perm (T := T) (k := k) (by omega) R
    obtain ⟨o, m', e, f, h⟩ := c_groups (K := (R.length : Int)) wt ct0 (grp_ok (T := T) (k := k) R) (by rw [mup_idx (by decide)]; exact h1) (by rw [mup_idx (by decide)]; exact h2) (by rw [mup_idx (by decide)]; exact h3) kr.1 kr.2 hk hc h3' (mup_same _ _ _ _) (by rw [mup_idx (by decide)]; exact h5) (by rw [pm.length_eq]) l16 (seg_of (fun j _ _ => by rw [mup_ref (by decide)]) (lst_seg _ (by rw [fs, List.reverse_reverse]; exact hl))) (fun r h => hr r (pm.mem_iff.mp h))
    exact ⟨o, m', e, f0.tr f, h⟩
end
