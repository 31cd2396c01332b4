/-! ASK: both answers -/
def mrg (c q : aM) : aM := fun y j => if y < 130 then c y j else q y j
theorem mrg_c {c q : aM} {y : Int} (h : y < 130) : mrg c q y = c y := by
  funext j
  exact if_pos h
theorem mrg_q {c q : aM} {y : Int} (h : ¬ y < 130) : mrg c q y = q y := by
  funext j
  exact if_neg h
theorem lst_at {m : aM} {y : Int} : ∀ {S : List Int} {j : Int}, lst m y S → 0 ≤ j → j < (S.length : Int) → m y j ∈ S
  | [], j, _, h0, h1 => by simp only [List.length_nil] at h1; omega
  | s :: S, j, h, h0, h1 => by
    by_cases e : j = (S.length : Int)
    · rw [e, h.1]; exact List.mem_cons_self ..
    · exact List.mem_cons_of_mem _ (lst_at h.2 h0 (by simp only [List.length_cons] at h1; omega))
theorem lst_eq {m m' : aM} {y y' : Int} : ∀ {S : List Int} {j : Int}, lst m y S → lst m' y' S → 0 ≤ j → j < (S.length : Int) → m y j = m' y' j
  | [], j, _, _, h0, h1 => by simp only [List.length_nil] at h1; omega
  | s :: S, j, h, h', h0, h1 => by
    by_cases e : j = (S.length : Int)
    · rw [e, h.1, h'.1]
    · exact lst_eq h.2 h'.2 h0 (by simp only [List.length_cons] at h1; omega)
theorem lst_nd {m : aM} {y : Int} : ∀ {S : List Int} {i j : Int}, S.Nodup → lst m y S → 0 ≤ i → i < j → j < (S.length : Int) → m y i ≠ m y j
  | [], i, j, _, _, h0, h1, h2 => by simp only [List.length_nil] at h2; omega
  | s :: S, i, j, hn, h, h0, h1, h2 => by
    have hn' := List.nodup_cons.mp hn
    simp only [List.length_cons] at h2
    by_cases e : j = (S.length : Int)
    · rw [e, h.1]
      intro e2
      exact hn'.1 (e2 ▸ lst_at h.2 h0 (by omega))
    · exact lst_nd hn'.2 h.2 h0 h1 (by omega)
section
variable {T : Tb} {kd c k : Int} {m q : aM}
/-- a line on both sides -/
def PL (T : Tb) (kd c k : Int) (m q : aM) (i : Int) (g : List Int) : Prop := LCl T kd c m i g ∧ LR T kd c q i g ∧ (k ≠ -1 → g ≠ [] ∧ q 151 i = rep g)
def bl (T : Tb) (kd c k : Int) (m q : aM) : Int → List (List Int) → Prop
  | _, [] => True
  | x, g :: gs => PL T kd c k m q x g ∧ bl T kd c k m q (x + 1) gs
theorem bl_mk : ∀ {gs : List (List Int)} {x : Int}, GW T k gs → clns T kd c m x gs → lns T kd c q x gs → bl T kd c k m q x gs
  | [], _, _, _, _ => trivial
  | g :: gs, x, hG, h1, h2 => ⟨⟨h1.1, h2.1, fun _ => ⟨hG.1, h2.2.1⟩⟩, bl_mk hG.2.2.2 h1.2 h2.2.2⟩
theorem bl_at : ∀ {gs : List (List Int)} {x i : Int}, bl T kd c k m q x gs → x ≤ i → i < x + (gs.length : Int) → ∃ g ∈ gs, PL T kd c k m q i g
  | [], x, i, _, h0, h1 => by simp only [List.length_nil] at h1; omega
  | g :: gs, x, i, h, h0, h1 => by
    by_cases e : i = x
    · rw [e]; exact ⟨g, List.mem_cons_self .., h.1⟩
    · obtain ⟨g', m', p⟩ := bl_at h.2 (i := i) (by omega) (by simp only [List.length_cons] at h1; omega)
      exact ⟨g', List.mem_cons_of_mem _ m', p⟩
theorem bl_two : ∀ {gs : List (List Int)} {x i j : Int}, gs.flatten.Nodup → bl T kd c k m q x gs → x ≤ i → i < j → j < x + (gs.length : Int) → ∃ g h, PL T kd c k m q i g ∧ PL T kd c k m q j h ∧ ∀ a ∈ g, ∀ b ∈ h, a ≠ b
  | [], x, i, j, _, _, h0, h1, h2 => by simp only [List.length_nil] at h2; omega
  | g :: gs, x, i, j, hn, h, h0, h1, h2 => by
    rw [List.flatten_cons, List.nodup_append] at hn
    simp only [List.length_cons] at h2
    by_cases e : i = x
    · obtain ⟨g', m', p⟩ := bl_at h.2 (i := j) (by omega) (by omega)
      rw [e]
      exact ⟨g, g', h.1, p, fun a ha b hb => hn.2.2 a ha b (List.mem_flatten.mpr ⟨g', m', hb⟩)⟩
    · exact bl_two hn.2.1 h.2 (by omega) h1 (by omega)
/-- the answers of rows -/
theorem ax_rows {S : List Int} (t1 : 1 ≤ Tn T) (a0 : m 123 0 = 1) (a1 : m 123 1 = 1) (a4 : m 123 4 = (S.length : Int)) (b37 : q 130 37 = (S.length : Int)) (b38 : q 130 38 = 0) (l16 : (S.length : Int) ≤ 16) (hn : S.Nodup) (hr : ∀ r ∈ S, 0 ≤ r ∧ r < Tr T) (h1 : lst m 124 S) (h2 : lst q 151 S) : AX (mrg m q) T := by
  unfold AX
  rw [mrg_c (show (123 : Int) < 130 by decide), mrg_c (show (124 : Int) < 130 by decide), mrg_q (show ¬ (130 : Int) < 130 by decide), mrg_q (show ¬ (151 : Int) < 130 by decide), a0, a1, a4, b37, b38]
  right
  refine ⟨rfl, rfl, t1, by omega, by decide, rfl, fun _ => ⟨fun i i0 i1 => ⟨lst_eq h1 h2 i0 i1, hr _ (lst_at h1 i0 i1)⟩, fun i j i0 i1 i2 => lst_nd hn h1 i0 i1 i2⟩, fun h => absurd h (by decide), fun h => absurd h (by decide), fun h => absurd h (by decide), fun h => absurd h (by decide), fun h => absurd h (by decide)⟩
/-- the answers of groups -/
theorem ax_groups {gs : List (List Int)} (t1 : 1 ≤ Tn T) (hk : 2 ≤ kd ∧ kd ≤ 5) (a0 : m 123 0 = 1) (a1 : m 123 1 = kd) (a2 : m 123 2 = c) (a3 : m 123 3 = k) (a4 : m 123 4 = (gs.length : Int)) (b37 : q 130 37 = (gs.length : Int)) (b38 : q 130 38 = kd - 1) (b39 : q 130 39 = k) (b40 : 3 ≤ kd → q 130 40 = c ∧ 0 ≤ c ∧ c < Tn T) (hkr : k = -1 ∨ (0 ≤ k ∧ k < Tn T)) (l16 : (gs.length : Int) ≤ 16) (hn : gs.flatten.Nodup) (hr : ∀ g ∈ gs, (g.length : Int) ≤ 16 ∧ ∀ r ∈ g, 0 ≤ r ∧ r < Tr T) (hb : bl T kd c k m q 0 gs) : AX (mrg m q) T := by
  have lt (i : Int) (h : i < (gs.length : Int)) : i < 0 + (gs.length : Int) := by omega
  have best (i : Int) (g : List Int) (hg : g ∈ gs) (p : PL T kd c k m q i g) (k4 : 4 ≤ kd) : (m 129 i = 0 ↔ bestG T c kd g ≠ -1) ∧ (bestG T c kd g ≠ -1 → bestG T c kd g ∈ g ∧ missB T (bestG T c kd g) c = false ∧ 0 ≤ bestG T c kd g ∧ bestG T c kd g < Tr T) := by
    obtain ⟨-, -, -, -, e⟩ := p.1
    obtain ⟨e1, e2, e3⟩ := e k4
    refine ⟨?_, fun h => ?_⟩
    · rw [e2]
      split <;> omega
    · have br := (bestG_rng (T := T) (c := c) (kd := kd) g).resolve_left h
      exact ⟨br.1, br.2, (hr g hg).2 _ br.1⟩
  unfold AX
  rw [mrg_c (show (123 : Int) < 130 by decide), mrg_c (show (124 : Int) < 130 by decide), mrg_c (show (125 : Int) < 130 by decide), mrg_c (show (126 : Int) < 130 by decide), mrg_c (show (127 : Int) < 130 by decide), mrg_c (show (128 : Int) < 130 by decide), mrg_c (show (129 : Int) < 130 by decide), mrg_q (show ¬ (130 : Int) < 130 by decide), mrg_q (show ¬ (151 : Int) < 130 by decide), mrg_q (show ¬ (152 : Int) < 130 by decide), mrg_q (show ¬ (153 : Int) < 130 by decide), mrg_q (show ¬ (154 : Int) < 130 by decide), a0, a1, a2, a3, a4, b37, b38, b39]
  right
  refine ⟨rfl, rfl, t1, by omega, by omega, rfl, by omega, fun _ => ⟨rfl, hkr, fun i i0 i1 => ?_, fun k0 => ⟨fun i i0 i1 => ?_, fun i j i0 i1 i2 => ?_⟩⟩, fun k2 i i0 i1 => ?_, fun k3 => ⟨(b40 k3).1, (b40 k3).2, fun i i0 i1 => ?_⟩, fun k3 i i0 i1 h0 => ?_, fun k4 => ⟨fun i i0 i1 h0 => ?_, fun i j i0 i1 i2 hi hj => ?_⟩⟩
  · obtain ⟨g, hg, p⟩ := bl_at hb i0 (lt i i1)
    have := (hr g hg).1
    rw [p.1.1, p.2.1.1]
    exact ⟨rfl, by omega, by omega⟩
  · obtain ⟨g, hg, p⟩ := bl_at hb i0 (lt i i1)
    obtain ⟨ne, e⟩ := p.2.2 (by omega)
    rw [p.1.2.1 ne, e]
    exact ⟨rfl, (hr g hg).2 _ (rep_mem ne)⟩
  · obtain ⟨g, h, p, p', dj⟩ := bl_two hn hb i0 i1 (lt j i2)
    obtain ⟨ne, -⟩ := p.2.2 (by omega)
    obtain ⟨ne', -⟩ := p'.2.2 (by omega)
    rw [p.1.2.1 ne, p'.1.2.1 ne']
    exact dj _ (rep_mem ne) _ (rep_mem ne')
  · obtain ⟨g, hg, p⟩ := bl_at hb i0 (lt i i1)
    obtain ⟨e1, e2⟩ := p.1.2.2.1 k2
    rw [e1, e2, p.2.1.1]
    exact ⟨rfl, rfl⟩
  · obtain ⟨g, hg, p⟩ := bl_at hb i0 (lt i i1)
    by_cases k33 : kd = 3
    · obtain ⟨s, b, s1, s2, s3⟩ := p.1.2.2.2.1 k33
      obtain ⟨s', b', t1, t2, t3⟩ := p.2.1.2.1 k33
      rw [s1] at t1
      injection t1 with t1
      injection t1 with t4 t5
      rw [← t5] at t3
      rw [s2, ← t3]
      cases b <;> simp
    · have bb := best i g hg p (by omega)
      have e4 := p.2.1.2.2 (by omega)
      obtain ⟨-, -, -, -, e⟩ := p.1
      obtain ⟨e1, e2, e3⟩ := e (by omega)
      refine ⟨?_, ?_⟩
      · rw [e2]
        split
        · exact Or.inr rfl
        · exact Or.inl rfl
      · rw [bb.1, e4]
        refine ⟨fun h => (bb.2 h).2.2.1, fun h => by omega⟩
  · obtain ⟨g, hg, p⟩ := bl_at hb i0 (lt i i1)
    obtain ⟨s, b, s1, s2, s3⟩ := p.1.2.2.2.1 k3
    obtain ⟨s', b', t1, t2, t3⟩ := p.2.1.2.1 k3
    have si := sumG_rng g s b s1
    rw [s1] at t1
    injection t1 with t1
    injection t1 with t4 t5
    rw [s3, t2, ← t4]
    exact ⟨rfl, si⟩
  · obtain ⟨g, hg, p⟩ := bl_at hb i0 (lt i i1)
    have bb := best i g hg p k4
    have nb := bb.1.mp h0
    have b2 := bb.2 nb
    obtain ⟨-, -, -, -, e⟩ := p.1
    obtain ⟨e1, e2, e3⟩ := e k4
    rw [e1, p.2.1.2.2 k4, e3 nb]
    exact ⟨rfl, b2.2.2, b2.2.1, rfl⟩
  · obtain ⟨g, h, p, p', dj⟩ := bl_two hn hb i0 i1 (lt j i2)
    obtain ⟨-, -, -, -, e⟩ := p.1
    obtain ⟨e1, e2, -⟩ := e k4
    obtain ⟨-, -, -, -, e'⟩ := p'.1
    obtain ⟨e1', e2', -⟩ := e' k4
    rw [e2] at hi
    rw [e2'] at hj
    have n1 : bestG T c kd g ≠ -1 := by
      intro h
      rw [if_pos h] at hi
      exact absurd hi (by decide)
    have n2 : bestG T c kd h ≠ -1 := by
      intro h'
      rw [if_pos h'] at hj
      exact absurd hj (by decide)
    rw [e1, e1']
    exact dj _ ((bestG_rng g).resolve_left n1).1 _ ((bestG_rng h).resolve_left n2).1
end
