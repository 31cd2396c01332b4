/-! ASK: the truth of a comparison -/
def zt (T : Tb) (u : Int → Int) (τ : Int → Int) (r c : Int) : Int := if tyS T c = 3 then tc (Tt T r c) (us u (τ 1 + 1) (τ 2 - 1)) else cmp3 (valS (Tt T r c)) (τ 6)
def t2 (b : Bool) : Int := if b then 2 else 0
/-- 0 false, 1 unknown, 2 true -/
def tv (c0 : aM) (T : Tb) (u : Int → Int) (s r : Int) : Int :=
  if c0 (24 + (s + 1)) 3 = 11 then t2 (missB T r (c0 (24 + s) 4))
  else if missB T r (c0 (24 + s) 4) then 1
  else if c0 (24 + (s + 2)) 4 = -1 then t2 (hold (c0 (24 + (s + 1)) 7) (zt T u (c0 (24 + (s + 2))) r (c0 (24 + s) 4)))
  else if missB T r (c0 (24 + (s + 2)) 4) then 1 else t2 (hold (c0 (24 + (s + 1)) 7) (zc T r (c0 (24 + s) 4) r (c0 (24 + (s + 2)) 4)))
theorem t2_rng {b : Bool} : 0 ≤ t2 b ∧ t2 b ≤ 2 := by
  cases b <;> exact ⟨by decide, by decide⟩
theorem tv_rng {c0 : aM} {T : Tb} {u : Int → Int} {s r : Int} : 0 ≤ tv c0 T u s r ∧ tv c0 T u s r ≤ 2 := by
  unfold tv
  split
  · exact t2_rng
  · split
    · decide
    · split
      · exact t2_rng
      · split
        · decide
        · exact t2_rng
/-- the class's memory, when it asks for truth -/
def Ck (c0 : aM) (T : Tb) (u : Int → Int) (n N : Int) : Prop := Cx c0 T u n N ∧ CT c0 T ∧ QC c0 u n
section
variable {c0 q : aM} {T : Tb} {u : Int → Int} {n N : Int}
/-- what is known of the tokens of a step -/
theorem cm_tok {k s : Int} (hx : Cx c0 T u n N) (h : cmR c0 N q k s) : (0 ≤ c0 (24 + s) 4 ∧ c0 (24 + s) 4 < Tn T) ∧ (c0 (24 + (s + 1)) 3 ≠ 11 → (1 ≤ c0 (24 + (s + 1)) 7 ∧ c0 (24 + (s + 1)) 7 ≤ 6) ∧ (c0 (24 + (s + 2)) 4 ≠ -1 → (0 ≤ c0 (24 + (s + 2)) 4 ∧ c0 (24 + (s + 2)) 4 < Tn T) ∧ (tyS T (c0 (24 + s) 4) = 3 ↔ tyS T (c0 (24 + (s + 2)) 4) = 3)) ∧ (c0 (24 + (s + 2)) 4 = -1 → (tyS T (c0 (24 + s) 4) = 3 → 0 ≤ c0 (24 + (s + 2)) 1 + 1 ∧ c0 (24 + (s + 2)) 1 + 1 ≤ c0 (24 + (s + 2)) 2 - 1 ∧ c0 (24 + (s + 2)) 2 - 1 ≤ n) ∧ (tyS T (c0 (24 + s) 4) ≠ 3 → c0 (24 + (s + 2)) 5 ≤ 2))) := by
  obtain ⟨s0, s1, s2, s3, s4⟩ := h
  have t0 := hx.tk (p := s) s0 (by omega)
  have t1 := hx.tk (p := s + 1) (by omega) (by omega)
  have t2 := hx.tk (p := s + 2) (by omega) (by omega)
  have o0 := (o_sort t0).1.resolve_left (by omega)
  have o2 := o_sort t2
  refine ⟨⟨o0.1, o0.2.1⟩, fun h11 => ?_⟩
  rcases s4 with s4 | ⟨-, s5, s6, s7, s8, s9, s10⟩
  · exact absurd s4.1 h11
  have tr0 := ty_rng (T := T) (c := c0 (24 + s) 4)
  refine ⟨?_, fun g => ?_, fun g => ⟨fun ht => ?_, fun ht => ?_⟩⟩
  · rcases t1.sum with ⟨a, -⟩ | ⟨a, b, d, e, f, gg, -⟩
    · omega
    · have := (gg (Or.inl s6)).2
      unfold sgR at this
      omega
  · have o2' := o2.1.resolve_left g
    have tr2 := ty_rng (T := T) (c := c0 (24 + (s + 2)) 4)
    refine ⟨⟨o2'.1, o2'.2.1⟩, ?_⟩
    have e1 := o0.2.2.2.1
    have e2 := o2'.2.2.2.1
    rw [s8, e1] at e2
    unfold fK_sortOf at e2
    revert e2
    split <;> split <;> omega
  · have e1 := o0.2.2.2.1
    rw [ht, show fK_sortOf 3 = 3 from rfl] at e1
    have e5 : c0 (24 + (s + 2)) 5 = 3 := by omega
    have tt := t2.1
    rcases t2.2 with ⟨hl, h32, hW | hD | hQ | hS⟩ | hE
    · have := hW.2.2.2.2.2.2.2.2
      rw [if_pos g] at this
      omega
    · have := hD.2.2.2.2.2.2
      rcases this with ⟨a, b, d⟩ | ⟨a, b, d, e⟩
      · omega
      · have sr := shapeS_rng (s := us u (c0 (24 + (s + 2)) 1) (c0 (24 + (s + 2)) 2))
        unfold fK_sortOf at d
        revert d
        split <;> omega
    · obtain ⟨w1, w2, e, w4, w5, w6, w7, w8⟩ := hQ
      omega
    · have := hS.2.2.2.2.1
      omega
    · have := hE.2.2.2.2
      omega
  · have e1 := o0.2.2.2.1
    rw [s8, e1]
    unfold fK_sortOf
    split <;> omega
theorem c_withToken {m : aM} {r c x : Int} {τ : Int → Int} (wt : WT T) (ct : CT m T) (hq : QC m u n) (h1 : 0 ≤ r) (h2 : r < Tr T) (h3 : 0 ≤ c) (h4 : c < Tn T) (hm : missB T r c = false) (hx : m x = τ) (ht : tyS T c = 3 → 0 ≤ τ 1 + 1 ∧ τ 1 + 1 ≤ τ 2 - 1 ∧ τ 2 - 1 ≤ n) : fT_compareWithToken m r c x 4 = some (zt T u τ r c) := by
  have k1 := cell_rng wt h1 h2 h3 h4
  have hn := hq.2.2.1
  unfold fT_compareWithToken
  rw [c_cellIn wt ct h1 h2 h3 h4, if_neg (by omega), c_typeAt wt ct h3 h4, hx]
  simp only [Option.bind_some]
  unfold zt
  by_cases e3 : tyS T c = 3
  · have g := ht e3
    rw [if_pos e3, if_pos e3, gd_pos k1, w32_id (by omega) (by omega), w32_id (by omega) (by omega)]
    obtain ⟨-, -, ck, -, d, -⟩ := ct
    obtain ⟨d1, d2, d3, d4, -⟩ := d r c h1 h2 h3 h4
    rw [c_compareWith ck hq.chk d1 d2 d3 g.1 g.2.1 (by rw [hq.1]; exact g.2.2)]
    simp only [Option.bind_some]
    rw [show (13 : Int) + 1 = 14 by decide, d4, show (4 : Int) + 1 = 5 by decide, usC hq g.1 g.2.2]
  · rw [if_neg e3, if_neg e3, gd_pos k1, val_ok wt ct h1 h2 h3 h4 hm e3, jg_eq]
/-- the class: what a step says of a row -/
theorem c_truthIn {m : aM} {r k s : Int} (hk : Ck c0 T u n N) (hf : ∀ y, y ≠ 122 → m y = c0 y) (h : cmR c0 N q k s) (h1 : 0 ≤ r) (h2 : r < Tr T) : fQ_truthIn m r s 4 = some (one r.toNat (tv c0 T u s r)) := by
  obtain ⟨hx, ct0, hq0⟩ := hk
  have wt := hx.1
  have h96 := hx.N96
  have w2 := wt.2.1
  obtain ⟨tk0, tk1⟩ := cm_tok hx h
  obtain ⟨s0, s1, s2, s3, s4⟩ := h
  have f : Fr cqP c0 c0 := Fr.rf
  have ct : CT m T := ct0.row (fun y a b => hf y (by omega))
  have hq : QC m u n := hq0.of (hf 4 (by decide)) (hf 5 (by decide))
  have row (p : Int) (p0 : 0 ≤ p) (p1 : p ≤ N) : m (24 + p) = c0 (24 + p) := hf _ (by omega)
  have get (p : Int) (p0 : 0 ≤ p) (p1 : p ≤ N) : fS_get m p = some (24 + p) := by
    have := g_get hx f p0 p1
    unfold fS_get at this ⊢
    rw [hf 22 (by decide)]
    exact this
  have er : ((r.toNat : Nat) : Int) = r := by omega
  have r16 : r.toNat < 16 := by omega
  have ob {v : Int} : fQ_bitOf r v = one r.toNat (if v = 0 then 0 else 2) := by
    have := one_bitOf r16 (v := v)
    rwa [er] at this
  unfold fQ_truthIn fQ_truthIn_95 fQ_truthIn_132
  rw [w32_id (by omega) (by omega), w32_id (by omega) (by omega), get s s0 (by omega), get (s + 1) (by omega) (by omega), get (s + 2) (by omega) (by omega)]
  simp only [Option.bind_some]
  rw [row s s0 (by omega), row (s + 1) (by omega) (by omega), row (s + 2) (by omega) (by omega), c_lacks wt ct h1 h2 tk0.1 tk0.2]
  simp only [Option.bind_some]
  unfold tv
  by_cases h11 : c0 (24 + (s + 1)) 3 = 11
  · rw [if_pos h11, if_pos h11, ob]
    cases missB T r (c0 (24 + s) 4) <;> rfl
  · rw [if_neg h11, if_neg h11]
    obtain ⟨t7, t4, t5⟩ := tk1 h11
    cases hm : missB T r (c0 (24 + s) 4)
    · rw [if_neg (show ¬ (false = true) by decide), if_pos rfl, if_neg (show ¬ (false = true) by decide)]
      have hold7 (z : Int) : some (fQ_bitOf r (fS_holds m (24 + (s + 1)) z)) = some (one r.toNat (t2 (hold (c0 (24 + (s + 1)) 7) z))) := by
        rw [c_holds (by rw [row (s + 1) (by omega) (by omega)]) t7.1 t7.2, ob]
        cases hold (c0 (24 + (s + 1)) 7) z <;> rfl
      by_cases g : c0 (24 + (s + 2)) 4 = -1
      · rw [if_pos g, if_pos g, if_pos g, c_withToken wt ct hq h1 h2 tk0.1 tk0.2 hm (row (s + 2) (by omega) (by omega)) (t5 g).1]
        simp only [Option.bind_some]
        exact hold7 _
      · obtain ⟨a, b⟩ := t4 g
        rw [if_neg g, if_neg g, if_neg g, c_lacks wt ct h1 h2 a.1 a.2]
        simp only [Option.bind_some]
        cases hm' : missB T r (c0 (24 + (s + 2)) 4)
        · rw [if_neg (show ¬ (false = true) by decide), if_pos rfl, if_neg (show ¬ (false = true) by decide), c_compareCells wt ct h1 h2 tk0.1 tk0.2 h1 h2 a.1 a.2 hm hm' b]
          simp only [Option.bind_some]
          exact hold7 _
        · rfl
    · rfl
/-- the class: what a step says of all rows -/
theorem c_truthOf {m : aM} {k s : Int} (hk : Ck c0 T u n N) (hf : ∀ y, y ≠ 122 → m y = c0 y) (h : cmR c0 N q k s) : ∃ B, fQ_truthOf m s 4 = some B ∧ BW B (fun r => if (r : Int) < Tr T then tv c0 T u s (r : Int) else 1) := by
  have wt := hk.1.1
  have w2 := wt.2.1
  have e7 : m 12 7 = Tr T := by rw [hf 12 (by decide)]; exact hk.2.1.2.1
  unfold fQ_truthOf fQ_truthOf_6
  refine aLoop_ok (Inv := fun x : Int × Int => 0 ≤ x.2 ∧ x.2 ≤ Tr T ∧ BW x.1 (fun r => if (r : Int) < x.2 then tv c0 T u s (r : Int) else 1)) (μ := fun x => (Tr T - x.2).toNat) (Post := fun B => BW B (fun r => if (r : Int) < Tr T then tv c0 T u s (r : Int) else 1)) ?_ FU (0, 0) ⟨by simp only; omega, by simp only; omega, ?_⟩ (by show _ < 1000000; simp only; omega)
  · rintro ⟨B, x⟩ ⟨g1, g2, g3⟩
    simp only at g1 g2 g3
    unfold fQ_truthOf_6_b
    simp only
    rw [e7]
    by_cases hi : x < Tr T
    · left
      rw [if_pos hi, c_truthIn hk hf h g1 hi]
      simp only [Option.bind_some]
      rw [w32_id (by omega) (by omega)]
      refine ⟨_, rfl, ⟨by simp only; omega, by simp only; omega, ?_⟩, by simp only; omega⟩
      simp only
      refine BW.add (k := x.toNat) (by omega) g3 (if_neg (by omega)) (fun r => ?_)
      by_cases e : r = x.toNat
      · rw [if_pos e, if_pos (by omega), e, show ((x.toNat : Nat) : Int) = x by omega]
      · rw [if_neg e]
        by_cases l : (r : Int) < x
        · rw [if_pos l, if_pos (by omega)]
        · rw [if_neg l, if_neg (by omega)]
    · right
      rw [if_neg hi]
      refine ⟨_, rfl, ?_⟩
      rwa [show x = Tr T by omega] at g3
  · have e : (fun r : Nat => if (r : Int) < 0 then tv c0 T u s (r : Int) else 1) = fun _ => 1 := by
      funext r
      exact if_neg (by omega)
    simp only
    rw [e]
    exact BW.zero
/-- the reference: what a step says of a row -/
theorem r_compared {k s r : Int} (hx : Cx c0 T u n N) (hE : EM q T u n) (h : cmR c0 N q k s) (k0 : 0 ≤ k) (k1 : k < 100) (h11 : c0 (24 + (s + 1)) 3 ≠ 11) (h1 : 0 ≤ r) (h2 : r < Tr T) : fM_compared q k r = some (tv c0 T u s r) := by
  have wt := hx.1
  have w1 := wt.1
  have w2 := wt.2.1
  have mt := hE.2
  have h96 := hE.1.2.2.1
  obtain ⟨tk0, tk1⟩ := cm_tok hx h
  obtain ⟨t7, t4, t5⟩ := tk1 h11
  obtain ⟨s0, s1, s2, s3, s4⟩ := h
  rcases s4 with s4 | ⟨-, s5, s6, s7, s8, s9, s10⟩
  · exact absurd s4.1 h11
  have hold7 (z : Int) : fM_compared_134 q k (sgn z) = some (t2 (hold (c0 (24 + (s + 1)) 7) z)) := by
    unfold fM_compared_134
    rw [gd_pos ⟨k0, k1⟩, s7, r_holds t7.1 t7.2]
    cases hold (c0 (24 + (s + 1)) 7) z <;> rfl
  unfold fM_compared fM_compared_41
  rw [gd_pos ⟨k0, k1⟩, s3, s9, r_isNone wt mt h1 h2 tk0.1 tk0.2]
  simp only [Option.bind_some]
  unfold tv
  rw [if_neg h11]
  cases hm : missB T r (c0 (24 + s) 4)
  · rw [if_neg (show ¬ (false = true) by decide), if_pos rfl, if_neg (show ¬ (false = true) by decide)]
    by_cases g : c0 (24 + (s + 2)) 4 = -1
    · obtain ⟨t6, t8⟩ := t5 g
      obtain ⟨a1, a2, a3⟩ := s10 g
      have g' : c0 (24 + (s + 2)) 4 < 0 := by omega
      obtain ⟨-, -, nm, d⟩ := mt
      obtain ⟨d1, d2, d3, d4, d5, d6⟩ := d r _ h1 h2 tk0.1 tk0.2
      rw [hm] at d4 d6
      rw [if_pos g', if_pos g, if_pos g', gd_pos (by omega), (nm _ tk0.1 tk0.2).2, w32_id (x := 6 * r) (by omega) (by omega), w32_id (x := 6 * r + c0 (24 + s) 4) (by omega) (by omega), gd_pos (by omega), gd_pos ⟨k0, k1⟩, gd_pos (by omega), gd_pos ⟨k0, k1⟩]
      unfold zt
      have tr := ty_rng (T := T) (c := c0 (24 + s) 4)
      by_cases e3 : tyS T (c0 (24 + s) 4) = 3
      · have b := t6 e3
        rw [if_neg (by omega), if_pos e3, d4, if_neg (by decide), a1, a2, w32_id (by omega) (by omega), r_compareTexts (by omega) (by omega) (by omega) (by omega) (by omega) (by omega) (r_chars wt hE.2 h1 h2 tk0.1 tk0.2) (fun j j0 j1 => by
          have e := hE.1.2.1 (j - 240) (by omega) (by omega)
          rw [show 240 + (j - 240) = j by omega] at e
          rw [e]
          have := hE.1.2.2.2 (j - 240) (by omega) (by omega)
          exact ⟨by omega, by omega⟩), d5, show 240 + c0 (24 + (s + 2)) 1 + 1 = 240 + (c0 (24 + (s + 2)) 1 + 1) by omega, show 240 + c0 (24 + (s + 2)) 2 - 1 = 240 + (c0 (24 + (s + 2)) 2 - 1) by omega, usM hE.1 b.1 b.2.2]
        simp only [Option.bind_some]
        exact hold7 _
      · rw [if_pos (by omega), if_neg e3, d6 (by omega), if_neg (by decide), a3 (t8 e3), cv_eq]
        exact hold7 _
    · obtain ⟨a, b⟩ := t4 g
      have g' : ¬ c0 (24 + (s + 2)) 4 < 0 := by omega
      rw [if_neg g', if_neg g, if_neg g', r_isNone wt mt h1 h2 a.1 a.2]
      simp only [Option.bind_some]
      cases hm' : missB T r (c0 (24 + (s + 2)) 4)
      · rw [if_neg (show ¬ (false = true) by decide), if_pos rfl, if_neg (show ¬ (false = true) by decide), r_compareCells wt mt h1 h2 tk0.1 tk0.2 h1 h2 a.1 a.2 hm hm' b]
        simp only [Option.bind_some]
        exact hold7 _
      · rfl
  · rfl
end
