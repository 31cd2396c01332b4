/-! ASK: the class puts rows together -/
def seg (m : aM) (y : Int) : Int → List Int → Prop
  | _, [] => True
  | x, r :: g => m y x = r ∧ seg m y (x + 1) g
theorem seg_of {m m' : aM} {y : Int} : ∀ {g : List Int} {x : Int}, (∀ j, x ≤ j → j < x + (g.length : Int) → m' y j = m y j) → seg m y x g → seg m' y x g
  | [], _, _, _ => trivial
  | r :: g, x, e, h => ⟨by rw [e x (by omega) (by simp only [List.length_cons]; omega)]; exact h.1, seg_of (fun j a b => e j (by omega) (by simp only [List.length_cons]; omega)) h.2⟩
theorem seg_app {m : aM} {y : Int} : ∀ {g h : List Int} {x : Int}, seg m y x (g ++ h) → seg m y x g ∧ seg m y (x + (g.length : Int)) h
  | [], h, x, H => ⟨trivial, by rw [show x + (([] : List Int).length : Int) = x by simp]; exact H⟩
  | r :: g, h, x, H => by
    have := seg_app (g := g) (h := h) H.2
    refine ⟨⟨H.1, this.1⟩, ?_⟩
    rw [show x + ((r :: g).length : Int) = x + 1 + (g.length : Int) by simp only [List.length_cons]; omega]
    exact this.2
theorem lst_seg {m : aM} {y : Int} (l : List Int) : lst m y l.reverse → seg m y 0 l := by
  intro h
  have get := lst_get l h
  have key : ∀ (g pre : List Int), l = pre ++ g → seg m y (pre.length : Int) g := by
    intro g
    induction g with
    | nil => exact fun _ _ => trivial
    | cons r g ih =>
      intro pre e
      refine ⟨?_, ?_⟩
      · rw [get pre.length (by rw [e, List.length_append]; simp only [List.length_cons]; omega), e, List.getD_eq_getElem?_getD, List.getElem?_append_right (Nat.le_refl _), Nat.sub_self]
        rfl
      · have := ih (pre ++ [r]) (by rw [e, List.append_assoc]; rfl)
        rw [List.length_append] at this
        simpa using this
  exact key l [] rfl
abbrev lnP (l y j : Int) : Prop := 125 ≤ y ∧ y ≤ 129 ∧ j = l
theorem ln_row {l : Int} {m m' : aM} (f : Fr (lnP l) m m') {y : Int} (h : ¬ (125 ≤ y ∧ y ≤ 129)) : m' y = m y := by
  funext j
  exact f y j (fun e => h ⟨e.1, e.2.1⟩)
abbrev smP (l y j : Int) : Prop := (y = 128 ∨ y = 129) ∧ j = l
theorem sm_row {l : Int} {m m' : aM} (f : Fr (smP l) m m') {y : Int} (h : ¬ (y = 128 ∨ y = 129)) : m' y = m y := by
  funext j
  exact f y j (fun e => h e.1)
section
variable {T : Tb} {c l x3 : Int}
theorem sum_loop (wt : WT T) (c0 : 0 ≤ c) (c1 : c < Tn T) (ht : tyS T c ≤ 1) (l0 : 0 ≤ l) (l1 : l < 16) (h3 : x3 ≤ 16) : ∀ (g : List Int) (m : aM) (x : Int) (f : Nat) (s : Int) (b : Bool), seg m 124 x g → x + (g.length : Int) = x3 → 0 ≤ x → (∀ r ∈ g, 0 ≤ r ∧ r < Tr T) → CT m T → m 123 2 = c → m 128 l = s → m 129 l = (if b then 0 else 1) → g.length < f →
    ∃ k m', aLoop (fA_sumUp_17_b l x3) f (m, x) = some (k, m') ∧ Fr (smP l) m m' ∧ ((∃ s' b', g.foldl (sumS T c) (some (s, b)) = some (s', b') ∧ k = 1 ∧ m' 128 l = s' ∧ m' 129 l = if b' then 0 else 1) ∨ (g.foldl (sumS T c) (some (s, b)) = none ∧ k = 0)) := by
  intro g
  induction g with
  | nil =>
    intro m x f s b _ hx x0 _ ct h2 hs hb hf
    obtain ⟨f, rfl⟩ : ∃ g, f = g + 1 := ⟨f - 1, by simp only [List.length_nil] at hf; omega⟩
    refine ⟨1, m, aL_end ?_, Fr.rf, Or.inl ⟨s, b, rfl, rfl, hs, hb⟩⟩
    unfold fA_sumUp_17_b
    simp only [List.length_nil] at hx ⊢
    rw [if_neg (by omega)]
  | cons r g ih =>
    intro m x f s b hg hx x0 hr ct h2 hs hb hf
    simp only [List.length_cons] at hx hf
    obtain ⟨f, rfl⟩ : ∃ g, f = g + 1 := ⟨f - 1, by omega⟩
    have rr := hr r (List.mem_cons_self ..)
    have hr' : ∀ r ∈ g, 0 ≤ r ∧ r < Tr T := fun r h => hr r (List.mem_cons_of_mem _ h)
    have e124 := hg.1
    show ∃ k m', _ ∧ _ ∧ ((∃ s' b', g.foldl (sumS T c) (sumS T c (some (s, b)) r) = some (s', b') ∧ _) ∨ (g.foldl (sumS T c) (sumS T c (some (s, b)) r) = none ∧ _))
    have es : sumS T c (some (s, b)) r = if missB T r c then some (s, b) else if (valS (Tt T r c) < 0 ∧ s < w64 (s + valS (Tt T r c))) ∨ (0 ≤ valS (Tt T r c) ∧ w64 (s + valS (Tt T r c)) < s) then none else some (w64 (s + valS (Tt T r c)), true) := rfl
    rw [es]
    cases hm : missB T r c
    · rw [if_neg (by decide)]
      have sh : shapeS (Tt T r c) ≠ 3 := fit_shape (fit_ty wt rr.1 rr.2 hm (by omega)) (by omega)
      obtain ⟨v, hv⟩ : ∃ v, v = valS (Tt T r c) := ⟨_, rfl⟩
      have body : fA_sumUp_17_b l x3 (m, x) = if (v < 0 ∧ s < w64 (s + v)) ∨ (0 ≤ v ∧ w64 (s + v) < s) then some (Sum.inr (0, m)) else some (Sum.inl (mup (mup m 128 l (w64 (s + v))) 129 l 0, x + 1)) := by
        unfold fA_sumUp_17_b fA_sumUp_107
        simp only
        rw [if_pos (by omega), gd_pos (by omega), e124, h2, c_lacks wt ct rr.1 rr.2 c0 c1, hm]
        simp only [Option.bind_some]
        rw [if_pos (by rfl), c_valueAt wt ct rr.1 rr.2 c0 c1, if_neg sh, ← hv]
        simp only [Option.bind_some]
        rw [gd_pos ⟨l0, l1⟩, gd_pos ⟨l0, l1⟩, hs, w32_id (by omega) (by omega)]
        by_cases vn : v < 0
        · rw [if_pos (cmp3_lt0.mpr vn)]
          by_cases o : s < w64 (s + v)
          · rw [if_pos (cmp3_gt0.mpr o), if_pos (Or.inl ⟨vn, o⟩)]
          · rw [if_neg (fun g => o (cmp3_gt0.mp g)), if_neg (by omega)]
        · rw [if_neg (fun g => vn (cmp3_lt0.mp g))]
          by_cases o : w64 (s + v) < s
          · rw [if_pos (cmp3_lt0.mpr o), if_pos (Or.inr ⟨by omega, o⟩)]
          · rw [if_neg (fun g => o (cmp3_lt0.mp g)), if_neg (by omega)]
      rw [← hv]
      by_cases bad : (v < 0 ∧ s < w64 (s + v)) ∨ (0 ≤ v ∧ w64 (s + v) < s)
      · rw [if_pos bad] at body ⊢
        exact ⟨0, m, aL_end body, Fr.rf, Or.inr ⟨sum_none g, rfl⟩⟩
      · rw [if_neg bad] at body ⊢
        have fr : Fr (smP l) m (mup (mup m 128 l (w64 (s + v))) 129 l 0) := (Fr.rf.up ⟨Or.inl rfl, rfl⟩).up ⟨Or.inr rfl, rfl⟩
        obtain ⟨k, m', e, f', h⟩ := ih _ (x + 1) f (w64 (s + v)) true (seg_of (fun j _ _ => by rw [sm_row fr (by decide)]) hg.2) (by omega) (by omega) hr' (ct.row (fun y a b => sm_row fr (by omega))) (by rw [sm_row fr (by decide)]; exact h2) (by rw [mup_ref (by decide), mup_same]) (by rw [mup_same]; rfl) (by omega)
        exact ⟨k, m', (aL_go body).trans e, fr.tr f', h⟩
    · rw [if_pos rfl]
      have body : fA_sumUp_17_b l x3 (m, x) = some (Sum.inl (m, x + 1)) := by
        unfold fA_sumUp_17_b
        simp only
        rw [if_pos (by omega), gd_pos (by omega), e124, h2, c_lacks wt ct rr.1 rr.2 c0 c1, hm]
        simp only [Option.bind_some]
        rw [if_neg (by decide), w32_id (by omega) (by omega)]
      obtain ⟨k, m', e, f', h⟩ := ih m (x + 1) f s b hg.2 (by omega) (by omega) hr' ct h2 hs hb (by omega)
      exact ⟨k, m', (aL_go body).trans e, f', h⟩
theorem best_loop {m : aM} {kd : Int} (wt : WT T) (ct : CT m T) (c0 : 0 ≤ c) (c1 : c < Tn T) (h1 : m 123 1 = kd) (h2 : m 123 2 = c) (h3 : x3 ≤ 16) : ∀ (g : List Int) (b x : Int) (f : Nat), seg m 124 x g → x + (g.length : Int) = x3 → 0 ≤ x → (∀ r ∈ g, 0 ≤ r ∧ r < Tr T) → (b = -1 ∨ (0 ≤ b ∧ b < Tr T ∧ missB T b c = false)) → g.length < f →
    ∃ f', 0 < f' ∧ aLoop (fA_findBest_6_b m l x3) f (b, x) = aLoop (fA_findBest_6_b m l x3) f' (g.foldl (bestS T c kd) b, x3) := by
  intro g
  induction g with
  | nil =>
    intro b x f _ hx _ _ _ hf
    simp only [List.length_nil] at hx hf
    exact ⟨f, by omega, by rw [show x = x3 by omega]; rfl⟩
  | cons r g ih =>
    intro b x f hg hx x0 hr hb hf
    simp only [List.length_cons] at hx hf
    obtain ⟨f, rfl⟩ : ∃ g, f = g + 1 := ⟨f - 1, by omega⟩
    have rr := hr r (List.mem_cons_self ..)
    have e124 := hg.1
    have body : fA_findBest_6_b m l x3 (b, x) = some (Sum.inl (bestS T c kd b r, x + 1)) := by
      unfold fA_findBest_6_b fA_findBest_66
      simp only
      rw [if_pos (by omega), gd_pos (by omega), gd_pos (by omega), e124, h2, c_lacks wt ct rr.1 rr.2 c0 c1, w32_id (by omega) (by omega), h1]
      simp only [Option.bind_some]
      unfold bestS
      cases hm : missB T r c
      · rw [if_pos (by rfl), if_neg (show ¬ (false = true) by decide)]
        by_cases b1 : b = -1
        · rw [if_pos b1, if_pos b1, if_pos b1]
        · have hb' := hb.resolve_left b1
          rw [if_neg b1, if_neg b1, c_compareCells wt ct rr.1 rr.2 c0 c1 hb'.1 hb'.2.1 c0 c1 hm hb'.2.2 Iff.rfl]
          simp only [Option.bind_some]
          rw [if_neg b1]
          by_cases k4 : kd = 4
          · rw [if_pos k4]
            by_cases z : zc T r c b c < 0
            · rw [if_pos z, if_pos (Or.inl ⟨k4, z⟩)]
            · rw [if_neg z, if_neg (by omega)]
          · rw [if_neg k4]
            by_cases z : 0 < zc T r c b c
            · rw [if_pos z, if_pos (Or.inr ⟨k4, z⟩)]
            · rw [if_neg z, if_neg (by omega)]
      · rw [if_neg (show ¬ ((if true = true then (1 : Int) else 0) = 0) by decide), if_pos rfl]
    obtain ⟨f', f0, e⟩ := ih (bestS T c kd b r) (x + 1) f hg.2 (by omega) (by omega) (fun r h => hr r (List.mem_cons_of_mem _ h)) (by
      rcases bestS_rng (T := T) (c := c) (kd := kd) (b := b) (r := r) with e | ⟨e, e2⟩
      · rw [e]; exact hb
      · rw [e]; exact Or.inr ⟨rr.1, rr.2, e2⟩) (by omega)
    exact ⟨f', f0, (aL_go body).trans e⟩
/-- what a line of the class holds of a group -/
def LCl (T : Tb) (kd c : Int) (m : aM) (l : Int) (g : List Int) : Prop := m 125 l = (g.length : Int) ∧ (g ≠ [] → m 126 l = rep g) ∧ (kd = 2 → m 128 l = (g.length : Int) ∧ m 129 l = 0) ∧ (kd = 3 → ∃ s b, sumG T c g = some (s, b) ∧ m 129 l = (if b then 0 else 1) ∧ m 128 l = s) ∧ (4 ≤ kd → m 127 l = bestG T c kd g ∧ m 129 l = (if bestG T c kd g = -1 then 1 else 0) ∧ (bestG T c kd g ≠ -1 → m 128 l = if shapeS (Tt T (bestG T c kd g) c) = 3 then 0 else valS (Tt T (bestG T c kd g) c)))
theorem LCl.of {kd : Int} {m m' : aM} {g : List Int} (h : LCl T kd c m l g) (e : ∀ y, 125 ≤ y → y ≤ 129 → m' y l = m y l) : LCl T kd c m' l g := by
  unfold LCl
  rw [e 125 (by decide) (by decide), e 126 (by decide) (by decide), e 127 (by decide) (by decide), e 128 (by decide) (by decide), e 129 (by decide) (by decide)]
  exact h
abbrev alP (l y j : Int) : Prop := (y = 123 ∧ j = 4) ∨ (125 ≤ y ∧ y ≤ 129 ∧ j = l)
theorem ln_al {m m' : aM} (f : Fr (lnP l) m m') : Fr (alP l) m m' := f.wk (fun y j e => Or.inr e)
theorem al_row {m m' : aM} (f : Fr (alP l) m m') {y : Int} (h1 : y ≠ 123) (h : ¬ (125 ≤ y ∧ y ≤ 129)) : m' y = m y := by
  funext j
  exact f y j (fun e => by omega)
theorem c_addLine {m : aM} {kd a b : Int} {g : List Int} (wt : WT T) (ct : CT m T) (h1 : m 123 1 = kd) (h2 : m 123 2 = c) (hk : 2 ≤ kd ∧ kd ≤ 5) (hc : 3 ≤ kd → 0 ≤ c ∧ c < Tn T) (h3 : kd = 3 → tyS T c ≤ 1) (h4 : m 123 4 = l) (l0 : 0 ≤ l) (l1 : l < 16) (hg : seg m 124 a g) (a0 : 0 ≤ a) (hb : a + (g.length : Int) = b) (b16 : b ≤ 16) (hr : ∀ r ∈ g, 0 ≤ r ∧ r < Tr T) : ∃ k m', fA_addLine m a b = some (k, m') ∧ Fr (alP l) m m' ∧ ((k = 0 ∧ kd = 3 ∧ sumG T c g = none) ∨ (k = 1 ∧ m' 123 4 = l + 1 ∧ LCl T kd c m' l g)) := by
  have e16 : LEN 126 = 16 := rfl
  have e16' : LEN 129 = 16 := rfl
  obtain ⟨w, ew⟩ : ∃ w, w = if a < b then m 124 a else -1 := ⟨_, rfl⟩
  have hw : g ≠ [] → w = rep g := by
    intro hne
    cases g with
    | nil => exact absurd rfl hne
    | cons r g =>
      simp only [List.length_cons] at hb
      rw [ew, if_pos (by omega), hg.1]
      rfl
  obtain ⟨m1, em1⟩ : ∃ m1, m1 = mup (mup (mup m 123 4 (l + 1)) 125 l (g.length : Int)) 126 l w := ⟨_, rfl⟩
  have f1 : Fr (alP l) m m1 := by
    rw [em1]
    exact ((Fr.rf.up (Or.inl ⟨rfl, rfl⟩)).up (Or.inr ⟨by decide, by decide, rfl⟩)).up (Or.inr ⟨by decide, by decide, rfl⟩)
  have e58 : fA_addLine m a b = if m1 123 1 = 2 then gd (0 ≤ l ∧ l < 16) (some ((1, mup (mup m1 128 l (w32 (b - a))) 129 l 0))) else if m1 123 1 = 3 then (fA_sumUp m1 l a b).bind fun v5 => gd (v5.1 = 0 ∨ v5.1 = 1) (some ((v5.1, v5.2))) else (fA_findBest m1 l a b).bind fun v6 => some ((1, v6)) := by
    unfold fA_addLine fA_addLine_58
    have hgl : w32 (b - a) = (g.length : Int) := by rw [w32_id (by omega) (by omega)]; omega
    have hll : w32 (l + 1) = l + 1 := w32_id (by omega) (by omega)
    rw [h4, if_pos l1, gd_pos (show 0 ≤ l ∧ l < 16 from ⟨l0, l1⟩), hll, hgl, e16]
    by_cases hab : a < b
    · rw [if_pos hab] at ew
      rw [if_pos hab, gd_pos (show 0 ≤ a ∧ a < 16 by omega), ← ew, gd_pos (show 0 ≤ l ∧ l < 16 from ⟨l0, l1⟩), ← em1]
    · rw [if_neg hab] at ew
      rw [if_neg hab, ← ew, gd_pos (show 0 ≤ l ∧ l < 16 from ⟨l0, l1⟩), ← em1]
  rw [e58]
  have a1 : m1 123 1 = kd := by rw [em1, mup_ref (by decide), mup_ref (by decide), mup_idx (by decide)]; exact h1
  have a2 : m1 123 2 = c := by rw [em1, mup_ref (by decide), mup_ref (by decide), mup_idx (by decide)]; exact h2
  have a4 : m1 123 4 = l + 1 := by rw [em1, mup_ref (by decide), mup_ref (by decide), mup_same]
  have a5 : m1 125 l = (g.length : Int) := by rw [em1, mup_ref (by decide), mup_same]
  have a6 : m1 126 l = w := by rw [em1, mup_same]
  have ct1 : CT m1 T := ct.row (fun y x z => al_row f1 (by omega) (by omega))
  have hg1 : seg m1 124 a g := seg_of (fun j _ _ => by rw [al_row f1 (by decide) (by decide)]) hg
  rw [a1]
  by_cases k2 : kd = 2
  · rw [if_pos k2, gd_pos ⟨l0, l1⟩, w32_id (by omega) (by omega), show b - a = (g.length : Int) by omega]
    refine ⟨1, _, rfl, (f1.up (Or.inr ⟨by decide, by decide, rfl⟩)).up (Or.inr ⟨by decide, by decide, rfl⟩), Or.inr ⟨rfl, ?_, ?_, ?_, ?_, ?_, ?_⟩⟩
    · rw [mup_ref (by decide), mup_ref (by decide)]; exact a4
    · rw [mup_ref (by decide), mup_ref (by decide)]; exact a5
    · intro hne
      rw [mup_ref (by decide), mup_ref (by decide), a6]; exact hw hne
    · intro _
      exact ⟨by rw [mup_ref (by decide), mup_same], mup_same _ _ _ _⟩
    · omega
    · omega
  rw [if_neg k2]
  have cc := hc (by omega)
  by_cases k3 : kd = 3
  · rw [if_pos k3]
    unfold fA_sumUp
    rw [gd_pos ⟨l0, l1⟩]
    have fr : Fr (smP l) m1 (mup (mup m1 128 l 0) 129 l 1) := (Fr.rf.up ⟨Or.inl rfl, rfl⟩).up ⟨Or.inr rfl, rfl⟩
    obtain ⟨k, m', e, f', h⟩ := sum_loop (x3 := b) wt cc.1 cc.2 (h3 k3) l0 l1 b16 g (mup (mup m1 128 l 0) 129 l 1) a FU 0 false (seg_of (fun j _ _ => by rw [sm_row fr (by decide)]) hg1) hb a0 hr (ct1.row (fun y x z => sm_row fr (by omega))) (by rw [sm_row fr (by decide)]; exact a2) (by rw [mup_ref (by decide), mup_same]) (by rw [mup_same]; rfl) (by show _ < 1000000; omega)
    have e' : fA_sumUp_17 (mup (mup m1 128 l 0) 129 l 1) l b a = some (k, m') := e
    rw [e']
    simp only [Option.bind_some]
    have fa : Fr (smP l) m1 m' := fr.tr f'
    have fb : Fr (alP l) m1 m' := fa.wk (fun y j e => Or.inr ⟨by omega, by omega, e.2⟩)
    rcases h with ⟨s, bb, g1, g2, g3, g4⟩ | ⟨g1, g2⟩
    · rw [gd_pos (Or.inr g2)]
      refine ⟨k, m', rfl, f1.tr fb, Or.inr ⟨g2, ?_, ?_, ?_, ?_, ?_, ?_⟩⟩
      · rw [sm_row fa (by decide)]; exact a4
      · rw [sm_row fa (by decide)]; exact a5
      · intro hne
        rw [sm_row fa (by decide), a6]; exact hw hne
      · omega
      · intro _
        exact ⟨s, bb, g1, g4, g3⟩
      · omega
    · rw [gd_pos (Or.inl g2)]
      exact ⟨k, m', rfl, f1.tr fb, Or.inl ⟨g2, k3, g1⟩⟩
  · rw [if_neg k3]
    unfold fA_findBest fA_findBest_6
    obtain ⟨f', f0, e⟩ := best_loop (l := l) (x3 := b) wt ct1 cc.1 cc.2 a1 a2 b16 g (-1) a FU hg1 hb a0 hr (Or.inl rfl) (by show _ < 1000000; omega)
    rw [e]
    obtain ⟨f'', rfl⟩ : ∃ g, f' = g + 1 := ⟨f' - 1, by omega⟩
    obtain ⟨β, hβ⟩ : ∃ β, β = bestG T c kd g := ⟨_, rfl⟩
    have eβ : g.foldl (bestS T c kd) (-1) = β := hβ.symm
    rw [eβ]
    have br := bestG_rng (T := T) (c := c) (kd := kd) g
    rw [← hβ] at br
    -- the end of the search
    have fin (s2 v : Int) (hs : s2 = 0 ∨ s2 = 1) (hv : fT_valueAt (mup (mup m1 127 l β) 129 l s2) β c = some v) : fA_findBest_136 (mup m1 127 l β) l β 129 l s2 = some (mup (mup (mup m1 127 l β) 129 l s2) 128 l v) := by
      unfold fA_findBest_136
      rw [gd_pos hs, e16', gd_pos ⟨l0, l1⟩, mup_ref (show (123 : Int) ≠ 129 by decide), mup_ref (show (123 : Int) ≠ 127 by decide), a2, hv]
      simp only [Option.bind_some]
      rw [gd_pos ⟨l0, l1⟩]
    have body : ∃ v, fA_findBest_6_b m1 l b (β, b) = some (Sum.inr (mup (mup (mup m1 127 l β) 129 l (if β = -1 then 1 else 0)) 128 l v)) ∧ (β ≠ -1 → v = if shapeS (Tt T β c) = 3 then 0 else valS (Tt T β c)) := by
      unfold fA_findBest_6_b
      simp only
      rw [if_neg (by omega), gd_pos ⟨l0, l1⟩]
      by_cases b1 : β = -1
      · refine ⟨0, ?_, fun h => absurd b1 h⟩
        rw [if_pos b1, if_pos b1, fin 1 0 (Or.inr rfl) (by
          unfold fT_valueAt fT_cellAt fT_cellAt_29
          rw [if_pos (show β < 0 by omega), if_pos rfl, if_pos rfl])]
        rfl
      · have br' := br.resolve_left b1
        have rr := hr β br'.1
        refine ⟨_, ?_, fun _ => rfl⟩
        rw [if_neg b1, if_neg b1, fin 0 _ (Or.inl rfl) (c_valueAt wt (ct1.row (fun y x z => by rw [row_up (by omega), row_up (by omega)])) rr.1 rr.2 cc.1 cc.2)]
        rfl
    obtain ⟨v, bd, hv⟩ := body
    rw [aL_end bd]
    refine ⟨1, _, rfl, ((f1.up (Or.inr ⟨by decide, by decide, rfl⟩)).up (Or.inr ⟨by decide, by decide, rfl⟩)).up (Or.inr ⟨by decide, by decide, rfl⟩), Or.inr ⟨rfl, ?_, ?_, ?_, ?_, ?_, ?_⟩⟩
    · rw [mup_ref (by decide), mup_ref (by decide), mup_ref (by decide)]; exact a4
    · rw [mup_ref (by decide), mup_ref (by decide), mup_ref (by decide)]; exact a5
    · intro hne
      rw [mup_ref (by decide), mup_ref (by decide), mup_ref (by decide), a6]; exact hw hne
    · omega
    · omega
    · intro _
      rw [← hβ]
      refine ⟨by rw [mup_ref (by decide), mup_ref (by decide), mup_same], by rw [mup_ref (by decide), mup_same], fun h => ?_⟩
      rw [mup_same]
      exact hv h
end
