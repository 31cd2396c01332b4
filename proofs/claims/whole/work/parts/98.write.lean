/-! WRITING: what is put behind what was written -/
/-- where the count stands, where the characters, how many may stand, what else may change -/
abbrev wO : Type := Int × Int × Int × Int × (Int → Int → Prop)
def oC : wO := (6, 1, 7, 700, fun _ _ => False)
def oM : wO := (130, 45, 155, 2000, scr)
/-- all but the writing is as it was -/
def Ag (o : wO) (m m' : aM) : Prop := ∀ y j, ¬ (y = o.1 ∧ j = o.2.1) → y ≠ o.2.2.1 → ¬ o.2.2.2.2 y j → m' y j = m y j
def App (o : wO) (m m' : aM) (l : List Int) : Prop := m' o.1 o.2.1 = m o.1 o.2.1 + (l.length : Int) ∧ (∀ j, j < m o.1 o.2.1 → m' o.2.2.1 j = m o.2.2.1 j) ∧ (∀ i : Nat, i < l.length → m' o.2.2.1 (m o.1 o.2.1 + (i : Int)) = l.getD i 0) ∧ Ag o m m'
theorem Ag.rf {o : wO} {m : aM} : Ag o m m := fun _ _ _ _ _ => rfl
theorem Ag.tr {o : wO} {m m1 m2 : aM} (h1 : Ag o m m1) (h2 : Ag o m1 m2) : Ag o m m2 := fun y j a b c => (h2 y j a b c).trans (h1 y j a b c)
theorem App.nil {o : wO} {m : aM} : App o m m [] := ⟨by simp, fun _ _ => rfl, fun i h => absurd h (Nat.not_lt_zero _), Ag.rf⟩
theorem App.app {o : wO} {m m1 m2 : aM} {l1 l2 : List Int} (h1 : App o m m1 l1) (h2 : App o m1 m2 l2) : App o m m2 (l1 ++ l2) := by
  obtain ⟨a1, a2, a3, a4⟩ := h1
  obtain ⟨b1, b2, b3, b4⟩ := h2
  refine ⟨?_, fun j hj => ?_, fun i hi => ?_, a4.tr b4⟩
  · rw [b1, a1, List.length_append]; omega
  · rw [b2 j (by omega), a2 j hj]
  · rw [List.length_append] at hi
    by_cases h : i < l1.length
    · rw [b2 _ (by omega), a3 i h, List.getD_eq_getElem?_getD, List.getD_eq_getElem?_getD, List.getElem?_append_left h]
    · have := b3 (i - l1.length) (by omega)
      rw [a1, show m o.1 o.2.1 + (l1.length : Int) + ((i - l1.length : Nat) : Int) = m o.1 o.2.1 + (i : Int) by omega] at this
      rw [this, List.getD_eq_getElem?_getD, List.getD_eq_getElem?_getD, List.getElem?_append_right (by omega)]
/-- f writes l -/
def Wr (o : wO) (m0 : aM) (f : aM → Option aM) (l : List Int) : Prop := ∀ m, Ag o m0 m → 0 ≤ m o.1 o.2.1 → m o.1 o.2.1 + (l.length : Int) ≤ o.2.2.2.1 → ∃ m', f m = some m' ∧ App o m m' l
theorem Wr.nil {o : wO} {m0 : aM} : Wr o m0 (fun m => some m) [] := fun m _ _ _ => ⟨m, rfl, App.nil⟩
theorem Wr.seq {o : wO} {m0 : aM} {f g : aM → Option aM} {l1 l2 : List Int} (h1 : Wr o m0 f l1) (h2 : Wr o m0 g l2) : Wr o m0 (fun m => (f m).bind g) (l1 ++ l2) := by
  intro m ha h0 hr
  rw [List.length_append] at hr
  obtain ⟨m1, e1, p1⟩ := h1 m ha h0 (by omega)
  obtain ⟨m2, e2, p2⟩ := h2 m1 (ha.tr p1.2.2.2) (by rw [p1.1]; omega) (by rw [p1.1]; omega)
  exact ⟨m2, by show (f m).bind g = _; rw [e1]; exact e2, p1.app p2⟩
theorem Wr.congr {o : wO} {m0 : aM} {f g : aM → Option aM} {l : List Int} (h : Wr o m0 g l) (e : ∀ m, Ag o m0 m → f m = g m) : Wr o m0 f l := by
  intro m ha h0 hr
  rw [e m ha]
  exact h m ha h0 hr
theorem Wr.to {o : wO} {m0 : aM} {f : aM → Option aM} {l l' : List Int} (h : Wr o m0 f l) (e : l = l') : Wr o m0 f l' := e ▸ h
/-- from i on, n pieces -/
def cat (l : Int → List Int) : Int → Nat → List Int
  | _, 0 => []
  | i, n + 1 => l i ++ cat l (i + 1) n
theorem Wr.loop {o : wO} {m0 : aM} {b : aM × Int → Option ((aM × Int) ⊕ aM)} {l : Int → List Int} {le : List Int} {n : Int} (hn : 0 ≤ n ∧ n ≤ 1000)
    (hb : ∀ i, 0 ≤ i → i < n → ∀ m, Ag o m0 m → 0 ≤ m o.1 o.2.1 → m o.1 o.2.1 + ((l i).length : Int) ≤ o.2.2.2.1 → ∃ m', b (m, i) = some (Sum.inl (m', i + 1)) ∧ App o m m' (l i))
    (he : ∀ m, Ag o m0 m → 0 ≤ m o.1 o.2.1 → m o.1 o.2.1 + (le.length : Int) ≤ o.2.2.2.1 → ∃ m', b (m, n) = some (Sum.inr m') ∧ App o m m' le) : Wr o m0 (fun m => aLoop b FU (m, 0)) (cat l 0 n.toNat ++ le) := by
  have key : ∀ (k : Nat) (i : Int) (f : Nat), 0 ≤ i → i + (k : Int) = n → k < f → ∀ m, Ag o m0 m → 0 ≤ m o.1 o.2.1 → m o.1 o.2.1 + (((cat l i k) ++ le).length : Int) ≤ o.2.2.2.1 → ∃ m', aLoop b f (m, i) = some m' ∧ App o m m' (cat l i k ++ le) := by
    intro k
    induction k with
    | zero =>
      intro i f h0 hi hf m ha hm hr
      obtain ⟨f, rfl⟩ : ∃ g, f = g + 1 := ⟨f - 1, by omega⟩
      have hin : i = n := by omega
      subst hin
      obtain ⟨m', e, p⟩ := he m ha hm hr
      exact ⟨m', aL_end e, p⟩
    | succ k ih =>
      intro i f h0 hi hf m ha hm hr
      obtain ⟨f, rfl⟩ : ∃ g, f = g + 1 := ⟨f - 1, by omega⟩
      have hr' : m o.1 o.2.1 + (((l i ++ cat l (i + 1) k) ++ le).length : Int) ≤ o.2.2.2.1 := hr
      rw [List.append_assoc, List.length_append] at hr'
      obtain ⟨m1, e, p⟩ := hb i h0 (by omega) m ha hm (by omega)
      obtain ⟨m2, e2, p2⟩ := ih (i + 1) f (by omega) (by omega) (by omega) m1 (ha.tr p.2.2.2) (by rw [p.1]; omega) (by rw [p.1]; omega)
      refine ⟨m2, (aL_go e).trans e2, ?_⟩
      show App o m m2 ((l i ++ cat l (i + 1) k) ++ le)
      rw [List.append_assoc]
      exact p.app p2
  intro m ha hm hr
  exact key n.toNat 0 FU (by omega) (by omega) (by show n.toNat < 1000000; omega) m ha hm hr
/-- a character, by the class -/
theorem wC_add {m0 : aM} {c : Int} (hc : 0 ≤ c ∧ c ≤ 255) : Wr oC m0 (fun m => fC_add m 6 c) [c] := by
  intro m ha h0 hr
  have h0 : 0 ≤ m 6 1 := h0
  have hr : m 6 1 + 1 ≤ 700 := hr
  refine ⟨_, c_add (m := m) (x := 6) (c := c) h0 (show m 6 1 < 700 by omega) (by decide) hc, ?_⟩
  refine ⟨?_, fun j hj => ?_, fun i hi => ?_, fun y j a b _ => ?_⟩
  · show mup (mup m 7 (m 6 1) c) 6 1 (m 6 1 + 1) 6 1 = m 6 1 + 1
    exact mup_same _ _ _ _
  · have hj : j < m 6 1 := hj
    show mup (mup m 7 (m 6 1) c) 6 1 (m 6 1 + 1) 7 j = m 7 j
    rw [mup_ref (by decide), mup_idx (by omega)]
  · have hi : i < 1 := hi
    obtain rfl : i = 0 := by omega
    show mup (mup m 7 (m 6 1) c) 6 1 (m 6 1 + 1) 7 (m 6 1 + ((0 : Nat) : Int)) = c
    rw [mup_ref (by decide), show m 6 1 + ((0 : Nat) : Int) = m 6 1 by omega, mup_same]
  · have a : ¬ (y = 6 ∧ j = 1) := a
    have b : y ≠ 7 := b
    show mup (mup m 7 (m 6 1) c) 6 1 (m 6 1 + 1) y j = m y j
    exact (if_neg a).trans (mup_ref b)
/-- .. by the reference -/
theorem wM_say {m0 : aM} {c : Int} : Wr oM m0 (fun m => fM_say m c) [c] := by
  intro m ha h0 hr
  have h0 : 0 ≤ m 130 45 := h0
  have hr : m 130 45 + 1 ≤ 2000 := hr
  refine ⟨mup (mup m 155 (m 130 45) c) 130 45 (m 130 45 + 1), ?_, ?_⟩
  · show fM_say m c = _
    unfold fM_say
    rw [gd_pos (by omega), w32_id (by omega) (by omega)]
  refine ⟨?_, fun j hj => ?_, fun i hi => ?_, fun y j a b _ => ?_⟩
  · show mup (mup m 155 (m 130 45) c) 130 45 (m 130 45 + 1) 130 45 = m 130 45 + 1
    exact mup_same _ _ _ _
  · have hj : j < m 130 45 := hj
    show mup (mup m 155 (m 130 45) c) 130 45 (m 130 45 + 1) 155 j = m 155 j
    rw [mup_ref (by decide), mup_idx (by omega)]
  · have hi : i < 1 := hi
    obtain rfl : i = 0 := by omega
    show mup (mup m 155 (m 130 45) c) 130 45 (m 130 45 + 1) 155 (m 130 45 + ((0 : Nat) : Int)) = c
    rw [mup_ref (by decide), show m 130 45 + ((0 : Nat) : Int) = m 130 45 by omega, mup_same]
  · have a : ¬ (y = 130 ∧ j = 45) := a
    have b : y ≠ 155 := b
    show mup (mup m 155 (m 130 45) c) 130 45 (m 130 45 + 1) y j = m y j
    exact (if_neg a).trans (mup_ref b)
/-! words -/
theorem cat_list {s : List Int} : ∀ (k : Nat) (i : Nat), i + k = s.length → cat (fun i => [s.getD i.toNat 0]) (i : Int) k = s.drop i := by
  intro k
  induction k with
  | zero => intro i h; rw [List.drop_eq_nil_of_le (by omega)]; rfl
  | succ k ih =>
    intro i h
    show [s.getD ((i : Int)).toNat 0] ++ cat _ ((i : Int) + 1) k = _
    rw [drop_cons (show i < s.length by omega), show ((i : Int)).toNat = i by omega, show (i : Int) + 1 = ((i + 1 : Nat) : Int) by omega, ih (i + 1) (by omega)]
    rfl
theorem wC_word {m0 : aM} {k : Int} (hk : 0 ≤ k ∧ k < 18) (hs : ∀ c ∈ kS k, 0 ≤ c ∧ c ≤ 255) : Wr oC m0 (fun m => fC_addWord m 6 k) (kS k) := by
  have hl := kS_short' hk.1 hk.2
  have := Wr.loop (o := oC) (m0 := m0) (b := fC_addWord_2_b 6 k) (l := fun i => [(kS k).getD i.toNat 0]) (le := []) (n := ((kS k).length : Int)) (by omega) (by
    intro i h0 h1 m ha hm hr
    have hmem : (kS k).getD i.toNat 0 ∈ kS k := by
      rw [List.getD_eq_getElem?_getD, List.getElem?_eq_getElem (show i.toNat < (kS k).length by omega)]
      exact List.getElem_mem _
    obtain ⟨m', e, p⟩ := wC_add (m0 := m0) (hs _ hmem) m ha hm hr
    refine ⟨m', ?_, p⟩
    unfold fC_addWord_2_b
    simp only
    rw [jlen' hk.1 hk.2, if_pos h1, jchar' hk.1 hk.2 h0 h1, w32_id (by omega) (by omega)]
    simp only [Option.bind_some]
    have e : fC_add m 6 ((kS k).getD i.toNat 0) = some m' := e
    rw [e]
    rfl) (by
    intro m ha hm hr
    refine ⟨m, ?_, App.nil⟩
    unfold fC_addWord_2_b
    simp only
    rw [jlen' hk.1 hk.2, if_neg (by omega)])
  refine (this.to ?_)
  rw [List.append_nil, show ((((kS k).length : Nat) : Int)).toNat = (kS k).length by omega]
  have := cat_list (s := kS k) (kS k).length 0 (by omega)
  rw [List.drop_zero] at this
  exact this
/-- a word out of its long -/
theorem wM_word {m0 : aM} {s : List Int} (hs : ∀ c ∈ s, 1 ≤ c ∧ c ≤ 127) (hl : s.length ≤ 8) : Wr oM m0 (fun m => fM_sayWord m (pk8 s)) s := by
  have key : ∀ (s : List Int) (f : Nat), (∀ c ∈ s, 1 ≤ c ∧ c ≤ 127) → s.length ≤ 8 → s.length < f → ∀ m, Ag oM m0 m → 0 ≤ m 130 45 → m 130 45 + (s.length : Int) ≤ 2000 → ∃ m', aLoop fM_sayWord_2_b f (m, pk8 s) = some m' ∧ App oM m m' s := by
    intro s
    induction s with
    | nil =>
      intro f _ _ hf m ha hm hr
      obtain ⟨f, rfl⟩ : ∃ g, f = g + 1 := ⟨f - 1, by simp at hf; omega⟩
      exact ⟨m, aL_end rfl, App.nil⟩
    | cons c r ih =>
      intro f hs hl hf m ha hm hr
      obtain ⟨f, rfl⟩ : ∃ g, f = g + 1 := ⟨f - 1, by simp at hf; omega⟩
      rw [List.length_cons] at hl hf hr
      have hc := hs c List.mem_cons_self
      have hr8 := pk8_rng (s := c :: r) (fun c hc => by have := hs c hc; omega)
      have hrr := pk8_rng (s := r) (fun c hc => by have := hs c (List.mem_cons_of_mem _ hc); omega)
      have hp : (256 : Int) ^ (c :: r).length ≤ 256 ^ 8 := p256_mono (by rw [List.length_cons]; omega)
      have h8 : (256 : Int) ^ 8 = 18446744073709551616 := by decide
      have epk : pk8 (c :: r) = c + 256 * pk8 r := rfl
      obtain ⟨m1, e, p⟩ := wM_say (m0 := m0) (c := c) m ha hm (show m 130 45 + 1 ≤ 2000 by omega)
      have e : fM_say m c = some m1 := e
      have hb : fM_sayWord_2_b (m, pk8 (c :: r)) = some (Sum.inl (m1, pk8 r)) := by
        unfold fM_sayWord_2_b
        simp only
        rw [if_neg (fun h => by have := cmp3_eq0.mp h; omega), lAnd255, show pk8 (c :: r) % 256 = c by rw [epk]; omega, w32_id (by omega) (by omega), e]
        simp only [Option.bind_some]
        rw [lShr_div (k := 8) (by decide) rfl ⟨by omega, by omega⟩]
        congr 3
        rw [epk]
        show (c + 256 * pk8 r) / 256 = pk8 r
        omega
      have p1 : m1 130 45 = m 130 45 + 1 := p.1
      obtain ⟨m2, e2, p2⟩ := ih f (fun c hc => hs c (List.mem_cons_of_mem _ hc)) (by omega) (by omega) m1 (ha.tr p.2.2.2) (by omega) (by omega)
      exact ⟨m2, (aL_go hb).trans e2, p.app p2⟩
  intro m ha hm hr
  exact key s FU hs hl (by show s.length < 1000000; omega) m ha hm hr
