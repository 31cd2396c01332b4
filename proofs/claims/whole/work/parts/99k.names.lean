/-! LOAD: names and evenness -/
def rawT (t : Int → Int) (x : tF) : List Int := sl (fun _ => t) 0 x.1 x.2.1
theorem rawC {c : aM} {t : Int → Int} {n : Int} {x : tF} (h : CTx c t n) (h0 : 0 ≤ x.1) (h1 : x.2.1 ≤ n) : sl c 3 x.1 x.2.1 = rawT t x := by
  unfold rawT sl
  refine List.map_congr_left fun k hk => ?_
  rw [List.mem_range] at hk
  exact h.2.1 _ (by omega) (by omega)
theorem rawM {m : aM} {t : Int → Int} {n : Int} {x : tF} (h : MTx m t n) (h0 : 0 ≤ x.1) (h1 : x.2.1 ≤ n) : sl m 131 x.1 x.2.1 = rawT t x := by
  unfold rawT sl
  refine List.map_congr_left fun k hk => ?_
  rw [List.mem_range] at hk
  exact h.2.1 _ (by omega) (by omega)
theorem raw_len {t : Int → Int} {x : tF} (h : x.1 ≤ x.2.1) : ((rawT t x).length : Int) = x.2.1 - x.1 := by
  unfold rawT
  rw [sl_len]
  omega
/-- how far letters go -/
theorem c_letters {m : aM} {x a : Int} (hc : ChR m x) (ha : 0 ≤ a) (han : a ≤ m x 1) : ∃ v, fC_endOfLetters m x a = some v ∧ a ≤ v ∧ v ≤ m x 1 ∧ (∀ j, a ≤ j → j < v → lo (m (x + 1) j) = true) ∧ (v < m x 1 → lo (m (x + 1) v) = false) := by
  have h7 := hc.2.2
  have h6 := hc.2.1
  unfold fC_endOfLetters fC_endOfLetters_2
  refine aLoop_ok (Inv := fun i : Int => a ≤ i ∧ i ≤ m x 1 ∧ ∀ j, a ≤ j → j < i → lo (m (x + 1) j) = true) (μ := fun i => (m x 1 - i).toNat) (Post := fun v => a ≤ v ∧ v ≤ m x 1 ∧ (∀ j, a ≤ j → j < v → lo (m (x + 1) j) = true) ∧ (v < m x 1 → lo (m (x + 1) v) = false)) ?_ FU a ⟨by omega, han, fun j j0 j1 => by omega⟩ (by show (m x 1 - a).toNat < 1000000; omega)
  rintro i ⟨g1, g2, g3⟩
  unfold fC_endOfLetters_2_b
  by_cases hi : i < m x 1
  · rw [if_pos hi, at_eq hc, ca_in (by omega) hi]
    simp only [Option.bind_some]
    rw [xLet]
    by_cases hl : lo (m (x + 1) i) = true
    · left
      rw [if_pos hl, if_neg (by decide), w32_id (by omega) (by omega)]
      refine ⟨_, rfl, ⟨by omega, by omega, fun j j0 j1 => ?_⟩, by omega⟩
      by_cases e : j = i
      · rw [e]; exact hl
      · exact g3 j j0 (by omega)
    · right
      rw [if_neg hl, if_pos rfl]
      exact ⟨_, rfl, g1, g2, g3, fun _ => by simpa using hl⟩
  · right
    rw [if_neg hi]
    exact ⟨_, rfl, g1, g2, g3, fun h => absurd h hi⟩
theorem tc_eq0 {s t : List Int} : tc s t = 0 ↔ s = t := by
  induction s generalizing t with
  | nil =>
    cases t with
    | nil => exact ⟨fun _ => rfl, fun _ => rfl⟩
    | cons b t =>
      show -(((t.length + 1 : Nat)) : Int) = 0 ↔ _
      exact ⟨fun h => by omega, fun h => by cases h⟩
  | cons a s ih =>
    cases t with
    | nil =>
      show ((s.length + 1 : Nat) : Int) = 0 ↔ _
      exact ⟨fun h => by omega, fun h => by cases h⟩
    | cons b t =>
      show (if a - b = 0 then tc s t else a - b) = 0 ↔ _
      by_cases h : a - b = 0
      · rw [if_pos h, ih, show a = b by omega]
        exact ⟨fun e => by rw [e], fun e => by cases e; rfl⟩
      · rw [if_neg h]
        exact ⟨fun e => absurd e h, fun e => by cases e; exact absurd (Int.sub_self a) h⟩
def nameOK (s : List Int) : Prop := 1 ≤ s.length ∧ s.length ≤ 6 ∧ (∀ c ∈ s, lo c = true) ∧ wRes (wordS s) = 0
theorem wordS_rng {s : List Int} : 1 ≤ wordS s ∧ wordS s ≤ 15 := by
  unfold wordS
  have key : ∀ (n : Nat) (k : Int), 1 ≤ k → k + (n : Int) ≤ 16 → 1 ≤ wfind s k n ∧ wfind s k n ≤ 15 := by
    intro n
    induction n with
    | zero => intro k _ _; exact ⟨(by decide : (1 : Int) ≤ 15), (by decide : (15 : Int) ≤ 15)⟩
    | succ n ih =>
      intro k h1 h2
      show 1 ≤ (if s = kS k then k else wfind s (k + 1) n) ∧ (if s = kS k then k else wfind s (k + 1) n) ≤ 15
      split
      · omega
      · exact ih (k + 1) (by omega) (by omega)
  exact key 15 1 (by decide) (by decide)
theorem wfind_hit {s : List Int} : ∀ (n : Nat) (k j : Int), k ≤ j → j < k + (n : Int) → s = kS j → (∀ i, k ≤ i → i < j → s ≠ kS i) → wfind s k n = j := by
  intro n
  induction n with
  | zero => intro k j h1 h2; omega
  | succ n ih =>
    intro k j h1 h2 h3 h4
    show (if s = kS k then k else wfind s (k + 1) n) = j
    by_cases e : k = j
    · subst e; rw [if_pos h3]
    · rw [if_neg (h4 k (by omega) (by omega))]
      exact ih (k + 1) j (by omega) (by omega) h3 (fun i i0 i1 => h4 i (by omega) i1)
theorem wfind_miss {s : List Int} : ∀ (n : Nat) (k : Int), (∀ i, k ≤ i → i < k + (n : Int) → s ≠ kS i) → wfind s k n = 15 := by
  intro n
  induction n with
  | zero => intro k _; rfl
  | succ n ih =>
    intro k h
    show (if s = kS k then k else wfind s (k + 1) n) = 15
    rw [if_neg (h k (by omega) (by omega))]
    exact ih (k + 1) (fun i i0 i1 => h i (by omega) (by omega))
theorem kS_inj : ∀ i j : Fin 16, kS ((i.val : Int)) = kS ((j.val : Int)) → 1 ≤ i.val → 1 ≤ j.val → i = j := by decide +kernel
theorem kS_inj' {i j : Int} (h : kS i = kS j) (i0 : 1 ≤ i) (i1 : i ≤ 15) (j0 : 1 ≤ j) (j1 : j ≤ 15) : i = j := by
  have := kS_inj ⟨i.toNat, by omega⟩ ⟨j.toNat, by omega⟩
  rw [show (((⟨i.toNat, by omega⟩ : Fin 16).val : Nat) : Int) = i by show ((i.toNat : Nat) : Int) = i; omega, show (((⟨j.toNat, by omega⟩ : Fin 16).val : Nat) : Int) = j by show ((j.toNat : Nat) : Int) = j; omega] at this
  have h2 := congrArg Fin.val (this h (by show 1 ≤ i.toNat; omega) (by show 1 ≤ j.toNat; omega))
  have h2 : i.toNat = j.toNat := h2
  omega
/-- a text is word k just if its number is k -/
theorem wordS_iff {s : List Int} {k : Int} (h0 : 1 ≤ k) (h1 : k ≤ 14) : wordS s = k ↔ s = kS k := by
  constructor
  · intro h
    apply Classical.byContradiction
    intro hne
    by_cases hex : ∃ j, 1 ≤ j ∧ j ≤ 15 ∧ s = kS j
    · obtain ⟨j, j0, j1, hj⟩ := hex
      have : wordS s = j := wfind_hit 15 1 j j0 (by omega) hj (fun i i0 i1 e => by
        have := kS_inj' (hj.symm.trans e) j0 j1 i0 (by omega)
        omega)
      rw [this] at h
      subst h
      exact hne hj
    · have : wordS s = 15 := wfind_miss 15 1 (fun i i0 i1 e => hex ⟨i, i0, by omega, e⟩)
      omega
  · intro h
    exact wfind_hit 15 1 k h0 (by omega) h (fun i i0 i1 e => by
      have := kS_inj' (h.symm.trans e) h0 (by omega) i0 (by omega)
      omega)
theorem kS_pk : pk8 (kS 6) = 31074 ∧ pk8 (kS 7) = 435710945399 ∧ pk8 (kS 8) = 6581857 ∧ pk8 (kS 9) = 29295 ∧ pk8 (kS 10) = 7630702 ∧ pk8 (kS 11) = 29545 ∧ pk8 (kS 12) = 1819047278 ∧ pk8 (kS 13) = 491327353455 ∧ pk8 (kS 14) = 1668506980 ∧ pk8 (kS 1) = 1937207154 ∧ pk8 (kS 2) = 500069396323 ∧ pk8 (kS 3) = 7173491 ∧ pk8 (kS 4) = 500151969132 ∧ pk8 (kS 5) = 1953722221 := by decide +kernel
theorem kS_pos : ∀ k : Fin 16, ∀ c ∈ kS (k.val : Int), 1 ≤ c ∧ c ≤ 255 := by decide +kernel
theorem kS_pos' {k : Int} (h0 : 0 ≤ k) (h1 : k < 16) : ∀ c ∈ kS k, 1 ≤ c ∧ c ≤ 255 := by
  have := kS_pos ⟨k.toNat, by omega⟩
  rw [show (((⟨k.toNat, by omega⟩ : Fin 16).val : Nat) : Int) = k by show ((k.toNat : Nat) : Int) = k; omega] at this
  exact this
theorem pk_word {s : List Int} (hs : ∀ c ∈ s, lo c = true) {k : Int} (h0 : 1 ≤ k) (h1 : k ≤ 14) : pk8 s = pk8 (kS k) ↔ wordS s = k := by
  rw [wordS_iff h0 h1]
  exact ⟨fun h => pk8_inj (fun c hc => by have := lo_iff.mp (hs c hc); omega) (kS_pos' (by omega) (by omega)) h, fun h => by rw [h]⟩
theorem r_taken {s : List Int} (hs : ∀ c ∈ s, lo c = true) : fM_isTaken (pk8 s) = wRes (wordS s) := by
  obtain ⟨p6, p7, p8, p9, p10, p11, p12, p13, p14, -⟩ := kS_pk
  unfold fM_isTaken wRes
  rw [← p6, ← p7, ← p8, ← p9, ← p10, ← p11, ← p12, ← p13, ← p14]
  have q (k : Int) (h0 : 1 ≤ k) (h1 : k ≤ 14) : cmp3 (pk8 s) (pk8 (kS k)) = 0 ↔ wordS s = k := cmp3_eq0.trans (pk_word hs h0 h1)
  by_cases h6 : wordS s = 6
  · rw [if_pos ((q 6 (by decide) (by decide)).mpr h6), if_pos (by omega)]
  rw [if_neg (fun h => h6 ((q 6 (by decide) (by decide)).mp h))]
  by_cases h7 : wordS s = 7
  · rw [if_pos ((q 7 (by decide) (by decide)).mpr h7), if_pos (by omega)]
  rw [if_neg (fun h => h7 ((q 7 (by decide) (by decide)).mp h))]
  by_cases h8 : wordS s = 8
  · rw [if_pos ((q 8 (by decide) (by decide)).mpr h8), if_pos (by omega)]
  rw [if_neg (fun h => h8 ((q 8 (by decide) (by decide)).mp h))]
  by_cases h9 : wordS s = 9
  · rw [if_pos ((q 9 (by decide) (by decide)).mpr h9), if_pos (by omega)]
  rw [if_neg (fun h => h9 ((q 9 (by decide) (by decide)).mp h))]
  by_cases h10 : wordS s = 10
  · rw [if_pos ((q 10 (by decide) (by decide)).mpr h10), if_pos (by omega)]
  rw [if_neg (fun h => h10 ((q 10 (by decide) (by decide)).mp h))]
  by_cases h11 : wordS s = 11
  · rw [if_pos ((q 11 (by decide) (by decide)).mpr h11), if_pos (by omega)]
  rw [if_neg (fun h => h11 ((q 11 (by decide) (by decide)).mp h))]
  by_cases h12 : wordS s = 12
  · rw [if_pos ((q 12 (by decide) (by decide)).mpr h12), if_pos (by omega)]
  rw [if_neg (fun h => h12 ((q 12 (by decide) (by decide)).mp h))]
  by_cases h13 : wordS s = 13
  · rw [if_pos ((q 13 (by decide) (by decide)).mpr h13), if_pos (by omega)]
  rw [if_neg (fun h => h13 ((q 13 (by decide) (by decide)).mp h))]
  by_cases h14 : wordS s = 14
  · rw [if_pos ((q 14 (by decide) (by decide)).mpr h14), if_pos (by omega)]
  rw [if_neg (fun h => h14 ((q 14 (by decide) (by decide)).mp h)), if_neg (by omega)]
theorem c_isName {c : aM} {t : Int → Int} {n : Int} {x : tF} (h : CTx c t n) (h0 : 0 ≤ x.1) (h1 : x.1 ≤ x.2.1) (h2 : x.2.1 ≤ n) : ∃ v, fR_isName c 2 x.1 x.2.1 = some v ∧ (v = 0 ∨ v = 1) ∧ (v = 1 ↔ nameOK (rawT t x)) := by
  obtain ⟨e1, e2, e3, e4⟩ := id h
  have hR : ChR c 2 := ⟨by omega, by rw [e1]; exact e4, by decide⟩
  have hl := raw_len (t := t) h1
  have hraw := rawC h h0 h2
  unfold fR_isName nameOK
  by_cases q1 : x.1 < x.2.1
  · rw [if_pos q1, w32_id (by omega) (by omega)]
    by_cases q2 : 6 < x.2.1 - x.1
    · rw [if_pos q2]
      exact ⟨0, rfl, Or.inl rfl, fun h => absurd h (by decide), fun h => by omega⟩
    · rw [if_neg q2]
      obtain ⟨v, v1, v2, v3, v4, v5⟩ := c_letters hR h0 (by omega)
      rw [v1]
      simp only [Option.bind_some]
      have let_iff : (∀ ch ∈ rawT t x, lo ch = true) ↔ x.2.1 ≤ v := by
        constructor
        · intro hall
          apply Classical.byContradiction
          intro hlt
          have hm : c 3 v ∈ rawT t x := by
            rw [← hraw]
            have := sl_at (m := c) (x := 3) (a := x.1) (b := x.2.1) (k := (v - x.1).toNat) (by omega)
            rw [show x.1 + (((v - x.1).toNat : Nat) : Int) = v by omega] at this
            exact List.mem_of_getElem? this
          have := v5 (by omega)
          rw [show ((2 : Int) + 1) = 3 from rfl, hall _ hm] at this
          cases this
        · intro hle
          rw [← hraw]
          exact sl_mem (P := fun ch => lo ch = true) (fun j j0 j1 => v4 j j0 (by omega))
      by_cases q3 : v < x.2.1
      · rw [if_pos q3]
        exact ⟨0, rfl, Or.inl rfl, fun h => absurd h (by decide), fun h => by have := let_iff.mp h.2.2.1; omega⟩
      · rw [if_neg q3, c_spelled hR h0 h1 (by omega), show ((2 : Int) + 1) = 3 from rfl, hraw]
        simp only [Option.bind_some]
        have hw := wordS_rng (s := rawT t x)
        rw [gd_pos hw]
        by_cases q4 : wRes (wordS (rawT t x)) = 0
        · rw [if_pos q4]
          exact ⟨1, rfl, Or.inr rfl, fun _ => ⟨by omega, by omega, let_iff.mpr (by omega), q4⟩, fun _ => rfl⟩
        · rw [if_neg q4]
          exact ⟨0, rfl, Or.inl rfl, fun h => absurd h (by decide), fun h => absurd h.2.2.2 q4⟩
  · rw [if_neg q1]
    exact ⟨0, rfl, Or.inl rfl, fun h => absurd h (by decide), fun h => by omega⟩
