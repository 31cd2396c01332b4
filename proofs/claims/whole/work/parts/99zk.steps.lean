/-! ASK: the truth of the steps -/
def fv (c0 : aM) (T : Tb) (u : Int → Int) (s : Int) (r : Nat) : Int := if (r : Int) < Tr T then tv c0 T u s (r : Int) else 1
def ev1 (s : Int) : List (Nat → Int) → List (Nat → Int)
  | [] => []
  | [f] => if s = -3 then [fun r => 2 - f r] else [f]
  | f :: g :: S => if s = -3 then (fun r => 2 - f r) :: g :: S else if s = -1 then (fun r => t3a (g r) (f r)) :: S else (fun r => t3o (g r) (f r)) :: S
def ev (c0 : aM) (T : Tb) (u : Int → Int) : List Int → List (Nat → Int)
  | [] => []
  | s :: L => if 0 ≤ s then fv c0 T u s :: ev c0 T u L else ev1 s (ev c0 T u L)
def bot : List (Nat → Int) → Nat → Int
  | [] => fun _ => 1
  | [f] => f
  | _ :: g :: S => bot (g :: S)
section
variable {c0 q : aM} {T : Tb} {u : Int → Int} {n N : Int}
theorem ev_len : ∀ {L : List Int}, wf L → ((ev c0 T u L).length : Int) = ht L
  | [], _ => rfl
  | s :: L, h => by
    have ih := ev_len h.1
    have h2 := h.2
    show ((if 0 ≤ s then fv c0 T u s :: ev c0 T u L else ev1 s (ev c0 T u L)).length : Int) = if s = -3 then ht L else if s < 0 then ht L - 1 else ht L + 1
    by_cases s0 : 0 ≤ s
    · rw [if_pos s0, if_neg (by omega), if_neg (by omega)]
      simp only [List.length_cons]
      omega
    · rw [if_neg s0]
      match e : ev c0 T u L with
      | [] =>
        rw [e] at ih
        simp only [List.length_nil] at ih
        omega
      | [f] =>
        rw [e] at ih
        simp only [List.length_cons, List.length_nil] at ih
        have : s = -3 := by omega
        rw [if_pos this]
        show ((if s = -3 then [fun r => 2 - f r] else [f]).length : Int) = _
        rw [if_pos this]
        simp only [List.length_cons, List.length_nil]
        omega
      | f :: g :: S =>
        rw [e] at ih
        simp only [List.length_cons] at ih
        show ((if s = -3 then (fun r => 2 - f r) :: g :: S else if s = -1 then (fun r => t3a (g r) (f r)) :: S else (fun r => t3o (g r) (f r)) :: S).length : Int) = _
        by_cases e3 : s = -3
        · rw [if_pos e3, if_pos e3]
          simp only [List.length_cons]
          omega
        · rw [if_neg e3, if_neg e3, if_pos (show s < 0 by omega)]
          split <;> simp only [List.length_cons] <;> omega
/-- all truths lie in 0, 1, 2, and are unknown where there is no row -/
def evR (T : Tb) (S : List (Nat → Int)) : Prop := ∀ f ∈ S, TV f ∧ ∀ r : Nat, Tr T ≤ (r : Int) → f r = 1
theorem ev_rng : ∀ {L : List Int}, evR T (ev c0 T u L)
  | [] => fun f hf => nomatch hf
  | s :: L => by
    have ih := ev_rng (L := L)
    show evR T (if 0 ≤ s then fv c0 T u s :: ev c0 T u L else ev1 s (ev c0 T u L))
    by_cases s0 : 0 ≤ s
    · rw [if_pos s0]
      intro f hf
      rcases List.mem_cons.mp hf with e | e
      · subst e
        refine ⟨fun r => ?_, fun r hr => if_neg (by omega)⟩
        unfold fv
        split
        · exact tv_rng
        · decide
      · exact ih f e
    · rw [if_neg s0]
      have ngt {f : Nat → Int} (h : TV f ∧ ∀ r : Nat, Tr T ≤ (r : Int) → f r = 1) : TV (fun r => 2 - f r) ∧ ∀ r : Nat, Tr T ≤ (r : Int) → 2 - f r = 1 := ⟨fun r => by have := h.1 r; simp only; omega, fun r hr => by rw [h.2 r hr]; rfl⟩
      match e : ev c0 T u L with
      | [] => exact fun f hf => nomatch hf
      | [f] =>
        rw [e] at ih
        have hf := ih f (List.mem_cons_self ..)
        show evR T (if s = -3 then [fun r => 2 - f r] else [f])
        split
        · intro g hg
          rw [List.mem_singleton.mp hg]
          exact ngt hf
        · exact ih
      | f :: g :: S =>
        rw [e] at ih
        have hf := ih f (List.mem_cons_self ..)
        have hg := ih g (List.mem_cons_of_mem _ (List.mem_cons_self ..))
        have hS : evR T S := fun x hx => ih x (List.mem_cons_of_mem _ (List.mem_cons_of_mem _ hx))
        show evR T (if s = -3 then (fun r => 2 - f r) :: g :: S else if s = -1 then (fun r => t3a (g r) (f r)) :: S else (fun r => t3o (g r) (f r)) :: S)
        split
        · intro x hx
          rcases List.mem_cons.mp hx with e | e
          · rw [e]; exact ngt hf
          · exact ih x (List.mem_cons_of_mem _ e)
        · split
          · intro x hx
            rcases List.mem_cons.mp hx with e | e
            · rw [e]
              refine ⟨fun r => ?_, fun r hr => ?_⟩
              · have := hf.1 r
                have := hg.1 r
                unfold t3a
                simp only
                split <;> omega
              · simp only
                rw [hf.2 r hr, hg.2 r hr]; rfl
            · exact hS x e
          · intro x hx
            rcases List.mem_cons.mp hx with e | e
            · rw [e]
              refine ⟨fun r => ?_, fun r hr => ?_⟩
              · have := hf.1 r
                have := hg.1 r
                unfold t3o
                simp only
                split <;> omega
              · simp only
                rw [hf.2 r hr, hg.2 r hr]; rfl
            · exact hS x e
theorem bot_mem : ∀ {S : List (Nat → Int)}, S ≠ [] → bot S ∈ S
  | [], h => absurd rfl h
  | [f], _ => List.mem_cons_self ..
  | f :: g :: S, _ => List.mem_cons_of_mem _ (bot_mem (S := g :: S) (by simp))
/-- the class's truths -/
def cS (c : aM) : List (Nat → Int) → Prop
  | [] => True
  | f :: S => BW (c 122 (S.length : Int)) f ∧ cS c S
theorem cS_of {c c' : aM} : ∀ {S : List (Nat → Int)}, (∀ j, 0 ≤ j → j < (S.length : Int) → c' 122 j = c 122 j) → cS c S → cS c' S
  | [], _, _ => trivial
  | f :: S, e, h => ⟨by rw [e _ (by omega) (by simp only [List.length_cons]; omega)]; exact h.1, cS_of (fun j a b => e j a (by simp only [List.length_cons]; omega)) h.2⟩
theorem cS_bot {c : aM} : ∀ {S : List (Nat → Int)}, S ≠ [] → cS c S → BW (c 122 0) (bot S)
  | [], h, _ => absurd rfl h
  | [f], _, h => h.1
  | f :: g :: S, _, h => cS_bot (S := g :: S) (by simp) h.2
/-- the reference's truths, of a row -/
def rS (q : aM) (r : Nat) : List (Nat → Int) → Prop
  | [] => True
  | f :: S => q 150 (S.length : Int) = f r ∧ rS q r S
theorem rS_of {q q' : aM} {r : Nat} : ∀ {S : List (Nat → Int)}, (∀ j, 0 ≤ j → j < (S.length : Int) → q' 150 j = q 150 j) → rS q r S → rS q' r S
  | [], _, _ => trivial
  | f :: S, e, h => ⟨by rw [e _ (by omega) (by simp only [List.length_cons]; omega)]; exact h.1, rS_of (fun j a b => e j a (by simp only [List.length_cons]; omega)) h.2⟩
theorem rS_bot {q : aM} {r : Nat} : ∀ {S : List (Nat → Int)}, S ≠ [] → rS q r S → q 150 0 = bot S r
  | [], h, _ => absurd rfl h
  | [f], _, h => h.1
  | f :: g :: S, _, h => rS_bot (S := g :: S) (by simp) h.2
theorem last_split : ∀ {A : List Int}, A ≠ [] → ∃ B a, A = B ++ [a]
  | [], h => absurd rfl h
  | [a], _ => ⟨[], a, rfl⟩
  | a :: b :: A, _ => by
    obtain ⟨B, x, e⟩ := last_split (A := b :: A) (by simp)
    exact ⟨a :: B, x, by rw [e]; rfl⟩
theorem cst_app {c : aM} : ∀ {A K : List Int}, cst c (A ++ K) → cst c K
  | [], _, h => h
  | _ :: A, _, h => cst_app (A := A) h.2
theorem rst_app : ∀ {A K : List Int}, rst c0 N q (A ++ K) → rst c0 N q K
  | [], _, h => h
  | _ :: A, _, h => rst_app (A := A) h.2
theorem wf_app : ∀ {A K : List Int}, wf (A ++ K) → wf K
  | [], _, h => h
  | _ :: A, _, h => wf_app (A := A) h.1
/-- the next of the steps -/
theorem step_at {L A K : List Int} (e : L = A ++ K) (hl : (K.length : Int) < (L.length : Int)) : ∃ A' a, L = A' ++ (a :: K) := by
  have hA : A ≠ [] := by
    intro h
    rw [e, h, List.nil_append] at hl
    omega
  obtain ⟨B, a, eb⟩ := last_split hA
  exact ⟨B, a, by rw [e, eb, List.append_assoc]; rfl⟩
/-- which rows are chosen -/
def ch (c0 : aM) (T : Tb) (u : Int → Int) (L : List Int) (r : Nat) : Bool := L.isEmpty || decide (bot (ev c0 T u L) r = 2)
theorem c_choose {m : aM} {L : List Int} (hk : Ck c0 T u n N) (hf : ∀ y, y ≠ 122 → m y = c0 y) (hl : CL m L) (hr : RQ c0 N q L) (hw : wf L) (l96 : (L.length : Int) ≤ 96) : ∃ B c', fQ_choose m 4 = some (B, c') ∧ (∀ y, y ≠ 122 → c' y = m y) ∧ ∀ r : Nat, r < 16 → (bAnd B (bShl 1 (r : Int)) = 0 ↔ ¬ ((r : Int) < Tr T ∧ ch c0 T u L r = true)) := by
  have w2 := hk.1.1.2.1
  unfold fQ_choose
  cases hL : L with
  | nil =>
    rw [hL] at hl
    have e3 : m 21 3 = 0 := hl.1
    have e7 : m 12 7 = Tr T := by rw [hf 12 (by decide)]; exact hk.2.1.2.1
    rw [if_pos e3, e7]
    refine ⟨_, m, rfl, fun y _ => rfl, fun r hr => ?_⟩
    have := bI_all ⟨(Tr T).toNat, by omega⟩ ⟨r, hr⟩
    simp only at this
    rw [show (((Tr T).toNat : Nat) : Int) = Tr T by omega] at this
    rw [bI_test (by omega), this]
    unfold ch
    simp only [List.isEmpty_nil, Bool.true_or, and_true, decide_eq_false_iff_not]
    omega
  | cons s0 L0 =>
    rw [← hL]
    have hne : L ≠ [] := by rw [hL]; simp
    have h3 := hl.1
    have lpos : 0 < L.length := List.length_pos_iff.mpr hne
    rw [if_neg (by omega)]
    unfold fQ_choose_21
    obtain ⟨⟨B, c'⟩, e, hp⟩ := aLoop_ok (f := fQ_choose_21_b 4) (Inv := fun x : aM × Int × Int => (∀ y, y ≠ 122 → x.1 y = m y) ∧ ∃ A K, L = A ++ K ∧ x.2.2 = (K.length : Int) ∧ x.2.1 = ht K ∧ cS x.1 (ev c0 T u K)) (μ := fun x => (96 - x.2.2).toNat) (Post := fun v => (∀ y, y ≠ 122 → v.2 y = m y) ∧ ∃ W, v.1 = bAnd W 65535 ∧ BW W (bot (ev c0 T u L))) (by
      rintro ⟨m1, x3, x4⟩ ⟨g1, A, K, gL, gK, gh, gS⟩
      simp only at g1 gK gh gS
      have hK : wf K := wf_app (A := A) (by rw [← gL]; exact hw)
      have hr3 := ht_rng hK
      have hKL : K.length ≤ L.length := by rw [gL, List.length_append]; omega
      have e3 : m1 21 3 = (L.length : Int) := by rw [g1 21 (by decide)]; exact h3
      unfold fQ_choose_21_b
      simp only
      rw [e3]
      by_cases hi : x4 < (L.length : Int)
      · left
        obtain ⟨A', a, eL⟩ := step_at gL (by omega)
        have wa : wf (a :: K) := wf_app (A := A') (by rw [← eL]; exact hw)
        have ca : m1 121 (K.length : Int) = a := by
          rw [g1 121 (by decide)]
          exact (cst_app (A := A') (by rw [← eL]; exact hl.2) : cst m (a :: K)).1
        have ra := (rst_app (A := A') (by rw [← eL]; exact hr.2) : rst c0 N q (a :: K)).1
        have len := ev_len (c0 := c0) (T := T) (u := u) hK
        have lenr : (ev c0 T u (a :: K)).length = (ht (a :: K)).toNat := by
          have := ev_len (c0 := c0) (T := T) (u := u) wa
          omega
        have evR' := ev_rng (c0 := c0) (T := T) (u := u) (L := K)
        rw [if_pos hi, if_pos (by omega), gd_pos (by omega), gK, ca]
        have wr := wa.2
        by_cases ha : a < 0
        · rw [if_pos ha]
          unfold fQ_choose_83 fQ_choose_116
          have he : ev c0 T u (a :: K) = ev1 a (ev c0 T u K) := if_neg (by omega)
          match ee : ev c0 T u K with
          | [] =>
            rw [ee] at len
            simp only [List.length_nil] at len
            omega
          | f :: S =>
            rw [ee] at gS len evR'
            simp only [List.length_cons] at len
            have hf1 := evR' f (List.mem_cons_self ..)
            by_cases a3 : a = -3
            · rw [if_pos a3, if_pos (by omega), w32_id (by omega) (by omega), gd_pos (by omega), show x3 - 1 = (S.length : Int) by omega, w32_id (by omega) (by omega)]
              refine ⟨_, rfl, ⟨fun y hy => by simp only; rw [row_up hy, g1 y hy], A', a :: K, eL, by simp only [List.length_cons]; omega, ?_, ?_⟩, by simp only; omega⟩
              · show x3 = if a = -3 then ht K else _
                rw [if_pos a3]; exact gh
              · rw [he, ee]
                have e1 : ev1 a (f :: S) = (fun r => 2 - f r) :: S := by
                  cases S with
                  | nil => exact if_pos a3
                  | cons g S => exact if_pos a3
                rw [e1]
                refine ⟨?_, cS_of (fun j a b => ?_) gS.2⟩
                · simp only
                  rw [mup_same]
                  exact gS.1.turn hf1.1
                · simp only
                  rw [mup_idx (by omega)]
            · rw [if_neg a3]
              match es : S with
              | [] =>
                simp only [List.length_nil] at len
                omega
              | g :: S' =>
                simp only [List.length_cons] at len
                have hg1 := evR' g (List.mem_cons_of_mem _ (List.mem_cons_self ..))
                have gb := gS.2.1
                have gt := gS.1
                simp only [List.length_cons] at gt
                rw [if_pos (by omega), w32_id (x := x3 + -1) (by omega) (by omega), w32_id (by omega) (by omega), gd_pos (by omega), gd_pos (by omega), show x3 + -1 - 1 = (S'.length : Int) by omega, show x3 + -1 = ((S'.length + 1 : Nat) : Int) by omega, w32_id (by omega) (by omega)]
                refine ⟨_, rfl, ⟨fun y hy => by simp only; rw [row_up hy, g1 y hy], A', a :: K, eL, by simp only [List.length_cons]; omega, ?_, ?_⟩, by simp only; omega⟩
                · show ((S'.length + 1 : Nat) : Int) = if a = -3 then ht K else if a < 0 then ht K - 1 else _
                  rw [if_neg a3, if_pos ha]; omega
                · rw [he, ee]
                  show cS _ (if a = -3 then (fun r => 2 - f r) :: g :: S' else if a = -1 then (fun r => t3a (g r) (f r)) :: S' else (fun r => t3o (g r) (f r)) :: S')
                  rw [if_neg a3]
                  by_cases a1 : a = -1
                  · rw [if_pos a1]
                    refine ⟨?_, cS_of (fun j a b => ?_) gS.2.2⟩
                    · simp only
                      rw [mup_same, a1]
                      exact BW.and gb gt hg1.1 hf1.1
                    · simp only
                      rw [mup_idx (by omega)]
                  · have a2 : a = -2 := by omega
                    rw [if_neg a1]
                    refine ⟨?_, cS_of (fun j a b => ?_) gS.2.2⟩
                    · simp only
                      rw [mup_same, a2]
                      exact BW.or gb gt hg1.1 hf1.1
                    · simp only
                      rw [mup_idx (by omega)]
        · rw [if_neg ha, if_pos (by omega)]
          have hc : cmR c0 N q (K.length : Int) a := by
            rcases ra with g | g | g | g
            · omega
            · omega
            · omega
            · exact g
          obtain ⟨B, eB, hB⟩ := c_truthOf (m := m1) hk (fun y hy => by rw [g1 y hy, hf y hy]) hc
          rw [eB]
          simp only [Option.bind_some]
          rw [gd_pos (by omega), w32_id (by omega) (by omega), w32_id (by omega) (by omega)]
          refine ⟨_, rfl, ⟨fun y hy => by simp only; rw [row_up hy, g1 y hy], A', a :: K, eL, by simp only [List.length_cons]; omega, ?_, ?_⟩, by simp only; omega⟩
          · show x3 + 1 = if a = -3 then ht K else if a < 0 then ht K - 1 else ht K + 1
            rw [if_neg (by omega), if_neg ha]; omega
          · have he : ev c0 T u (a :: K) = fv c0 T u a :: ev c0 T u K := if_pos (by omega)
            rw [he]
            refine ⟨?_, cS_of (fun j a b => ?_) gS⟩
            · simp only
              rw [show ((ev c0 T u K).length : Int) = x3 by omega, mup_same]
              exact hB
            · simp only
              rw [mup_idx (by omega)]
      · right
        rw [if_neg hi]
        have eK : K = L := by
          have : A = [] := by
            apply List.eq_nil_of_length_eq_zero
            have := congrArg List.length gL
            rw [List.length_append] at this
            omega
          rw [gL, this, List.nil_append]
        refine ⟨_, rfl, g1, _, rfl, ?_⟩
        rw [eK] at gS
        have wl := ev_len (c0 := c0) (T := T) (u := u) hw
        refine cS_bot (fun e => ?_) gS
        rw [e, hL] at wl
        rw [hL] at hw
        have := hw.2
        have hh := ht_rng hw.1
        have e2 : ht (s0 :: L0) = if s0 = -3 then ht L0 else if s0 < 0 then ht L0 - 1 else ht L0 + 1 := rfl
        rw [e2] at wl
        simp only [List.length_nil] at wl
        revert wl
        split
        · omega
        · split <;> omega) FU (m, 0, 0) ⟨fun y _ => rfl, L, [], by rw [List.append_nil], rfl, rfl, trivial⟩ (by show _ < 1000000; simp only; omega)
    obtain ⟨hp1, W, hp2, hp3⟩ := hp
    simp only at hp2 hp1
    refine ⟨B, c', e, hp1, fun r hr => ?_⟩
    have hb := hp3 r hr
    have lo := bI_lo ⟨r, by omega⟩
    simp only at lo
    rw [bI_test (by omega), hp2, bI_and, lo, decide_eq_true hr, Bool.and_true, hb.1, decide_eq_false_iff_not]
    unfold ch
    have ie : L.isEmpty = false := by rw [hL]; rfl
    rw [ie, Bool.false_or, decide_eq_true_eq]
    have hout := ev_rng (c0 := c0) (T := T) (u := u) (L := L) (bot (ev c0 T u L))
    refine ⟨fun g x => g x.2, fun g x => g ⟨?_, x⟩⟩
    rcases Int.lt_or_le (r : Int) (Tr T) with h | h
    · exact h
    · exfalso
      have := (hout (bot_mem (fun e => by rw [e] at x; exact absurd (show (1 : Int) = 2 from x) (by decide)))).2 r h
      omega
end
