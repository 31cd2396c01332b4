/-! ASK: the order of rows -/
theorem tc_anti : ∀ {s t : List Int}, tc s t < 0 ↔ 0 < tc t s
  | [], t => by rw [tc_nil_l, tc_nil_r]; omega
  | a :: s, [] => by rw [tc_nil_l, tc_nil_r]; omega
  | a :: s, b :: t => by
    show (if a - b = 0 then tc s t else a - b) < 0 ↔ 0 < (if b - a = 0 then tc t s else b - a)
    have ih := tc_anti (s := s) (t := t)
    by_cases e : a - b = 0
    · rw [if_pos e, if_pos (by omega)]; exact ih
    · rw [if_neg e, if_neg (by omega)]; omega
theorem tc_trans : ∀ {s t w : List Int}, tc s t < 0 → tc t w < 0 → tc s w < 0
  | [], t, w, h1, h2 => by
    rw [tc_nil_l] at h1 ⊢
    cases t with
    | nil => simp only [List.length_nil] at h1; omega
    | cons b t =>
      cases w with
      | nil => rw [tc_nil_r] at h2; simp only [List.length_cons] at h2; omega
      | cons c w => simp only [List.length_cons]; omega
  | a :: s, [], w, h1, h2 => by rw [tc_nil_r] at h1; simp only [List.length_cons] at h1; omega
  | a :: s, b :: t, [], h1, h2 => by rw [tc_nil_r] at h2; simp only [List.length_cons] at h2; omega
  | a :: s, b :: t, c :: w, h1, h2 => by
    have ih := tc_trans (s := s) (t := t) (w := w)
    have g1 : (if a - b = 0 then tc s t else a - b) < 0 := h1
    have g2 : (if b - c = 0 then tc t w else b - c) < 0 := h2
    show (if a - c = 0 then tc s w else a - c) < 0
    by_cases e1 : a - b = 0
    · rw [if_pos e1] at g1
      by_cases e2 : b - c = 0
      · rw [if_pos e2] at g2
        rw [if_pos (by omega)]
        exact ih g1 g2
      · rw [if_neg e2] at g2
        rw [if_neg (by omega)]
        omega
    · rw [if_neg e1] at g1
      by_cases e2 : b - c = 0
      · rw [if_neg (by omega)]; omega
      · rw [if_neg e2] at g2
        rw [if_neg (by omega)]; omega
section
variable {T : Tb} {k : Int}
theorem zc_anti {x y : Int} : zc T x k y k < 0 ↔ 0 < zc T y k x k := by
  unfold zc
  by_cases t : tyS T k = 3
  · rw [if_pos t, if_pos t]; exact tc_anti
  · rw [if_neg t, if_neg t, cmp3_lt0, cmp3_gt0]
theorem zc_trans {x y z : Int} (h1 : zc T x k y k < 0) (h2 : zc T y k z k < 0) : zc T x k z k < 0 := by
  unfold zc at *
  by_cases t : tyS T k = 3
  · rw [if_pos t] at *; exact tc_trans h1 h2
  · rw [if_neg t] at *
    rw [cmp3_lt0] at *
    omega
theorem zc_eq {x y : Int} (h : zc T x k y k = 0) (z : Int) : zc T x k z k = zc T y k z k ∧ zc T z k x k = zc T z k y k := by
  unfold zc at *
  by_cases t : tyS T k = 3
  · rw [if_pos t] at *
    rw [tc_eq0.mp h]
    exact ⟨by rw [if_pos t], by rw [if_pos t]⟩
  · rw [if_neg t] at *
    rw [cmp3_eq0.mp h]
    exact ⟨by rw [if_neg t], by rw [if_neg t, if_neg t]⟩
theorem zr_anti {x y : Int} : zr T x y k < 0 ↔ 0 < zr T y x k := by
  unfold zr
  cases missB T x k <;> cases missB T y k <;> simp only [Bool.false_eq_true, if_false, if_true]
  · exact zc_anti
  all_goals decide
theorem zr_trans {x y z : Int} (h1 : zr T x y k < 0) (h2 : zr T y z k < 0) : zr T x z k < 0 := by
  unfold zr at *
  revert h1 h2
  cases missB T x k <;> cases missB T y k <;> cases missB T z k <;> simp only [Bool.false_eq_true, if_false, if_true]
  · exact zc_trans
  · exact fun _ h => absurd h (by decide)
  · exact fun h => absurd h (by decide)
  · exact fun h => absurd h (by decide)
  · exact fun _ _ => by decide
  · exact fun _ h => absurd h (by decide)
  · exact fun h => absurd h (by decide)
  · exact fun h => absurd h (by decide)
theorem zr_eq {x y : Int} (h : zr T x y k = 0) (z : Int) : zr T x z k = zr T y z k ∧ zr T z x k = zr T z y k := by
  unfold zr at *
  revert h
  cases missB T x k <;> cases missB T y k <;> simp only [Bool.false_eq_true, if_false, if_true]
  · intro h
    cases missB T z k <;> simp only [Bool.false_eq_true, if_false, if_true]
    · exact zc_eq h z
    · exact ⟨trivial, trivial⟩
  · exact fun h => absurd h (by decide)
  · exact fun h => absurd h (by decide)
  · exact fun _ => ⟨trivial, trivial⟩
theorem zr_comm0 {x y : Int} (h : zr T x y k = 0) : zr T y x k = 0 := by
  have h1 := zr_anti (T := T) (k := k) (x := x) (y := y)
  have h2 := zr_anti (T := T) (k := k) (x := y) (y := x)
  omega
end
/-! putting a row among sorted ones, from behind -/
def ins (lt : Int → Int → Bool) (v : Int) : List Int → List Int
  | [] => [v]
  | s :: S => if lt v s then s :: ins lt v S else v :: s :: S
def lst (m : aM) (y : Int) : List Int → Prop
  | [] => True
  | s :: S => m y (S.length : Int) = s ∧ lst m y S
theorem lst_of {m m' : aM} {y y' : Int} : ∀ {S : List Int}, (∀ j, 0 ≤ j → j < (S.length : Int) → m' y' j = m y j) → lst m y S → lst m' y' S
  | [], _, _ => trivial
  | f :: S, e, h => ⟨by rw [e _ (by omega) (by simp only [List.length_cons]; omega)]; exact h.1, lst_of (fun j a b => e j a (by simp only [List.length_cons]; omega)) h.2⟩
theorem ins_len {lt : Int → Int → Bool} {v : Int} : ∀ {S : List Int}, (ins lt v S).length = S.length + 1
  | [] => rfl
  | s :: S => by
    show (if lt v s then s :: ins lt v S else v :: s :: S).length = _
    split
    · simp only [List.length_cons]; rw [ins_len]
    · rfl
theorem ins_perm {lt : Int → Int → Bool} {v : Int} : ∀ {S : List Int}, (ins lt v S).Perm (v :: S)
  | [] => List.Perm.refl _
  | s :: S => by
    show (if lt v s then s :: ins lt v S else v :: s :: S).Perm _
    split
    · exact (List.Perm.cons s ins_perm).trans (List.Perm.swap v s S)
    · exact List.Perm.refl _
def srt (lt : Int → Int → Bool) (l : List Int) : List Int := l.foldl (fun S v => ins lt v S) []
theorem srt_snoc {lt : Int → Int → Bool} {l : List Int} {v : Int} : srt lt (l ++ [v]) = ins lt v (srt lt l) := by
  unfold srt
  rw [List.foldl_append]
  rfl
theorem snoc_ind {P : List Int → Prop} (h0 : P []) (h1 : ∀ l a, P l → P (l ++ [a])) : ∀ l, P l := by
  intro l
  have key : ∀ n : Nat, ∀ l : List Int, l.length = n → P l := by
    intro n
    induction n with
    | zero => intro l hl; rw [List.eq_nil_of_length_eq_zero hl]; exact h0
    | succ n ih =>
      intro l hl
      obtain ⟨B, a, e⟩ := last_split (A := l) (fun e => by rw [e] at hl; simp at hl)
      rw [e]
      exact h1 B a (ih B (by rw [e, List.length_append] at hl; simp only [List.length_cons, List.length_nil] at hl; omega))
  exact key l.length l rfl
theorem srt_perm {lt : Int → Int → Bool} (l : List Int) : (srt lt l).Perm l := by
  refine snoc_ind (P := fun l => (srt lt l).Perm l) (List.Perm.refl _) (fun l a ih => ?_) l
  rw [srt_snoc]
  refine ins_perm.trans ((List.Perm.cons a ih).trans ?_)
  exact (List.perm_append_singleton a l).symm
theorem srt_none {l : List Int} : srt (fun _ _ => false) l = l.reverse := by
  refine snoc_ind (P := fun l => srt (fun _ _ => false) l = l.reverse) rfl (fun l a ih => ?_) l
  rw [srt_snoc, ih, List.reverse_append]
  cases l.reverse <;> rfl
abbrev rwP (z : Int) (y _j : Int) : Prop := y = z
/-- the loop that puts a row in -/
theorem ins_loop {y v : Int} {lt : Int → Int → Bool} {V : Type} {b : aM × Int → Option ((aM × Int) ⊕ V)} {fin : aM → Int → V} {m0 : aM} (S0 : List Int)
    (hb1 : ∀ m' x s, Fr (rwP y) m0 m' → 0 < x → x ≤ (S0.length : Int) → m' y (x - 1) = s → s ∈ S0 → lt v s = true → b (m', x) = some (.inl (mup m' y x s, x - 1)))
    (hb2 : ∀ m' x, Fr (rwP y) m0 m' → 0 ≤ x → x ≤ (S0.length : Int) → (x = 0 ∨ (0 < x ∧ ∃ s, m' y (x - 1) = s ∧ s ∈ S0 ∧ lt v s = false)) → b (m', x) = some (.inr (fin m' x))) :
    ∀ (S : List Int) (m : aM) (f : Nat), (∀ s ∈ S, s ∈ S0) → S.length ≤ S0.length → Fr (rwP y) m0 m → lst m y S → S.length < f → ∃ m' x, aLoop b f (m, (S.length : Int)) = some (fin m' x) ∧ Fr (rwP y) m m' ∧ 0 ≤ x ∧ x ≤ (S.length : Int) ∧ lst (mup m' y x v) y (ins lt v S) ∧ ∀ j, (S.length : Int) < j → m' y j = m y j := by
  intro S
  induction S with
  | nil =>
    intro m f hs hl hF hL hf
    obtain ⟨g, rfl⟩ : ∃ g, f = g + 1 := ⟨f - 1, by simp only [List.length_nil] at hf; omega⟩
    refine ⟨m, 0, aL_end (hb2 m 0 hF (by omega) (by omega) (Or.inl rfl)), Fr.rf, by omega, by simp only [List.length_nil]; omega, ⟨mup_same _ _ _ _, trivial⟩, fun j _ => rfl⟩
  | cons s S ih =>
    intro m f hs hl hF hL hf
    simp only [List.length_cons] at hl hf
    obtain ⟨g, rfl⟩ : ∃ g, f = g + 1 := ⟨f - 1, by omega⟩
    have hm := hs s (List.mem_cons_self ..)
    have ev : m y (((s :: S).length : Int) - 1) = s := by
      simp only [List.length_cons]
      rw [show (((S.length + 1 : Nat) : Int) - 1) = (S.length : Int) by omega]
      exact hL.1
    cases hlt : lt v s
    · refine ⟨m, ((s :: S).length : Int), aL_end (hb2 m _ hF (by omega) (by simp only [List.length_cons]; omega) (Or.inr ⟨by simp only [List.length_cons]; omega, s, ev, hm, hlt⟩)), Fr.rf, by omega, by omega, ?_, fun j _ => rfl⟩
      show lst _ y (if lt v s then s :: ins lt v S else v :: s :: S)
      rw [hlt]
      refine ⟨by simp only [List.length_cons]; exact mup_same _ _ _ _, ?_⟩
      exact lst_of (fun j a b => by rw [mup_idx (by omega)]) hL
    · have e1 := hb1 m _ s hF (by simp only [List.length_cons]; omega) (by simp only [List.length_cons]; omega) ev hm hlt
      have en : ((s :: S).length : Int) - 1 = (S.length : Int) := by simp only [List.length_cons]; omega
      rw [en] at e1
      obtain ⟨m2, x, e2, f2, x0, x1, l2, r2⟩ := ih (mup m y ((s :: S).length : Int) s) g (fun t ht => hs t (List.mem_cons_of_mem _ ht)) (by omega) (hF.up rfl) (lst_of (fun j a b => by rw [mup_idx (by simp only [List.length_cons]; omega)]) hL.2) (by omega)
      refine ⟨m2, x, (aL_go e1).trans e2, Fr.tr (Fr.up (P := rwP y) Fr.rf rfl) f2, x0, by simp only [List.length_cons]; omega, ?_, fun j hj => ?_⟩
      · show lst _ y (if lt v s then s :: ins lt v S else v :: s :: S)
        rw [hlt]
        refine ⟨?_, l2⟩
        rw [ins_len, mup_idx (by omega), r2 _ (by omega), show ((S.length + 1 : Nat) : Int) = ((s :: S).length : Int) by simp only [List.length_cons], mup_same]
      · simp only [List.length_cons] at hj
        rw [r2 j (by omega), mup_idx (by simp only [List.length_cons]; omega)]
