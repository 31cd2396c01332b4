/-! ASK: groups of rows -/
def rep (g : List Int) : Int := g.headD 0
def insG (T : Tb) (k v : Int) : List (List Int) → List (List Int)
  | [] => [[v]]
  | g :: gs => if 0 < zr T v (rep g) k then g :: insG T k v gs else if zr T v (rep g) k = 0 then (g ++ [v]) :: gs else [v] :: g :: gs
def GW (T : Tb) (k : Int) : List (List Int) → Prop
  | [] => True
  | g :: gs => g ≠ [] ∧ (∀ a ∈ g, zr T a (rep g) k = 0) ∧ (∀ h ∈ gs, zr T (rep g) (rep h) k < 0) ∧ GW T k gs
theorem rep_snoc {g : List Int} {v : Int} (h : g ≠ []) : rep (g ++ [v]) = rep g := by
  cases g with
  | nil => exact absurd rfl h
  | cons a g => rfl
theorem rep_mem {g : List Int} (h : g ≠ []) : rep g ∈ g := by
  cases g with
  | nil => exact absurd rfl h
  | cons a g => exact List.mem_cons_self ..
section
variable {T : Tb} {k : Int}
theorem zr_self {x : Int} : zr T x x k = 0 := by
  have h := zr_anti (T := T) (k := k) (x := x) (y := x)
  omega
theorem insG_rep {v : Int} : ∀ {gs : List (List Int)}, GW T k gs → ∀ h ∈ insG T k v gs, rep h = v ∨ ∃ h' ∈ gs, rep h = rep h'
  | [], _, h, hh => by
    rw [List.mem_singleton.mp hh]
    exact Or.inl rfl
  | g :: gs, hG, h, hh => by
    have e : insG T k v (g :: gs) = if 0 < zr T v (rep g) k then g :: insG T k v gs else if zr T v (rep g) k = 0 then (g ++ [v]) :: gs else [v] :: g :: gs := rfl
    rw [e] at hh
    split at hh
    · rcases List.mem_cons.mp hh with e | e
      · exact Or.inr ⟨g, List.mem_cons_self .., by rw [e]⟩
      · rcases insG_rep hG.2.2.2 h e with r | ⟨h', m, r⟩
        · exact Or.inl r
        · exact Or.inr ⟨h', List.mem_cons_of_mem _ m, r⟩
    · split at hh
      · rcases List.mem_cons.mp hh with e | e
        · exact Or.inr ⟨g, List.mem_cons_self .., by rw [e, rep_snoc hG.1]⟩
        · exact Or.inr ⟨h, List.mem_cons_of_mem _ e, rfl⟩
      · rcases List.mem_cons.mp hh with e | e
        · rw [e]; exact Or.inl rfl
        · exact Or.inr ⟨h, e, rfl⟩
theorem insG_ok {v : Int} : ∀ {gs : List (List Int)}, GW T k gs → GW T k (insG T k v gs)
  | [], _ => ⟨by simp, fun a ha => by rw [List.mem_singleton.mp ha]; exact zr_self, (fun h hh => nomatch hh), trivial⟩
  | g :: gs, hG => by
    have hG' := hG
    obtain ⟨h1, h2, h3, h4⟩ := hG
    show GW T k (if 0 < zr T v (rep g) k then g :: insG T k v gs else if zr T v (rep g) k = 0 then (g ++ [v]) :: gs else [v] :: g :: gs)
    by_cases c1 : 0 < zr T v (rep g) k
    · rw [if_pos c1]
      refine ⟨h1, h2, fun h hh => ?_, insG_ok h4⟩
      rcases insG_rep h4 h hh with r | ⟨h', m, r⟩
      · rw [r]; exact zr_anti.mpr c1
      · rw [r]; exact h3 h' m
    · rw [if_neg c1]
      by_cases c2 : zr T v (rep g) k = 0
      · rw [if_pos c2]
        refine ⟨by simp, fun a ha => ?_, fun h hh => ?_, h4⟩
        · rw [rep_snoc h1]
          rcases List.mem_append.mp ha with e | e
          · exact h2 a e
          · rw [List.mem_singleton.mp e]; exact c2
        · rw [rep_snoc h1]; exact h3 h hh
      · rw [if_neg c2]
        have lt : zr T v (rep g) k < 0 := by omega
        refine ⟨by simp, fun a ha => by rw [List.mem_singleton.mp ha]; exact zr_self, fun h hh => ?_, hG'⟩
        show zr T v (rep h) k < 0
        rcases List.mem_cons.mp hh with e | e
        · rw [e]; exact lt
        · exact zr_trans lt (h3 h e)
/-- where a row comes among the groups -/
theorem insG_split {v : Int} : ∀ {gs : List (List Int)}, GW T k gs → ∃ l1 l2, gs.flatten = l1 ++ l2 ∧ (insG T k v gs).flatten = l1 ++ v :: l2 ∧ (∀ a ∈ l1, ¬ zr T v a k < 0) ∧ ∀ b ∈ l2, zr T v b k < 0
  | [], _ => ⟨[], [], rfl, rfl, (fun a h => nomatch h), (fun a h => nomatch h)⟩
  | g :: gs, hG => by
    obtain ⟨h1, h2, h3, h4⟩ := hG
    have inG {x : Int} (hx : x ∈ gs.flatten) : ∃ h ∈ gs, x ∈ h := List.mem_flatten.mp hx
    have gwm : ∀ {gs : List (List Int)}, GW T k gs → ∀ h ∈ gs, ∀ x ∈ h, zr T x (rep h) k = 0 := by
      intro gs
      induction gs with
      | nil => exact fun _ h hh => nomatch hh
      | cons g gs ih =>
        intro hg h hh x hx
        rcases List.mem_cons.mp hh with e | e
        · rw [e] at hx ⊢; exact hg.2.1 x hx
        · exact ih hg.2.2.2 h e x hx
    have later {x : Int} (hx : x ∈ gs.flatten) : zr T (rep g) x k < 0 := by
      obtain ⟨h, m, xm⟩ := inG hx
      have := gwm h4 h m x xm
      rw [(zr_eq this (rep g)).2]
      exact h3 h m
    have e : insG T k v (g :: gs) = if 0 < zr T v (rep g) k then g :: insG T k v gs else if zr T v (rep g) k = 0 then (g ++ [v]) :: gs else [v] :: g :: gs := rfl
    rw [e]
    by_cases c1 : 0 < zr T v (rep g) k
    · rw [if_pos c1]
      obtain ⟨l1, l2, e1, e2, e3, e4⟩ := insG_split (v := v) h4
      refine ⟨g ++ l1, l2, by rw [List.flatten_cons, e1, List.append_assoc], by rw [List.flatten_cons, e2, List.append_assoc], fun a ha => ?_, e4⟩
      rcases List.mem_append.mp ha with m | m
      · rw [(zr_eq (h2 a m) v).2]; omega
      · exact e3 a m
    · rw [if_neg c1]
      by_cases c2 : zr T v (rep g) k = 0
      · rw [if_pos c2]
        refine ⟨g, gs.flatten, List.flatten_cons, by rw [List.flatten_cons, List.append_assoc]; rfl, fun a ha => ?_, fun b hb => ?_⟩
        · rw [(zr_eq (h2 a ha) v).2]; omega
        · rw [(zr_eq c2 b).1]; exact later hb
      · rw [if_neg c2]
        have lt : zr T v (rep g) k < 0 := by omega
        refine ⟨[], g ++ gs.flatten, List.flatten_cons, by rw [List.flatten_cons, List.flatten_cons]; rfl, fun a h => (nomatch h), fun b hb => ?_⟩
        rcases List.mem_append.mp hb with m | m
        · rw [(zr_eq (h2 b m) v).2]; exact lt
        · exact zr_trans lt (later m)
theorem ins_split {lt : Int → Int → Bool} {v : Int} {A : List Int} (hA : ∀ a ∈ A, lt v a = false) : ∀ {B : List Int}, (∀ b ∈ B, lt v b = true) → ins lt v (B ++ A) = B ++ v :: A
  | [], _ => by
    cases A with
    | nil => rfl
    | cons a A =>
      show (if lt v a then a :: ins lt v A else v :: a :: A) = _
      rw [hA a (List.mem_cons_self ..)]
      rfl
  | b :: B, hB => by
    show (if lt v b then b :: ins lt v (B ++ A) else v :: b :: (B ++ A)) = _
    rw [hB b (List.mem_cons_self ..), if_pos rfl, ins_split hA (fun x hx => hB x (List.mem_cons_of_mem _ hx))]
    rfl
def grp (T : Tb) (k : Int) (R : List Int) : List (List Int) := R.foldl (fun gs v => insG T k v gs) []
theorem grp_snoc {R : List Int} {v : Int} : grp T k (R ++ [v]) = insG T k v (grp T k R) := by
  unfold grp
  rw [List.foldl_append]
  rfl
theorem grp_ok (R : List Int) : GW T k (grp T k R) := snoc_ind (P := fun R => GW T k (grp T k R)) trivial (fun l a ih => by rw [grp_snoc]; exact insG_ok ih) R
/-- the groups, one behind the other, are the sorted rows -/
theorem grp_srt (k0 : k ≠ -1) (R : List Int) : (grp T k R).flatten = (srt (lt0 T k 0) R).reverse := by
  refine snoc_ind (P := fun R => (grp T k R).flatten = (srt (lt0 T k 0) R).reverse) rfl (fun l a ih => ?_) R
  rw [grp_snoc, srt_snoc]
  obtain ⟨l1, l2, e1, e2, e3, e4⟩ := insG_split (v := a) (grp_ok (T := T) (k := k) l)
  have lt (s : Int) : lt0 T k 0 a s = decide (zr T a s k < 0) := by
    unfold lt0
    rw [if_pos rfl, Int.one_mul]
    by_cases h : zr T a s k < 0
    · rw [decide_eq_true h, decide_eq_true ⟨k0, h⟩]
    · rw [decide_eq_false h, decide_eq_false (fun g => h g.2)]
  have es : srt (lt0 T k 0) l = l2.reverse ++ l1.reverse := by
    rw [← List.reverse_append, ← e1, ih, List.reverse_reverse]
  rw [e2, es, ins_split (fun x hx => by rw [lt]; exact decide_eq_false (e3 x (List.mem_reverse.mp hx))) (fun x hx => by rw [lt]; exact decide_eq_true (e4 x (List.mem_reverse.mp hx)))]
  rw [List.reverse_append, List.reverse_cons, List.reverse_reverse, List.reverse_reverse, List.append_assoc]
  rfl
theorem grp_perm (k0 : k ≠ -1) (R : List Int) : (grp T k R).flatten.Perm R := by
  rw [grp_srt k0]
  exact (List.reverse_perm _).trans (srt_perm R)
end
/-! what is gathered of a group -/
def sumS (T : Tb) (c : Int) (st : Option (Int × Bool)) (r : Int) : Option (Int × Bool) := match st with
  | none => none
  | some x => if missB T r c then some x else if (valS (Tt T r c) < 0 ∧ x.1 < w64 (x.1 + valS (Tt T r c))) ∨ (0 ≤ valS (Tt T r c) ∧ w64 (x.1 + valS (Tt T r c)) < x.1) then none else some (w64 (x.1 + valS (Tt T r c)), true)
def sumG (T : Tb) (c : Int) (g : List Int) : Option (Int × Bool) := g.foldl (sumS T c) (some (0, false))
theorem sum_none {T : Tb} {c : Int} : ∀ g : List Int, g.foldl (sumS T c) none = none
  | [] => rfl
  | r :: g => sum_none g
theorem sumG_snoc {T : Tb} {c r : Int} {g : List Int} : sumG T c (g ++ [r]) = sumS T c (sumG T c g) r := by
  unfold sumG
  rw [List.foldl_append]
  rfl
theorem sumG_app {T : Tb} {c : Int} {g h : List Int} (e : sumG T c g = none) : sumG T c (g ++ h) = none := by
  unfold sumG at *
  rw [List.foldl_append, e]
  exact sum_none h
theorem sumG_rng {T : Tb} {c : Int} (g : List Int) : ∀ s b, sumG T c g = some (s, b) → i64 s := by
  refine snoc_ind (P := fun g => ∀ s b, sumG T c g = some (s, b) → i64 s) (fun s b h => ?_) (fun l r ih s b h => ?_) g
  · have : s = 0 := by
      have h2 : (some ((0 : Int), false) : Option (Int × Bool)) = some (s, b) := h
      injection h2 with h3
      injection h3 with h4 h5
      exact h4.symm
    subst this
    exact ⟨by decide, by decide⟩
  · rw [sumG_snoc] at h
    cases e : sumG T c l with
    | none => rw [e] at h; exact nomatch h
    | some x =>
      rw [e] at h
      have h2 : (if missB T r c then some x else if (valS (Tt T r c) < 0 ∧ x.1 < w64 (x.1 + valS (Tt T r c))) ∨ (0 ≤ valS (Tt T r c) ∧ w64 (x.1 + valS (Tt T r c)) < x.1) then none else some (w64 (x.1 + valS (Tt T r c)), true)) = some (s, b) := h
      split at h2
      · exact ih s b (by rw [e]; exact h2)
      · split at h2
        · exact nomatch h2
        · injection h2 with h3
          injection h3 with h4 h5
          rw [← h4]
          have := w64_rng (x.1 + valS (Tt T r c))
          exact ⟨this.1, this.2⟩
def bestS (T : Tb) (c kd : Int) (b r : Int) : Int := if missB T r c then b else if b = -1 then r else if (kd = 4 ∧ zc T r c b c < 0) ∨ (kd ≠ 4 ∧ 0 < zc T r c b c) then r else b
def bestG (T : Tb) (c kd : Int) (g : List Int) : Int := g.foldl (bestS T c kd) (-1)
theorem bestG_snoc {T : Tb} {c kd r : Int} {g : List Int} : bestG T c kd (g ++ [r]) = bestS T c kd (bestG T c kd g) r := by
  unfold bestG
  rw [List.foldl_append]
  rfl
theorem bestS_rng {T : Tb} {c kd b r : Int} : bestS T c kd b r = b ∨ (bestS T c kd b r = r ∧ missB T r c = false) := by
  unfold bestS
  cases h : missB T r c
  · rw [if_neg (by decide)]
    split
    · exact Or.inr ⟨rfl, rfl⟩
    · split
      · exact Or.inr ⟨rfl, rfl⟩
      · exact Or.inl rfl
  · exact Or.inl rfl
theorem bestG_rng {T : Tb} {c kd : Int} (g : List Int) : bestG T c kd g = -1 ∨ (bestG T c kd g ∈ g ∧ missB T (bestG T c kd g) c = false) := by
  refine snoc_ind (P := fun g => bestG T c kd g = -1 ∨ (bestG T c kd g ∈ g ∧ missB T (bestG T c kd g) c = false)) (Or.inl rfl) (fun l r ih => ?_) g
  rw [bestG_snoc]
  rcases bestS_rng (T := T) (c := c) (kd := kd) (b := bestG T c kd l) (r := r) with e | ⟨e, e2⟩
  · rw [e]
    rcases ih with i | i
    · exact Or.inl i
    · exact Or.inr ⟨List.mem_append_left _ i.1, i.2⟩
  · rw [e]
    exact Or.inr ⟨List.mem_append_right _ (List.mem_cons_self ..), e2⟩
/-- a group whose sum is too large stays one -/
theorem insG_bad {T : Tb} {k c v : Int} : ∀ {gs : List (List Int)}, (∃ g ∈ gs, sumG T c g = none) → ∃ g ∈ insG T k v gs, sumG T c g = none
  | [], h => by
    obtain ⟨g, m, -⟩ := h
    exact nomatch m
  | g :: gs, ⟨h, m, e⟩ => by
    have ei : insG T k v (g :: gs) = if 0 < zr T v (rep g) k then g :: insG T k v gs else if zr T v (rep g) k = 0 then (g ++ [v]) :: gs else [v] :: g :: gs := rfl
    rw [ei]
    split
    · rcases List.mem_cons.mp m with x | x
      · exact ⟨h, by rw [x]; exact List.mem_cons_self .., e⟩
      · obtain ⟨h', m', e'⟩ := insG_bad (k := k) (v := v) ⟨h, x, e⟩
        exact ⟨h', List.mem_cons_of_mem _ m', e'⟩
    · split
      · rcases List.mem_cons.mp m with x | x
        · subst x
          exact ⟨h ++ [v], List.mem_cons_self .., sumG_app e⟩
        · exact ⟨h, List.mem_cons_of_mem _ x, e⟩
      · exact ⟨h, List.mem_cons_of_mem _ m, e⟩
