/-! WRITING: how long it gets -/
theorem sm_mono {f g : Nat → Int} : ∀ n, (∀ k, k < n → f k ≤ g k) → sm f n ≤ sm g n := by
  intro n
  induction n with
  | zero => intro _; exact Int.le_refl _
  | succ n ih =>
    intro h
    have := ih (fun k hk => h k (by omega))
    have := h n (by omega)
    show sm f n + f n ≤ sm g n + g n
    omega
theorem sm_add {f g : Nat → Int} : ∀ n, sm (fun k => f k + g k) n = sm f n + sm g n := by
  intro n
  induction n with
  | zero => rfl
  | succ n ih => show sm (fun k => f k + g k) n + (f n + g n) = (sm f n + f n) + (sm g n + g n); rw [ih]; omega
theorem sm_const {c : Int} : ∀ n : Nat, sm (fun _ => c) n = (n : Int) * c := by
  intro n
  induction n with
  | zero => show (0 : Int) = ((0 : Nat) : Int) * c; rw [show ((0 : Nat) : Int) = 0 from rfl, Int.zero_mul]
  | succ n ih =>
    show sm _ n + c = _
    rw [ih, show ((n + 1 : Nat) : Int) = (n : Int) + 1 by omega, Int.add_mul, Int.one_mul]
theorem sm_nn {f : Nat → Int} : ∀ n, (∀ k, k < n → 0 ≤ f k) → 0 ≤ sm f n := by
  intro n
  induction n with
  | zero => intro _; exact Int.le_refl _
  | succ n ih =>
    intro h
    have := ih (fun k hk => h k (by omega))
    have := h n (by omega)
    show 0 ≤ sm f n + f n
    omega
theorem cat_len {l : Int → List Int} : ∀ (n : Nat) (i : Int), ((cat l i n).length : Int) = sm (fun k => ((l (i + (k : Int))).length : Int)) n := by
  have shift : ∀ (n : Nat) (f : Nat → Int), f 0 + sm (fun k => f (k + 1)) n = sm f (n + 1) := by
    intro n f
    induction n with
    | zero => show f 0 + 0 = 0 + f 0; omega
    | succ n ih =>
      show f 0 + (sm (fun k => f (k + 1)) n + f (n + 1)) = sm f (n + 1) + f (n + 1)
      omega
  intro n
  induction n with
  | zero => intro i; rfl
  | succ n ih =>
    intro i
    show ((l i ++ cat l (i + 1) n).length : Int) = _
    rw [List.length_append, ← shift n (fun k => ((l (i + (k : Int))).length : Int))]
    have := ih (i + 1)
    have e : (fun k : Nat => ((l (i + 1 + (k : Int))).length : Int)) = fun k : Nat => ((l (i + ((k + 1 : Nat) : Int))).length : Int) := by
      funext k
      rw [show i + 1 + (k : Int) = i + ((k + 1 : Nat) : Int) by omega]
    rw [e] at this
    rw [← this, show i + ((0 : Nat) : Int) = i by omega]
    omega
theorem rowL_len {f : Int → List Int} {n : Int} : ((rowL f n).length : Int) = sm (fun c => ((f (c : Int)).length : Int) + 1) n.toNat := by
  unfold rowL
  rw [cat_len]
  congr 1
  funext k
  rw [List.length_append, show (0 : Int) + (k : Int) = (k : Int) by omega]
  simp
theorem dbl_len {s : List Int} : ((dbl s).length : Int) = Lw s := by
  unfold dbl Lw
  induction s with
  | nil => rfl
  | cons c r ih =>
    have e : (c :: r).flatMap dbl1 = dbl1 c ++ r.flatMap dbl1 := List.flatMap_cons
    rw [e, List.length_append, List.count_cons, List.length_cons]
    by_cases h : c = 34
    · rw [if_pos (by simp [h]), show dbl1 c = [34, 34] from if_pos h]
      simp only [List.length_cons, List.length_nil]
      omega
    · rw [if_neg (by simpa using h), show dbl1 c = [c] from if_neg h]
      simp only [List.length_cons, List.length_nil]
      omega
theorem cellS_len {T : Tb} {r c : Int} : ((cellS T r c).length : Int) ≤ Lw (Tt T r c) + 2 := by
  have h0 : ((Tt T r c).length : Int) ≤ Lw (Tt T r c) := by unfold Lw; omega
  unfold cellS
  split
  · show (0 : Int) ≤ _; omega
  · split
    · rw [List.length_cons, List.length_append]
      have := dbl_len (s := Tt T r c)
      simp only [List.length_cons, List.length_nil]
      omega
    · omega
theorem Lw_nn {s : List Int} : 0 ≤ Lw s := by unfold Lw; omega
theorem sm_list {g : Nat → Int} : ∀ n, sm g n = ((List.range n).map g).sum := by
  intro n
  induction n with
  | zero => rfl
  | succ n ih =>
    rw [List.range_succ, List.map_append, List.sum_append, ← ih]
    show sm g n + g n = sm g n + (g n + 0)
    omega
theorem nodup_drop {g : Nat → Int} {n : Nat} (hg : 0 ≤ g n) : ∀ L : List Nat, L.Nodup → (L.map g).sum ≤ ((L.filter (fun a => a != n)).map g).sum + g n := by
  intro L
  induction L with
  | nil => intro _; show (0 : Int) ≤ 0 + g n; omega
  | cons a r ih =>
    intro hn
    rw [List.nodup_cons] at hn
    have h := ih hn.2
    rw [List.filter_cons]
    by_cases ha : a = n
    · subst ha
      rw [if_neg (by simp)]
      have : r.filter (fun b => b != a) = r := by
        rw [List.filter_eq_self]
        intro b hb
        simp
        intro e
        exact hn.1 (e ▸ hb)
      rw [this]
      show g a + (r.map g).sum ≤ _
      omega
    · rw [if_pos (by simpa using ha)]
      show g a + (r.map g).sum ≤ (g a + ((r.filter (fun b => b != n)).map g).sum) + g n
      omega
theorem nodup_sum {g : Nat → Int} : ∀ (n : Nat) (L : List Nat), (∀ k, k < n → 0 ≤ g k) → L.Nodup → (∀ a ∈ L, a < n) → (L.map g).sum ≤ sm g n := by
  intro n
  induction n with
  | zero =>
    intro L _ _ h
    cases L with
    | nil => exact Int.le_refl _
    | cons a r => exact absurd (h a List.mem_cons_self) (Nat.not_lt_zero _)
  | succ n ih =>
    intro L hg hn h
    have h1 := nodup_drop (g := g) (n := n) (hg n (by omega)) L hn
    have h2 := ih (L.filter (fun a => a != n)) (fun k hk => hg k (by omega)) (hn.filter _) (fun a ha => by
      rw [List.mem_filter] at ha
      have := h a ha.1
      have hne : a ≠ n := by simpa using ha.2
      omega)
    show _ ≤ sm g n + g n
    omega
/-- different rows, one of each -/
theorem inj_sum {g : Nat → Int} {ρ : Int → Int} {n N : Nat} (hg : ∀ k, k < N → 0 ≤ g k) (hr : ∀ k, 0 ≤ k → k < (n : Int) → 0 ≤ ρ k ∧ ρ k < (N : Int)) (hi : ∀ i j, 0 ≤ i → i < j → j < (n : Int) → ρ i ≠ ρ j) : sm (fun k => g (ρ (k : Int)).toNat) n ≤ sm g N := by
  rw [sm_list]
  have e : (List.range n).map (fun k : Nat => g (ρ (k : Int)).toNat) = ((List.range n).map (fun k : Nat => (ρ (k : Int)).toNat)).map g := by
    rw [List.map_map]
    rfl
  rw [e]
  refine nodup_sum N _ hg ?_ ?_
  · have aux : ∀ k : Nat, k ≤ n → ((List.range k).map (fun k : Nat => (ρ (k : Int)).toNat)).Nodup := by
      intro k
      induction k with
      | zero => intro _; exact List.nodup_nil
      | succ k ih =>
        intro hk
        rw [List.range_succ, List.map_append, List.nodup_append]
        refine ⟨ih (by omega), by simp, ?_⟩
        intro a ha b hb
        rw [List.mem_map] at ha
        obtain ⟨x, hx, rfl⟩ := ha
        rw [List.mem_range] at hx
        simp only [List.map_cons, List.map_nil, List.mem_singleton] at hb
        subst hb
        have h1 := hr (x : Int) (by omega) (by omega)
        have h2 := hr (k : Int) (by omega) (by omega)
        have h3 := hi (x : Int) (k : Int) (by omega) (by omega) (by omega)
        omega
    exact aux n (Nat.le_refl _)
  · intro a ha
    rw [List.mem_map] at ha
    obtain ⟨x, hx, rfl⟩ := ha
    rw [List.mem_range] at hx
    have h1 := hr (x : Int) (by omega) (by omega)
    omega
section Len
variable {T : Tb}
/-- rows, each once -/
theorem rows_len (wt : WT T) {ρ : Int → Int} {n : Int} (h0 : 0 ≤ n) (hn : n ≤ 16) (hr : ∀ k, 0 ≤ k → k < n → 0 ≤ ρ k ∧ ρ k < Tr T) (hi : ∀ i j, 0 ≤ i → i < j → j < n → ρ i ≠ ρ j) : ((rowL (Tm T) (Tn T) ++ cat (fun k => rowL (cellS T (ρ k)) (Tn T)) 0 n.toNat).length : Int) ≤ 700 := by
  obtain ⟨⟨n0, n6⟩, ⟨r0, r16⟩, -, -, -, -, hs⟩ := wt
  rw [List.length_append]
  have e1 := rowL_len (f := Tm T) (n := Tn T)
  have e2 := cat_len (l := fun k => rowL (cellS T (ρ k)) (Tn T)) n.toNat 0
  have e3 : sm (fun k : Nat => ((rowL (cellS T (ρ (0 + (k : Int)))) (Tn T)).length : Int)) n.toNat ≤ sm (fun k : Nat => (fun r : Nat => sm (fun c => Lw (Tt T (r : Int) (c : Int)) + 1) (Tn T).toNat + (Tn T) * 2) (ρ (k : Int)).toNat) n.toNat := by
    refine sm_mono _ (fun k hk => ?_)
    have hrk := hr (k : Int) (by omega) (by omega)
    rw [rowL_len, show (0 : Int) + (k : Int) = (k : Int) by omega]
    show _ ≤ sm (fun c => Lw (Tt T (((ρ (k : Int)).toNat : Nat) : Int) (c : Int)) + 1) (Tn T).toNat + Tn T * 2
    rw [show (((ρ (k : Int)).toNat : Nat) : Int) = ρ (k : Int) by omega]
    have h5 : sm (fun c : Nat => ((cellS T (ρ (k : Int)) (c : Int)).length : Int) + 1) (Tn T).toNat ≤ sm (fun c : Nat => (Lw (Tt T (ρ (k : Int)) (c : Int)) + 1) + 2) (Tn T).toNat := sm_mono _ (fun c _ => by have := cellS_len (T := T) (r := ρ (k : Int)) (c := (c : Int)); omega)
    have h6 : sm (fun c : Nat => (Lw (Tt T (ρ (k : Int)) (c : Int)) + 1) + 2) (Tn T).toNat = sm (fun c : Nat => Lw (Tt T (ρ (k : Int)) (c : Int)) + 1) (Tn T).toNat + (((Tn T).toNat : Nat) : Int) * 2 := by
      rw [sm_add (f := fun c : Nat => Lw (Tt T (ρ (k : Int)) (c : Int)) + 1) (g := fun _ => 2), sm_const]
    rw [h6, show (((Tn T).toNat : Nat) : Int) = Tn T by omega] at h5
    exact h5
  have e4 := inj_sum (g := fun r : Nat => sm (fun c => Lw (Tt T (r : Int) (c : Int)) + 1) (Tn T).toNat + (Tn T) * 2) (ρ := ρ) (n := n.toNat) (N := (Tr T).toNat) (fun k _ => by
    have : 0 ≤ sm (fun c => Lw (Tt T (k : Int) (c : Int)) + 1) (Tn T).toNat := sm_nn _ (fun c _ => by have := Lw_nn (s := Tt T (k : Int) (c : Int)); omega)
    omega) (fun k k0 k1 => by have := hr k k0 (by omega); omega) (fun i j i0 ij jn => hi i j i0 ij (by omega))
  have e5 : sm (fun r : Nat => sm (fun c => Lw (Tt T (r : Int) (c : Int)) + 1) (Tn T).toNat + (Tn T) * 2) (Tr T).toNat = sm (fun r : Nat => sm (fun c => Lw (Tt T (r : Int) (c : Int)) + 1) (Tn T).toNat) (Tr T).toNat + (((Tr T).toNat : Nat) : Int) * ((Tn T) * 2) := by
    rw [sm_add (f := fun r : Nat => sm (fun c => Lw (Tt T (r : Int) (c : Int)) + 1) (Tn T).toNat) (g := fun _ => Tn T * 2), sm_const]
  have e6 : (((Tr T).toNat : Nat) : Int) * ((Tn T) * 2) ≤ 16 * 12 := by
    have a1 : (((Tr T).toNat : Nat) : Int) * ((Tn T) * 2) ≤ 16 * ((Tn T) * 2) := Int.mul_le_mul_of_nonneg_right (by omega) (by omega)
    omega
  rw [e5] at e4
  simp only at e2 e3 e4
  omega
/-- one column's cells, each once -/
theorem col_len (wt : WT T) {c : Int} (c0 : 0 ≤ c) (c1 : c < Tn T) : sm (fun r : Nat => Lw (Tt T (r : Int) c)) (Tr T).toNat ≤ 241 := by
  obtain ⟨⟨n0, n6⟩, ⟨r0, r16⟩, -, -, -, -, hs⟩ := wt
  have h1 : sm (fun r : Nat => Lw (Tt T (r : Int) c)) (Tr T).toNat ≤ sm (fun r : Nat => sm (fun c => Lw (Tt T (r : Int) (c : Int)) + 1) (Tn T).toNat) (Tr T).toNat := by
    refine sm_mono _ (fun r _ => ?_)
    have key : ∀ n : Nat, c < (n : Int) → Lw (Tt T (r : Int) c) ≤ sm (fun c => Lw (Tt T (r : Int) (c : Int)) + 1) n := by
      intro n
      induction n with
      | zero => intro h; omega
      | succ n ih =>
        intro h
        show _ ≤ sm _ n + (Lw (Tt T (r : Int) (n : Int)) + 1)
        have hn : 0 ≤ sm (fun c => Lw (Tt T (r : Int) (c : Int)) + 1) n := sm_nn _ (fun c _ => by have := Lw_nn (s := Tt T (r : Int) (c : Int)); omega)
        by_cases e : c = (n : Int)
        · subst e; omega
        · have := ih (by omega)
          have := Lw_nn (s := Tt T (r : Int) (n : Int))
          omega
    exact key (Tn T).toNat (by omega)
  have h2 : 0 ≤ sm (fun c => ((Tm T (c : Int)).length : Int) + 1) (Tn T).toNat := sm_nn _ (fun c _ => by omega)
  omega
end Len
