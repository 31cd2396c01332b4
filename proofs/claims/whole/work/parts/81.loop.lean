/-! LOOPS AND RANGES: tools for the pure part -/
theorem w32_id {x : Int} (h1 : -2147483648 ≤ x) (h2 : x < 2147483648) : w32 x = x := by
  unfold w32
  exact Int32.toInt_ofInt_of_le h1 h2
theorem w64_id {x : Int} (h1 : -9223372036854775808 ≤ x) (h2 : x < 9223372036854775808) : w64 x = x := by
  unfold w64
  exact Int64.toInt_ofInt_of_le h1 h2
theorem w32_rng (x : Int) : -2147483648 ≤ w32 x ∧ w32 x < 2147483648 := by
  unfold w32
  exact ⟨Int32.le_toInt _, Int32.toInt_lt _⟩
theorem w64_rng (x : Int) : -9223372036854775808 ≤ w64 x ∧ w64 x < 9223372036854775808 := by
  unfold w64
  exact ⟨Int64.le_toInt _, Int64.toInt_lt _⟩
/-- a loop that keeps Inv and makes the measure less ends, with an answer that Post takes -/
theorem aLoop_ok {X V : Type} {f : X → Option (X ⊕ V)} (Inv : X → Prop) (μ : X → Nat) (Post : V → Prop) (h : ∀ x, Inv x → (∃ y, f x = some (.inl y) ∧ Inv y ∧ μ y < μ x) ∨ (∃ v, f x = some (.inr v) ∧ Post v)) : ∀ (n : Nat) (x : X), Inv x → μ x < n → ∃ v, aLoop f n x = some v ∧ Post v := by
  intro n
  induction n with
  | zero => intro x _ hn; omega
  | succ n ih =>
    intro x hx hn
    unfold aLoop
    rcases h x hx with ⟨y, h1, h2, h3⟩ | ⟨v, h1, h2⟩
    · rw [h1]
      exact ih y h2 (by omega)
    · rw [h1]
      exact ⟨v, rfl, h2⟩
/-- two loops side by side: the same turns, related states, related answers -/
theorem aLoop_two {X Y V U : Type} {f : X → Option (X ⊕ V)} {g : Y → Option (Y ⊕ U)} (Inv : X → Y → Prop) (μ : X → Nat) (Post : V → U → Prop) (h : ∀ x y, Inv x y → (∃ x' y', f x = some (.inl x') ∧ g y = some (.inl y') ∧ Inv x' y' ∧ μ x' < μ x) ∨ (∃ v u, f x = some (.inr v) ∧ g y = some (.inr u) ∧ Post v u)) : ∀ (n : Nat) (x : X) (y : Y), Inv x y → μ x < n → ∃ v u, aLoop f n x = some v ∧ aLoop g n y = some u ∧ Post v u := by
  intro n
  induction n with
  | zero => intro x y _ hn; omega
  | succ n ih =>
    intro x y hx hn
    unfold aLoop
    rcases h x y hx with ⟨x', y', h1, h2, h3, h4⟩ | ⟨v, u, h1, h2, h3⟩
    · rw [h1, h2]
      exact ih x' y' h3 (by omega)
    · rw [h1, h2]
      exact ⟨v, u, rfl, rfl, h3⟩
/-- a loop's function by its turns: F is what the loop answers from each state that Inv takes -/
theorem aLoop_eq {X V : Type} {f : X → Option (X ⊕ V)} (Inv : X → Prop) (μ : X → Nat) (F : X → V) (h : ∀ x, Inv x → (∃ y, f x = some (.inl y) ∧ Inv y ∧ μ y < μ x ∧ F y = F x) ∨ f x = some (.inr (F x))) : ∀ (n : Nat) (x : X), Inv x → μ x < n → aLoop f n x = some (F x) := by
  intro n
  induction n with
  | zero => intro x _ hn; omega
  | succ n ih =>
    intro x hx hn
    unfold aLoop
    rcases h x hx with ⟨y, h1, h2, h3, h4⟩ | h1
    · rw [h1]
      exact (ih y h2 (by omega)).trans (by rw [h4])
    · rw [h1]
theorem mup_same (m : aM) (x i v : Int) : mup m x i v x i = v := if_pos ⟨rfl, rfl⟩
theorem mup_ref {m : aM} {x i v y j : Int} (h : y ≠ x) : mup m x i v y j = m y j := if_neg (fun e => h e.1)
theorem mup_idx {m : aM} {x i v y j : Int} (h : j ≠ i) : mup m x i v y j = m y j := if_neg (fun e => h e.2)
/-- a letter, a digit, as lists of ints hold them -/
def isL (c : Int) : Bool := decide ((65 ≤ c ∧ c ≤ 90) ∨ (97 ≤ c ∧ c ≤ 122))
def isD (c : Int) : Bool := decide (48 ≤ c ∧ c ≤ 57)
/-- the text of a stretch -/
def sl (m : aM) (x a b : Int) : List Int := (List.range (b - a).toNat).map fun (k : Nat) => m x (a + (k : Int))
theorem sl_len (m : aM) (x a b : Int) : (sl m x a b).length = (b - a).toNat := by unfold sl; simp
theorem sl_at {m : aM} {x a b : Int} {k : Nat} (h : (k : Int) < b - a) : (sl m x a b)[k]? = some (m x (a + (k : Int))) := by
  unfold sl
  rw [List.getElem?_map, List.getElem?_range (by omega)]
  rfl
theorem sl_cons {m : aM} {x a b : Int} (h : a < b) : sl m x a b = m x a :: sl m x (a + 1) b := by
  unfold sl
  rw [show (b - a).toNat = (b - (a + 1)).toNat + 1 by omega, List.range_succ_eq_map, List.map_cons, List.map_map]
  congr 1
  · show m x (a + ((0 : Nat) : Int)) = m x a
    rw [show a + ((0 : Nat) : Int) = a by omega]
  · refine List.map_congr_left fun k _ => ?_
    show m x (a + ((k + 1 : Nat) : Int)) = m x (a + 1 + (k : Int))
    rw [show a + ((k + 1 : Nat) : Int) = a + 1 + (k : Int) by omega]
theorem sl_nil {m : aM} {x a b : Int} (h : b ≤ a) : sl m x a b = [] := by
  unfold sl
  rw [show (b - a).toNat = 0 by omega]
  rfl
