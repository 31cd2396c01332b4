/-! THE START -/
theorem iS_row {m : aM} {y : Int} : ∀ n : Nat, (y < 24 ∨ 24 + (n : Int) ≤ y) → iS m n y = m y := by
  intro n
  induction n with
  | zero => intro _; rfl
  | succ n ih =>
    intro h
    funext j
    show iK (iS m n) (24 + (n : Int)) y j = m y j
    unfold iK
    rw [mup_ref (by omega), mup_ref (by omega), mup_ref (by omega), mup_ref (by omega), ih (by omega)]
theorem RI_start (S : Int → Int) : RI S (iM (iX (fun x j => if x = -1 then S j else 0))) := by
  obtain ⟨m, hm⟩ : ∃ m, m = iM (iX (fun x j => if x = -1 then S j else 0)) := ⟨_, rfl⟩
  rw [← hm]
  have z (y j : Int) (h1 : y < 24 ∨ 121 ≤ y) (h2 : y ≠ -1) (h3 : ¬ (y = 130 ∧ (j = 25 ∨ j = 37))) (h4 : ¬ (y = 1 ∧ j = 7)) (h5 : ¬ (y = 123 ∧ (j = 1 ∨ j = 2 ∨ j = 3))) (h6 : ¬ (y = 21 ∧ j = 6)) : m y j = 0 := by
    rw [hm]
    unfold iM iX mup
    rw [if_neg (by omega), if_neg (by omega), if_neg (by omega), if_neg (by omega), if_neg (by omega), if_neg (by omega), if_neg (by omega), iS_row 97 (by omega)]
    exact if_neg h2
  have e25 : m 130 25 = -1 := by rw [hm]; rfl
  have e37 : m 130 37 = -1 := by rw [hm]; rfl
  have e17 : m 1 7 = -1 := by rw [hm]; rfl
  have n21 : m 2 1 = 0 := z 2 1 (by omega) (by omega) (by omega) (by omega) (by omega) (by omega)
  have n41 : m 4 1 = 0 := z 4 1 (by omega) (by omega) (by omega) (by omega) (by omega) (by omega)
  have n61 : m 6 1 = 0 := z 6 1 (by omega) (by omega) (by omega) (by omega) (by omega) (by omega)
  have n13 : m 13 1 = 0 := z 13 1 (by omega) (by omega) (by omega) (by omega) (by omega) (by omega)
  refine ⟨(0, 0, fun _ => [], fun _ _ => 0, fun _ _ => []), ?_, ?_, ?_, ?_, ?_, ?_, ?_, ?_, ?_⟩
  · refine ⟨⟨by decide, by decide⟩, ⟨by decide, by decide⟩, fun _ => rfl, fun c h1 h2 => absurd h2 (by show ¬ c < 0; omega), fun c d h1 h2 h3 => absurd h3 (by show ¬ d < 0; omega), fun r c h1 h2 _ _ => absurd h2 (by show ¬ r < 0; omega), by decide⟩
  · refine ⟨⟨by omega, by omega⟩, ?_, fun i i0 i1 => absurd i1 (by omega)⟩
    rw [n21]
    exact z 130 2 (by omega) (by omega) (by omega) (by omega) (by omega) (by omega)
  · refine ⟨⟨by omega, by omega⟩, ?_, fun i i0 i1 => absurd i1 (by omega)⟩
    rw [n41]
    exact z 130 3 (by omega) (by omega) (by omega) (by omega) (by omega) (by omega)
  · rw [e25, e17]
  · refine ⟨⟨by omega, by omega⟩, ?_, fun i i0 i1 => absurd i1 (by omega)⟩
    rw [n61]
    exact z 130 45 (by omega) (by omega) (by omega) (by omega) (by omega) (by omega)
  · refine ⟨z 12 8 (by omega) (by omega) (by omega) (by omega) (by omega) (by omega), z 12 7 (by omega) (by omega) (by omega) (by omega) (by omega) (by omega), ⟨⟨by omega, by rw [n13]; decide, by decide⟩, fun j j0 j1 => absurd j1 (by omega)⟩, fun c h1 h2 => absurd h2 (by show ¬ c < 0; omega), fun r c h1 h2 _ _ => absurd h2 (by show ¬ r < 0; omega), fun c h1 h2 => absurd h2 (by show ¬ c < 0; omega)⟩
  · refine ⟨z 130 4 (by omega) (by omega) (by omega) (by omega) (by omega) (by omega), z 130 5 (by omega) (by omega) (by omega) (by omega) (by omega) (by omega), fun c h1 h2 => absurd h2 (by show ¬ c < 0; omega), fun r c h1 h2 _ _ => absurd h2 (by show ¬ r < 0; omega)⟩
  · exact Or.inl ⟨z 123 0 (by omega) (by omega) (by omega) (by omega) (by omega) (by omega), e37⟩
  · funext j
    rw [hm]
    unfold iM iX mup
    rw [if_neg (by omega), if_neg (by omega), if_neg (by omega), if_neg (by omega), if_neg (by omega), if_neg (by omega), if_neg (by omega), iS_row 97 (by omega)]
    exact if_pos rfl
