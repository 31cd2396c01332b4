/-! AN EXECUTABLE RUN of the abstract machine -/
def aLp (B : List aD) (D : aD) (sub : Nat → aC → Option aR) : Nat → aC → Option aR
  | 0, _ => none
  | n + 1, c => match aFin D c with
    | some r => some r
    | none => match aStep D c with
      | some c' => aLp B D sub n c'
      | none => match aCall D c with
        | some (q2, as, c1) => if aFit (aMd B q2) as = true then (match sub q2 (aEnt (aMd B q2) as c1.2.2.2.1 c1.2.2.2.2) with
            | some r2 => (match aRet D c.1 c1 r2 with
              | some c2 => aLp B D sub n c2
              | none => none)
            | none => none) else none
        | none => none
def aGoN (B : List aD) (n : Nat) : Nat → Nat → aC → Option aR
  | 0, _, _ => none
  | d + 1, q, c => aLp B (aMd B q) (aGoN B n d) n c
theorem aLp_ok {B : List aD} {d q : Nat} {sub : Nat → aC → Option aR} (hs : ∀ q2 c r, sub q2 c = some r → Go B d q2 c r) : ∀ (n : Nat) (c : aC) (r : aR), aLp B (aMd B q) sub n c = some r → Go B (d + 1) q c r := by
  intro n
  induction n with
  | zero => intro c r h; cases h
  | succ n ih =>
    intro c r h
    unfold aLp at h
    split at h
    · rename_i r0 hf
      cases h
      exact Go.fin rfl hf
    · split at h
      · rename_i c' hst
        exact Go.step rfl hst (ih _ _ h)
      · split at h
        · rename_i q2 as c1 hc
          by_cases hfit : aFit (aMd B q2) as = true
          · rw [if_pos hfit] at h
            split at h
            · rename_i r2 h2
              split at h
              · rename_i c2 h3
                exact Go.call rfl hc rfl (hs _ _ _ h2) h3 (ih _ _ h) hfit
              · cases h
            · cases h
          · rw [if_neg hfit] at h
            cases h
        · cases h
theorem aGoN_ok {B : List aD} {n : Nat} : ∀ (d q : Nat) (c : aC) (r : aR), aGoN B n d q c = some r → Go B d q c r := by
  intro d
  induction d with
  | zero => intro q c r h; cases h
  | succ d ih => intro q c r h; exact aLp_ok ih n c r h
