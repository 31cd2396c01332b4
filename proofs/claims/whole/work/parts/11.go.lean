/-! RUNS OF THE ABSTRACT MACHINE: Go B d q c r: method q of the program B, at c, ends with r, its calls at most d deep -/
def aMd (B : List aD) (q : Nat) : aD := B.getD q default
/-- the arguments have place in the callee's locals -/
def aFit (D : aD) (as : List aV) : Bool := Nat.ble (as.flatMap fun v => if v.1 = 1 then [v, (99, 0)] else [v]).length D.2.1
def Go (B : List aD) : Nat → Nat → aC → aR → Prop
  | 0, _, _, _ => False
  | d + 1, q, c, r => ∀ P : aC → Prop, (∀ c, aFin (aMd B q) c = some r → P c) → (∀ c c', aStep (aMd B q) c = some c' → P c' → P c) →
      (∀ c q2 as c1 r2 c2, aCall (aMd B q) c = some (q2, as, c1) → aFit (aMd B q2) as = true → Go B d q2 (aEnt (aMd B q2) as c1.2.2.2.1 c1.2.2.2.2) r2 → aRet (aMd B q) c.1 c1 r2 = some c2 → P c2 → P c) → P c
theorem Go.fin {B : List aD} {d q : Nat} {c : aC} {r : aR} {D : aD} (hD : aMd B q = D) (h : aFin D c = some r) : Go B (d + 1) q c r := fun P h1 _ _ => h1 c (by rw [hD]; exact h)
theorem Go.step {B : List aD} {d q : Nat} {c c' : aC} {r : aR} {D : aD} (hD : aMd B q = D) (h : aStep D c = some c') (k : Go B (d + 1) q c' r) : Go B (d + 1) q c r := fun P h1 h2 h3 => h2 c c' (by rw [hD]; exact h) (k P h1 h2 h3)
theorem Go.call {B : List aD} {d q : Nat} {c c2 : aC} {r : aR} {D D2 : aD} (hD : aMd B q = D) {q2 : Nat} {as : List aV} {c1 : aC} {r2 : aR} (hc : aCall D c = some (q2, as, c1)) (hD2 : aMd B q2 = D2) (hg : Go B d q2 (aEnt D2 as c1.2.2.2.1 c1.2.2.2.2) r2) (hr : aRet D c.1 c1 r2 = some c2) (k : Go B (d + 1) q c2 r) (hn : aFit D2 as = true := by rfl) : Go B (d + 1) q c r :=
  fun P h1 h2 h3 => h3 c q2 as c1 r2 c2 (by rw [hD]; exact hc) (by rw [hD2]; exact hn) (by rw [hD2]; exact hg) (by rw [hD]; exact hr) (k P h1 h2 h3)
theorem Go.run {B : List aD} {d q : Nat} {r : aR} {D : aD} (hD : aMd B q = D) : ∀ (n : Nat) {c c' : aC}, aRun D n c = some c' → Go B (d + 1) q c' r → Go B (d + 1) q c r := by
  intro n
  induction n with
  | zero =>
    intro c c' h k
    cases h
    exact k
  | succ n ih =>
    intro c c' h k
    unfold aRun at h
    cases hs : aStep D c with
    | none => rw [hs] at h; cases h
    | some c1 => rw [hs] at h; exact Go.step hD hs (ih h k)
theorem Go.mono1 {B : List aD} : ∀ {d : Nat} {q : Nat} {c : aC} {r : aR}, Go B d q c r → Go B (d + 1) q c r := by
  intro d
  induction d with
  | zero => intro q c r h; exact h.elim
  | succ d ih =>
    intro q c r h P h1 h2 h3
    exact h P h1 h2 (fun c q2 as c1 r2 c2 a n b e f => h3 c q2 as c1 r2 c2 a n (ih b) e f)
theorem Go.mono {B : List aD} {d e q : Nat} {c : aC} {r : aR} (h : Go B d q c r) (hle : d ≤ e) : Go B e q c r := by
  induction hle with
  | refl => exact h
  | step _ ih => exact ih.mono1
/-- o, if it answers v, and K v: then the run from c ends with r -/
def aT {V : Type} (B : List aD) (d q : Nat) (r : aR) (K : V → Prop) (o : Option V) (c : aC) : Prop := ∀ v, o = some v → K v → Go B d q c r
section Rules
variable {V : Type} {B : List aD} {d q : Nat} {r : aR} {K : V → Prop} {D : aD} {c c1 c2 : aC} {a b : Option V}
theorem T_run (hD : aMd B q = D) (n : Nat) {c' : aC} (h : aRun D n c = some c') (k : aT B (d + 1) q r K a c') : aT B (d + 1) q r K a c := fun v hv hk => Go.run hD n h (k v hv hk)
theorem T_step (hD : aMd B q = D) {c' : aC} (h : aStep D c = some c') (k : aT B (d + 1) q r K a c') : aT B (d + 1) q r K a c := fun v hv hk => Go.step hD h (k v hv hk)
theorem T_if (hD : aMd B q = D) {P : Prop} {hP : Decidable P} (h : aStep D c = @ite _ P hP (some c1) (some c2)) (k1 : P → aT B (d + 1) q r K a c1) (k2 : ¬ P → aT B (d + 1) q r K b c2) : aT B (d + 1) q r K (@ite _ P hP a b) c := by
  intro v hv hk
  by_cases hp : P
  · rw [if_pos hp] at h hv
    exact Go.step hD h (k1 hp v hv hk)
  · rw [if_neg hp] at h hv
    exact Go.step hD h (k2 hp v hv hk)
abbrev gd {V : Type} (P : Prop) [Decidable P] (o : Option V) : Option V := if P then o else none
theorem T_gd (hD : aMd B q = D) {P : Prop} {hP : Decidable P} (h : aStep D c = @ite _ P hP (some c1) none) (k1 : P → aT B (d + 1) q r K a c1) : aT B (d + 1) q r K (@gd V P hP a) c := by
  intro v hv hk
  unfold gd at hv
  by_cases hp : P
  · rw [if_pos hp] at h hv
    exact Go.step hD h (k1 hp v hv hk)
  · rw [if_neg hp] at hv
    cases hv
theorem T_gn (hD : aMd B q = D) {P : Prop} {hP : Decidable P} (h : aStep D c = @ite _ P hP none (some c1)) (k1 : ¬ P → aT B (d + 1) q r K a c1) : aT B (d + 1) q r K (@ite _ P hP none a) c := by
  intro v hv hk
  by_cases hp : P
  · rw [if_pos hp] at hv
    cases hv
  · rw [if_neg hp] at h hv
    exact Go.step hD h (k1 hp v hv hk)
theorem T_fin (hD : aMd B q = D) {v : V} {r1 : aR} (h : aFin D c = some r1) (hk : K v → r = r1) : aT B (d + 1) q r K (some v) c := by
  intro v' hv hk'
  cases hv
  rw [hk hk']
  exact Go.fin hD h
theorem T_gfin (hD : aMd B q = D) {P : Prop} {hP : Decidable P} {v : V} {r1 : aR} (h : P → aFin D c = some r1) (hk : K v → r = r1) : aT B (d + 1) q r K (@gd V P hP (some v)) c := by
  intro v' hv hk'
  unfold gd at hv
  by_cases hp : P
  · rw [if_pos hp] at hv
    cases hv
    rw [hk hk']
    exact Go.fin hD (h hp)
  · rw [if_neg hp] at hv
    cases hv
/-- a call of a method whose run is known -/
theorem T_call0 (hD : aMd B q = D) {D2 : aD} {q2 : Nat} {as : List aV} {r2 : aR} (hc : aCall D c = some (q2, as, c1)) (hD2 : aMd B q2 = D2) (hg : Go B d q2 (aEnt D2 as c1.2.2.2.1 c1.2.2.2.2) r2) (hr : aRet D c.1 c1 r2 = some c2) (k : aT B (d + 1) q r K a c2) (hn : aFit D2 as = true := by rfl) : aT B (d + 1) q r K a c := fun v hv hk => Go.call hD hc hD2 hg hr (k v hv hk) hn
/-- a call of a method whose function may fail -/
theorem T_call {V2 : Type} {mk : V2 → aR} {o2 : Option V2} {k2 : V2 → Option V} {cc : V2 → aC} (hD : aMd B q = D) {D2 : aD} {q2 : Nat} {as : List aV} (hc : aCall D c = some (q2, as, c1)) (hD2 : aMd B q2 = D2) (hg : ∀ v2, o2 = some v2 → Go B d q2 (aEnt D2 as c1.2.2.2.1 c1.2.2.2.2) (mk v2)) (hr : ∀ v2, aRet D c.1 c1 (mk v2) = some (cc v2)) (k : ∀ v2, aT B (d + 1) q r K (k2 v2) (cc v2)) (hn : aFit D2 as = true := by rfl) : aT B (d + 1) q r K (o2.bind k2) c := by
  intro v hv hk
  cases h2 : o2 with
  | none => rw [h2] at hv; cases hv
  | some v2 => rw [h2] at hv; exact Go.call hD hc hD2 (hg v2 h2) (hr v2) (k v2 v hv hk) hn
theorem T_map {V2 : Type} {f : V2 → V} {o : Option V2} (k : aT B d q r (fun v => K (f v)) o c) : aT B d q r K (o.map f) c := by
  intro v hv hk
  cases h2 : o with
  | none => rw [h2] at hv; cases hv
  | some v2 => rw [h2] at hv; cases hv; exact k v2 h2 hk
theorem T_out {v : V} (h : K v → Go B d q c r) : aT B d q r K (some v) c := by
  intro v' hv hk
  cases hv
  exact h hk
end Rules
def aLoop {X V : Type} (f : X → Option (X ⊕ V)) : Nat → X → Option V
  | 0, _ => none
  | n + 1, x => match f x with
    | none => none
    | some (.inl y) => aLoop f n y
    | some (.inr v) => some v
def FU : Nat := 1000000
/-- what is due behind a turn of a loop -/
def aTurn {X V : Type} (B : List aD) (d q : Nat) (r : aR) (Hd : X → aC → Prop) (K : V → Prop) : X ⊕ V → Prop
  | .inl x => ∀ c, Hd x c → Go B d q c r
  | .inr v => K v
theorem T_loop {X V : Type} {B : List aD} {d q : Nat} {r : aR} {K : V → Prop} {f : X → Option (X ⊕ V)} {Hd : X → aC → Prop} (hb : ∀ x c, Hd x c → aT B d q r (aTurn B d q r Hd K) (f x) c) : ∀ (n : Nat) (x : X) (c : aC), Hd x c → aT B d q r K (aLoop f n x) c := by
  intro n
  induction n with
  | zero => intro x c _ v hv; cases hv
  | succ n ih =>
    intro x c hc v hv hk
    unfold aLoop at hv
    cases hf : f x with
    | none => rw [hf] at hv; cases hv
    | some t =>
      rw [hf] at hv
      cases t with
      | inl y => exact hb x c hc _ hf (fun c' hc' => ih y c' hc' v hv hk)
      | inr w => cases hv; exact hb x c hc _ hf hk
