/-! THE GEOMETRY when the law's objects stand: 1 the table, 130 the reference, 156 the law's row; the tokens are 24 .. 120 -/
def rfT : List (List Int) := [[], [2, 4, 6, 8, 12, 21, 123], [3], [], [5], [], [7], [], [9, 10, 11], [], [], [], [13, 15, 16, 17, 18, 19, 20], [14], [], [], [], [], [], [], [], [22, 121, 122], [23], [], [], [], [], [], [], [], [], [], [], [], [], [], [], [], [], [], [], [], [], [], [], [], [], [], [], [], [], [], [], [], [], [], [], [], [], [], [], [], [], [], [], [], [], [], [], [], [], [], [], [], [], [], [], [], [], [], [], [], [], [], [], [], [], [], [], [], [], [], [], [], [], [], [], [], [], [], [], [], [], [], [], [], [], [], [], [], [], [], [], [], [], [], [], [], [], [], [], [], [], [0, 0, 0, 0, 0, 0, 124, 125, 126, 127, 128, 129], [], [], [], [], [], [], [0, 131, 0, 0, 0, 0, 132, 133, 0, 134, 135, 136, 137, 0, 138, 139, 140, 0, 141, 0, 0, 0, 0, 0, 0, 0, 0, 142, 143, 144, 145, 146, 147, 148, 0, 149, 150, 0, 0, 0, 0, 151, 152, 153, 154, 0, 155], [], [], [], [], [], [], [], [], [], [], [], [], [], [], [], [], [], [], [], [], [], [], [], [], [], []]
def RF (x j : Int) : Int := if x = 23 then (if 0 ≤ j ∧ j < 97 then 24 + j else 0) else if 0 ≤ x ∧ 0 ≤ j then (rfT.getD x.toNat []).getD j.toNat 0 else 0
theorem RF23 {j : Int} (h1 : 0 ≤ j) (h2 : j < 97) : RF 23 j = 24 + j := by
  unfold RF
  rw [if_pos rfl, if_pos ⟨h1, h2⟩]
def lnT : List Int := [0, 0, 0, 240, 0, 96, 0, 700, 0, 102, 102, 102, 0, 0, 240, 102, 102, 102, 102, 102, 6, 0, 0, 97, 0, 0, 0, 0, 0, 0, 0, 0, 0, 0, 0, 0, 0, 0, 0, 0, 0, 0, 0, 0, 0, 0, 0, 0, 0, 0, 0, 0, 0, 0, 0, 0, 0, 0, 0, 0, 0, 0, 0, 0, 0, 0, 0, 0, 0, 0, 0, 0, 0, 0, 0, 0, 0, 0, 0, 0, 0, 0, 0, 0, 0, 0, 0, 0, 0, 0, 0, 0, 0, 0, 0, 0, 0, 0, 0, 0, 0, 0, 0, 0, 0, 0, 0, 0, 0, 0, 0, 0, 0, 0, 0, 0, 0, 0, 0, 0, 0, 96, 96, 0, 16, 16, 16, 16, 16, 16, 0, 600, 6, 6, 96, 96, 96, 96, 242, 242, 242, 243, 100, 100, 100, 100, 100, 100, 100, 100, 100, 16, 16, 16, 16, 2000, 1]
def LEN (x : Int) : Int := lnT.getD x.toNat 0
def shT : List Nat := [0, 17, 11, 30, 11, 30, 11, 30, 13, 31, 31, 33, 14, 11, 30, 31, 31, 33, 31, 32, 31, 12, 16, 34, 15, 15, 15, 15, 15, 15, 15, 15, 15, 15, 15, 15, 15, 15, 15, 15, 15, 15, 15, 15, 15, 15, 15, 15, 15, 15, 15, 15, 15, 15, 15, 15, 15, 15, 15, 15, 15, 15, 15, 15, 15, 15, 15, 15, 15, 15, 15, 15, 15, 15, 15, 15, 15, 15, 15, 15, 15, 15, 15, 15, 15, 15, 15, 15, 15, 15, 15, 15, 15, 15, 15, 15, 15, 15, 15, 15, 15, 15, 15, 15, 15, 15, 15, 15, 15, 15, 15, 15, 15, 15, 15, 15, 15, 15, 15, 15, 15, 31, 31, 10, 31, 31, 31, 31, 32, 33, 18, 31, 32, 31, 31, 31, 33, 32, 31, 31, 33, 31, 31, 31, 31, 31, 31, 31, 32, 31, 31, 31, 31, 32, 31, 31, 32]
def SHP (x : Int) : Nat := shT.getD x.toNat 0
def G0 : aG := (156, SHP, LEN, RF)
def XX : aX := (G0, 0, 0)
abbrev ck (k : Int) : Prop := k = 2 ∨ k = 4 ∨ k = 6 ∨ k = 13
def aJ (z : aV) : aV := if z.1 = 1 then (99, 0) else z
def mkT (t : Nat) (v : Nat × Int × aM) : aR := if 2 ≤ v.1 then (v.1, (0, 0), v.2.2, (G0, 1, 6)) else (v.1, (t, v.2.1), v.2.2, XX)
def mkU (v : Nat × Int × aM) : aR := if 2 ≤ v.1 then (v.1, (0, 0), v.2.2, (G0, 1, 6)) else (v.1, (0, 0), v.2.2, XX)
section Rules2
variable {V : Type} {B : List aD} {d q : Nat} {r : aR} {K : V → Prop} {D : aD} {c c1 c2 : aC} {a b : Option V}
theorem T_g34 (hD : aMd B q = D) {P : Prop} {hP : Decidable P} {rv rv0 : Int} {cf : Int → aC} (h : aStep D c = @ite _ P hP (if rv0 = 0 then none else some (cf rv0)) none) (e : P → rv0 = rv) (h0 : P → ¬ rv = 0) (k1 : P → aT B (d + 1) q r K a (cf rv)) : aT B (d + 1) q r K (@gd V P hP a) c := by
  intro v hv hk
  unfold gd at hv
  by_cases hp : P
  · rw [if_pos hp] at h hv
    rw [e hp, if_neg (h0 hp)] at h
    exact Go.step hD h (k1 hp v hv hk)
  · rw [if_neg hp] at hv
    cases hv
theorem T_gdd (hD : aMd B q = D) {P Q : Prop} {hP : Decidable P} {hQ : Decidable Q} (h : aStep D c = @ite _ P hP (@ite _ Q hQ (some c1) none) none) (k1 : P → Q → aT B (d + 1) q r K a c1) : aT B (d + 1) q r K (@gd V P hP (@gd V Q hQ a)) c := by
  intro v hv hk
  unfold gd at hv
  by_cases hp : P
  · rw [if_pos hp] at h hv
    by_cases hq : Q
    · rw [if_pos hq] at h hv
      exact Go.step hD h (k1 hp hq v hv hk)
    · rw [if_neg hq] at hv
      cases hv
  · rw [if_neg hp] at hv
    cases hv
theorem T_gk (hD : aMd B q = D) {P : Prop} {hP : Decidable P} (h : aStep D c = @ite _ P hP (some c1) none) (hp : P) (k1 : aT B (d + 1) q r K a c1) : aT B (d + 1) q r K a c := T_step hD (h.trans (if_pos hp)) k1
theorem T_gnk (hD : aMd B q = D) {P : Prop} {hP : Decidable P} (h : aStep D c = @ite _ P hP none (some c1)) (hp : ¬ P) (k1 : aT B (d + 1) q r K a c1) : aT B (d + 1) q r K a c := T_step hD (h.trans (if_neg hp)) k1
theorem T_g34k (hD : aMd B q = D) {P : Prop} {hP : Decidable P} {rv : Int} (h : aStep D c = @ite _ P hP (if rv = 0 then none else some c1) none) (hp : P) (h0 : ¬ rv = 0) (k1 : aT B (d + 1) q r K a c1) : aT B (d + 1) q r K a c := T_step hD (h.trans ((if_pos hp).trans (if_neg h0))) k1
theorem T_gdk (hD : aMd B q = D) {P Q : Prop} {hP : Decidable P} {hQ : Decidable Q} (h : aStep D c = @ite _ P hP (@ite _ Q hQ (some c1) none) none) (hq : Q) (k1 : P → aT B (d + 1) q r K a c1) : aT B (d + 1) q r K (@gd V P hP a) c := T_gd hD (by rw [h, if_pos hq]) k1
theorem T_back0 {X : Type} {Hd : X → aC → Prop} {x : X} (h : Hd x c) : aT B d q r (aTurn B d q r Hd K) (some (Sum.inl x)) c := fun v hv hk => by cases hv; exact hk c h
theorem T_back1 {X Y : Type} {Hd : X → aC → Prop} {He : Y → aC → Prop} {x : X} (h : Hd x c) : aT B d q r (aTurn B d q r He (aTurn B d q r Hd K)) (some (Sum.inr (Sum.inl x))) c := fun v hv hk => by cases hv; exact hk c h
theorem T_back2 {X Y Z : Type} {Hd : X → aC → Prop} {He : Y → aC → Prop} {Hf : Z → aC → Prop} {x : X} (h : Hd x c) : aT B d q r (aTurn B d q r Hf (aTurn B d q r He (aTurn B d q r Hd K))) (some (Sum.inr (Sum.inr (Sum.inl x)))) c := fun v hv hk => by cases hv; exact hk c h
/-- a function that always answers -/
def aU (B : List aD) (d q : Nat) (mk : V → aR) (v : V) (c : aC) : Prop := Go B d q c (mk v)
theorem U_run {mk : V → aR} {v : V} (hD : aMd B q = D) (n : Nat) {c' : aC} (h : aRun D n c = some c') (k : aU B (d + 1) q mk v c') : aU B (d + 1) q mk v c := Go.run hD n h k
theorem U_step {mk : V → aR} {v : V} (hD : aMd B q = D) {c' : aC} (h : aStep D c = some c') (k : aU B (d + 1) q mk v c') : aU B (d + 1) q mk v c := Go.step hD h k
theorem U_if {mk : V → aR} {v w : V} (hD : aMd B q = D) {P : Prop} {hP : Decidable P} (h : aStep D c = @ite _ P hP (some c1) (some c2)) (k1 : P → aU B (d + 1) q mk v c1) (k2 : ¬ P → aU B (d + 1) q mk w c2) : aU B (d + 1) q mk (@ite _ P hP v w) c := by
  by_cases hp : P
  · rw [if_pos hp] at h ⊢
    exact Go.step hD h (k1 hp)
  · rw [if_neg hp] at h ⊢
    exact Go.step hD h (k2 hp)
theorem U_call0 {mk : V → aR} {v : V} (hD : aMd B q = D) {D2 : aD} {q2 : Nat} {as : List aV} {r2 : aR} (hc : aCall D c = some (q2, as, c1)) (hD2 : aMd B q2 = D2) (hg : Go B d q2 (aEnt D2 as c1.2.2.2.1 c1.2.2.2.2) r2) (hr : aRet D c.1 c1 r2 = some c2) (k : aU B (d + 1) q mk v c2) (hn : aFit D2 as = true := by rfl) : aU B (d + 1) q mk v c := Go.call hD hc hD2 hg hr k hn
end Rules2

