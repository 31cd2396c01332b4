/-! THE LAW'S HELPERS AND ITS TURNS: what the pure part must give, and the run out of it -/
section Steps
variable {B : List aD} {d q : Nat} {r : aR} {D : aD} {L st : List aV} {m : aM} {X : aX} {pc : Nat}
theorem G_scr (hD : aMd B q = D) (hc : D.2.2.2.1[pc]? = some (some (.iaload, 1))) {k : Int} {S : Int → Int} (hm : m (-1) = S) (h : 0 ≤ k ∧ k < S (-1)) (g : Go B (d + 1) q (pc + 1, L, (0, S k) :: st, m, X) r) : Go B (d + 1) q (pc, L, (0, k) :: (44, -1) :: st, m, X) r := by
  refine Go.step hD (c' := (pc + 1, L, (0, S k) :: st, m, X)) ?_ g
  unfold aStep
  simp only [hc]
  show (if 0 ≤ k ∧ k < m (-1) (-1) then some (pc + 1, L, (0, m (-1) k) :: st, m, X) else none) = _
  rw [hm, if_pos h]
theorem G_bool (hD : aMd B q = D) (h0 : D.2.2.2.1[pc]? = some (some (.ifCond .eq 7, 3))) (h1 : D.2.2.2.1[pc + 3]? = some (some (.iconst 1, 1))) (h2 : D.2.2.2.1[pc + 4]? = some (some (.goto 4, 3))) (h3 : D.2.2.2.1[pc + 7]? = some (some (.iconst 0, 1))) {v : Int} (g : Go B (d + 1) q (pc + 8, L, (0, if v = 0 then 0 else 1) :: st, m, X) r) : Go B (d + 1) q (pc, L, (0, v) :: st, m, X) r := by
  have s0 : aStep D (pc, L, (0, v) :: st, m, X) = if v = 0 then some (aTgt pc 7, L, st, m, X) else some (pc + 3, L, st, m, X) := by
    unfold aStep
    simp only [h0]
    rfl
  by_cases hv : v = 0
  · rw [if_pos hv] at s0 g
    refine Go.step hD s0 (Go.step hD (c' := (pc + 8, L, (0, 0) :: st, m, X)) ?_ g)
    have e : aTgt pc 7 = pc + 7 := by unfold aTgt; omega
    rw [e]
    unfold aStep
    simp only [h3]
    rfl
  · rw [if_neg hv] at s0 g
    refine Go.step hD s0 (Go.step hD (c' := (pc + 4, L, (0, 1) :: st, m, X)) ?_ (Go.step hD (c' := (pc + 8, L, (0, 1) :: st, m, X)) ?_ g))
    · unfold aStep
      simp only [h1]
      rfl
    · have e : aTgt (pc + 4) 4 = pc + 8 := by unfold aTgt; omega
      unfold aStep
      simp only [h2]
      show some (aTgt (pc + 4) 4, L, (0, 1) :: st, m, X) = _
      rw [e]
theorem G_boolL (hD : aMd B q = D) (h0 : D.2.2.2.1[pc]? = some (some (.ifCond .eq 7, 3))) (h1 : D.2.2.2.1[pc + 3]? = some (some (.lconst 1, 1))) (h2 : D.2.2.2.1[pc + 4]? = some (some (.goto 4, 3))) (h3 : D.2.2.2.1[pc + 7]? = some (some (.lconst 0, 1))) {v : Int} (g : Go B (d + 1) q (pc + 8, L, (1, if v = 0 then 0 else 1) :: st, m, X) r) : Go B (d + 1) q (pc, L, (0, v) :: st, m, X) r := by
  have s0 : aStep D (pc, L, (0, v) :: st, m, X) = if v = 0 then some (aTgt pc 7, L, st, m, X) else some (pc + 3, L, st, m, X) := by
    unfold aStep
    simp only [h0]
    rfl
  by_cases hv : v = 0
  · rw [if_pos hv] at s0 g
    refine Go.step hD s0 (Go.step hD (c' := (pc + 8, L, (1, 0) :: st, m, X)) ?_ g)
    have e : aTgt pc 7 = pc + 7 := by unfold aTgt; omega
    rw [e]
    unfold aStep
    simp only [h3]
    rfl
  · rw [if_neg hv] at s0 g
    refine Go.step hD s0 (Go.step hD (c' := (pc + 4, L, (1, 1) :: st, m, X)) ?_ (Go.step hD (c' := (pc + 8, L, (1, 1) :: st, m, X)) ?_ g))
    · unfold aStep
      simp only [h1]
      rfl
    · have e : aTgt (pc + 4) 4 = pc + 8 := by unfold aTgt; omega
      unfold aStep
      simp only [h2]
      show some (aTgt (pc + 4) 4, L, (1, 1) :: st, m, X) = _
      rw [e]
theorem G_eq (hD : aMd B q = D) {off : Int} (hc : D.2.2.2.1[pc]? = some (some (.if_icmp .eq off, 3))) {a b : Int} (h : a = b) {t : Nat} (ht : aTgt pc off = t) (g : Go B (d + 1) q (t, L, st, m, X) r) : Go B (d + 1) q (pc, L, (0, b) :: (0, a) :: st, m, X) r := by
  subst ht
  refine Go.step hD ?_ g
  unfold aStep
  simp only [hc]
  show (if a = b then some (aTgt pc off, L, st, m, X) else some (pc + 3, L, st, m, X)) = _
  rw [if_pos h]
theorem G_eq0 (hD : aMd B q = D) {off : Int} (hc : D.2.2.2.1[pc]? = some (some (.ifCond .eq off, 3))) {a : Int} (h : a = 0) {t : Nat} (ht : aTgt pc off = t) (g : Go B (d + 1) q (t, L, st, m, X) r) : Go B (d + 1) q (pc, L, (0, a) :: st, m, X) r := by
  subst ht
  refine Go.step hD ?_ g
  unfold aStep
  simp only [hc]
  show (if a = 0 then some (aTgt pc off, L, st, m, X) else some (pc + 3, L, st, m, X)) = _
  rw [if_pos h]
theorem G_ne (hD : aMd B q = D) {off : Int} (hc : D.2.2.2.1[pc]? = some (some (.ifCond .ne off, 3))) {a : Int} {t : Nat} (ht : aTgt pc off = t) (g1 : a = 0 → Go B (d + 1) q (pc + 3, L, st, m, X) r) (g2 : Go B (d + 1) q (t, L, st, m, X) r) : Go B (d + 1) q (pc, L, (0, a) :: st, m, X) r := by
  subst ht
  have s0 : aStep D (pc, L, (0, a) :: st, m, X) = if a = 0 then some (pc + 3, L, st, m, X) else some (aTgt pc off, L, st, m, X) := by
    unfold aStep
    simp only [hc]
    rfl
  by_cases h : a = 0
  · rw [if_pos h] at s0
    exact Go.step hD s0 (g1 h)
  · rw [if_neg h] at s0
    exact Go.step hD s0 g2
end Steps
theorem cmp3_same {a b : Int} (h : a = b) : cmp3 a b = 0 := by
  unfold cmp3
  rw [if_neg (by omega), if_pos h]
def mkZ (k : Nat) : Nat × Nat := if k = 1 then (0, 0) else (1, 6)
def mkN (v : Nat × Int × aM) : aM := if v.1 = 1 then mup v.2.2 156 0 v.2.1 else v.2.2
set_option maxRecDepth 100000

def kd_load (k : Nat) : Int := if k = 2 then 1 else if k = 3 then 2 else if k = 4 then 3 else if k = 5 then 4 else 0
theorem tL_load (m : aM) (v : Nat × Int × aM) (h : fX_load m = some v) (hk : v.1 = 1 ∨ v.1 = 2 ∨ v.1 = 3 ∨ v.1 = 4 ∨ v.1 = 5) : Go PB 10 188 (aEnt d_L_load [(17, 1), (32, 156)] m XX) (1, (0, kd_load v.1), mkN v, (G0, (mkZ v.1).1, (mkZ v.1).2)) := by
  have hD : aMd PB 188 = d_L_load := rfl
  have hg := tX_load m v h
  obtain ⟨k, x, m1⟩ := v
  simp only at hk
  refine Go.run hD 3 (c' := (3, [(17, 1), (32, 156), (99, 0)], [(17, 1), (0, 0), (32, 156)], m, XX)) rfl ?_
  rcases hk with hk | hk | hk | hk | hk <;> subst hk
  · refine Go.call hD (D2 := d_X_load) (q2 := 3) (as := [(17, 1)]) (c1 := (6, [(17, 1), (32, 156), (99, 0)], [(0, 0), (32, 156)], m, XX)) (r2 := (1, (0, x), m1, XX)) (c2 := (6, [(17, 1), (32, 156), (99, 0)], [(0, x), (0, 0), (32, 156)], m1, XX)) rfl rfl hg rfl ?_
    exact Go.run hD 4 (c' := (24, [(17, 1), (32, 156), (99, 0)], [(0, 0)], mup m1 156 0 x, XX)) rfl (Go.fin hD rfl)
  · refine Go.call hD (D2 := d_X_load) (q2 := 3) (as := [(17, 1)]) (c1 := (6, [(17, 1), (32, 156), (99, 0)], [(0, 0), (32, 156)], m, XX)) (r2 := (2, (0, 0), m1, (G0, 1, 6))) (c2 := (12, [(17, 1), (32, 156), (99, 0)], [], m1, (G0, 1, 6))) rfl rfl hg rfl ?_
    exact Go.run hD 1 (c' := (13, [(17, 1), (32, 156), (99, 0)], [(0, 1)], m1, (G0, 1, 6))) rfl (Go.fin hD rfl)
  · refine Go.call hD (D2 := d_X_load) (q2 := 3) (as := [(17, 1)]) (c1 := (6, [(17, 1), (32, 156), (99, 0)], [(0, 0), (32, 156)], m, XX)) (r2 := (3, (0, 0), m1, (G0, 1, 6))) (c2 := (15, [(17, 1), (32, 156), (99, 0)], [], m1, (G0, 1, 6))) rfl rfl hg rfl ?_
    exact Go.run hD 1 (c' := (16, [(17, 1), (32, 156), (99, 0)], [(0, 2)], m1, (G0, 1, 6))) rfl (Go.fin hD rfl)
  · refine Go.call hD (D2 := d_X_load) (q2 := 3) (as := [(17, 1)]) (c1 := (6, [(17, 1), (32, 156), (99, 0)], [(0, 0), (32, 156)], m, XX)) (r2 := (4, (0, 0), m1, (G0, 1, 6))) (c2 := (18, [(17, 1), (32, 156), (99, 0)], [], m1, (G0, 1, 6))) rfl rfl hg rfl ?_
    exact Go.run hD 1 (c' := (19, [(17, 1), (32, 156), (99, 0)], [(0, 3)], m1, (G0, 1, 6))) rfl (Go.fin hD rfl)
  · refine Go.call hD (D2 := d_X_load) (q2 := 3) (as := [(17, 1)]) (c1 := (6, [(17, 1), (32, 156), (99, 0)], [(0, 0), (32, 156)], m, XX)) (r2 := (5, (0, 0), m1, (G0, 1, 6))) (c2 := (21, [(17, 1), (32, 156), (99, 0)], [], m1, (G0, 1, 6))) rfl rfl hg rfl ?_
    exact Go.run hD 1 (c' := (22, [(17, 1), (32, 156), (99, 0)], [(0, 4)], m1, (G0, 1, 6))) rfl (Go.fin hD rfl)
def kd_type (k : Nat) : Int := if k = 6 then 1 else 0
theorem tL_type (m : aM) (x1 : Int) (v : Nat × Int × aM) (h : fX_type m x1 = some v) (hk : v.1 = 1 ∨ v.1 = 6) : Go PB 4 189 (aEnt d_L_type [(17, 1), (0, x1), (32, 156)] m XX) (1, (0, kd_type v.1), mkN v, (G0, (mkZ v.1).1, (mkZ v.1).2)) := by
  have hD : aMd PB 189 = d_L_type := rfl
  have hg := tX_type m x1 v h
  obtain ⟨k, x, m1⟩ := v
  simp only at hk
  refine Go.run hD 4 (c' := (4, [(17, 1), (0, x1), (32, 156), (99, 0)], [(0, x1), (17, 1), (0, 0), (32, 156)], m, XX)) rfl ?_
  rcases hk with hk | hk <;> subst hk
  · refine Go.call hD (D2 := d_X_type) (q2 := 5) (as := [(17, 1), (0, x1)]) (c1 := (7, [(17, 1), (0, x1), (32, 156), (99, 0)], [(0, 0), (32, 156)], m, XX)) (r2 := (1, (0, x), m1, XX)) (c2 := (7, [(17, 1), (0, x1), (32, 156), (99, 0)], [(0, x), (0, 0), (32, 156)], m1, XX)) rfl rfl hg rfl ?_
    exact Go.run hD 4 (c' := (16, [(17, 1), (0, x1), (32, 156), (99, 0)], [(0, 0)], mup m1 156 0 x, XX)) rfl (Go.fin hD rfl)
  · refine Go.call hD (D2 := d_X_type) (q2 := 5) (as := [(17, 1), (0, x1)]) (c1 := (7, [(17, 1), (0, x1), (32, 156), (99, 0)], [(0, 0), (32, 156)], m, XX)) (r2 := (6, (0, 0), m1, (G0, 1, 6))) (c2 := (13, [(17, 1), (0, x1), (32, 156), (99, 0)], [], m1, (G0, 1, 6))) rfl rfl hg rfl ?_
    exact Go.run hD 1 (c' := (14, [(17, 1), (0, x1), (32, 156), (99, 0)], [(0, 1)], m1, (G0, 1, 6))) rfl (Go.fin hD rfl)
def kd_isMissing (k : Nat) : Int := if k = 6 then 1 else 0
theorem tL_isMissing (m : aM) (x1 : Int) (x2 : Int) (v : Nat × Int × aM) (h : fX_isMissing m x1 x2 = some v) (hk : v.1 = 1 ∨ v.1 = 6) (hb : v.1 = 1 → v.2.1 = 0 ∨ v.2.1 = 1) : Go PB 4 190 (aEnt d_L_isMissing [(17, 1), (0, x1), (0, x2), (32, 156)] m XX) (1, (0, kd_isMissing v.1), mkN v, (G0, (mkZ v.1).1, (mkZ v.1).2)) := by
  have hD : aMd PB 190 = d_L_isMissing := rfl
  have hg := tX_isMissing m x1 x2 v h
  obtain ⟨k, x, m1⟩ := v
  simp only at hk hb
  refine Go.run hD 5 (c' := (5, [(17, 1), (0, x1), (0, x2), (32, 156), (99, 0)], [(0, x2), (0, x1), (17, 1), (0, 0), (32, 156)], m, XX)) rfl ?_
  rcases hk with hk | hk <;> subst hk
  · refine Go.call hD (D2 := d_X_isMissing) (q2 := 6) (as := [(17, 1), (0, x1), (0, x2)]) (c1 := (8, [(17, 1), (0, x1), (0, x2), (32, 156), (99, 0)], [(0, 0), (32, 156)], m, XX)) (r2 := (1, (0, x), m1, XX)) (c2 := (8, [(17, 1), (0, x1), (0, x2), (32, 156), (99, 0)], [(0, x), (0, 0), (32, 156)], m1, XX)) rfl rfl hg rfl ?_
    refine G_boolL hD rfl rfl rfl rfl ?_
    rw [show (if x = 0 then (0 : Int) else 1) = x by rcases hb rfl with e | e <;> subst e <;> rfl]
    exact Go.run hD 3 (c' := (25, [(17, 1), (0, x1), (0, x2), (32, 156), (99, 0)], [(0, 0)], mup m1 156 0 x, XX)) rfl (Go.fin hD rfl)
  · refine Go.call hD (D2 := d_X_isMissing) (q2 := 6) (as := [(17, 1), (0, x1), (0, x2)]) (c1 := (8, [(17, 1), (0, x1), (0, x2), (32, 156), (99, 0)], [(0, 0), (32, 156)], m, XX)) (r2 := (6, (0, 0), m1, (G0, 1, 6))) (c2 := (22, [(17, 1), (0, x1), (0, x2), (32, 156), (99, 0)], [], m1, (G0, 1, 6))) rfl rfl hg rfl ?_
    exact Go.run hD 1 (c' := (23, [(17, 1), (0, x1), (0, x2), (32, 156), (99, 0)], [(0, 1)], m1, (G0, 1, 6))) rfl (Go.fin hD rfl)
def kd_value (k : Nat) : Int := if k = 6 then 1 else if k = 3 then 2 else if k = 4 then 3 else 0
theorem tL_value (m : aM) (x1 : Int) (x2 : Int) (v : Nat × Int × aM) (h : fX_value m x1 x2 = some v) (hk : v.1 = 1 ∨ v.1 = 6 ∨ v.1 = 3 ∨ v.1 = 4) : Go PB 4 191 (aEnt d_L_value [(17, 1), (0, x1), (0, x2), (32, 156)] m XX) (1, (0, kd_value v.1), mkN v, (G0, (mkZ v.1).1, (mkZ v.1).2)) := by
  have hD : aMd PB 191 = d_L_value := rfl
  have hg := tX_value m x1 x2 v h
  obtain ⟨k, x, m1⟩ := v
  simp only at hk
  refine Go.run hD 5 (c' := (5, [(17, 1), (0, x1), (0, x2), (32, 156), (99, 0)], [(0, x2), (0, x1), (17, 1), (0, 0), (32, 156)], m, XX)) rfl ?_
  rcases hk with hk | hk | hk | hk <;> subst hk
  · refine Go.call hD (D2 := d_X_value) (q2 := 7) (as := [(17, 1), (0, x1), (0, x2)]) (c1 := (8, [(17, 1), (0, x1), (0, x2), (32, 156), (99, 0)], [(0, 0), (32, 156)], m, XX)) (r2 := (1, (1, x), m1, XX)) (c2 := (8, [(17, 1), (0, x1), (0, x2), (32, 156), (99, 0)], [(1, x), (0, 0), (32, 156)], m1, XX)) rfl rfl hg rfl ?_
    exact Go.run hD 3 (c' := (25, [(17, 1), (0, x1), (0, x2), (32, 156), (99, 0)], [(0, 0)], mup m1 156 0 x, XX)) rfl (Go.fin hD rfl)
  · refine Go.call hD (D2 := d_X_value) (q2 := 7) (as := [(17, 1), (0, x1), (0, x2)]) (c1 := (8, [(17, 1), (0, x1), (0, x2), (32, 156), (99, 0)], [(0, 0), (32, 156)], m, XX)) (r2 := (6, (0, 0), m1, (G0, 1, 6))) (c2 := (14, [(17, 1), (0, x1), (0, x2), (32, 156), (99, 0)], [], m1, (G0, 1, 6))) rfl rfl hg rfl ?_
    exact Go.run hD 1 (c' := (15, [(17, 1), (0, x1), (0, x2), (32, 156), (99, 0)], [(0, 1)], m1, (G0, 1, 6))) rfl (Go.fin hD rfl)
  · refine Go.call hD (D2 := d_X_value) (q2 := 7) (as := [(17, 1), (0, x1), (0, x2)]) (c1 := (8, [(17, 1), (0, x1), (0, x2), (32, 156), (99, 0)], [(0, 0), (32, 156)], m, XX)) (r2 := (3, (0, 0), m1, (G0, 1, 6))) (c2 := (18, [(17, 1), (0, x1), (0, x2), (32, 156), (99, 0)], [], m1, (G0, 1, 6))) rfl rfl hg rfl ?_
    exact Go.run hD 1 (c' := (19, [(17, 1), (0, x1), (0, x2), (32, 156), (99, 0)], [(0, 2)], m1, (G0, 1, 6))) rfl (Go.fin hD rfl)
  · refine Go.call hD (D2 := d_X_value) (q2 := 7) (as := [(17, 1), (0, x1), (0, x2)]) (c1 := (8, [(17, 1), (0, x1), (0, x2), (32, 156), (99, 0)], [(0, 0), (32, 156)], m, XX)) (r2 := (4, (0, 0), m1, (G0, 1, 6))) (c2 := (22, [(17, 1), (0, x1), (0, x2), (32, 156), (99, 0)], [], m1, (G0, 1, 6))) rfl rfl hg rfl ?_
    exact Go.run hD 1 (c' := (23, [(17, 1), (0, x1), (0, x2), (32, 156), (99, 0)], [(0, 3)], m1, (G0, 1, 6))) rfl (Go.fin hD rfl)
def kd_ask (k : Nat) : Int := if k = 3 then 1 else if k = 2 then 2 else if k = 5 then 3 else 0
theorem tL_ask (m : aM) (v : Nat × Int × aM) (h : fX_ask m = some v) (hk : v.1 = 1 ∨ v.1 = 3 ∨ v.1 = 2 ∨ v.1 = 5) : Go PB 42 192 (aEnt d_L_ask [(17, 1), (32, 156)] m XX) (1, (0, kd_ask v.1), mkN v, (G0, (mkZ v.1).1, (mkZ v.1).2)) := by
  have hD : aMd PB 192 = d_L_ask := rfl
  have hg := tX_ask m v h
  obtain ⟨k, x, m1⟩ := v
  simp only at hk
  refine Go.run hD 3 (c' := (3, [(17, 1), (32, 156), (99, 0)], [(17, 1), (0, 0), (32, 156)], m, XX)) rfl ?_
  rcases hk with hk | hk | hk | hk <;> subst hk
  · refine Go.call hD (D2 := d_X_ask) (q2 := 8) (as := [(17, 1)]) (c1 := (6, [(17, 1), (32, 156), (99, 0)], [(0, 0), (32, 156)], m, XX)) (r2 := (1, (0, x), m1, XX)) (c2 := (6, [(17, 1), (32, 156), (99, 0)], [(0, x), (0, 0), (32, 156)], m1, XX)) rfl rfl hg rfl ?_
    exact Go.run hD 4 (c' := (21, [(17, 1), (32, 156), (99, 0)], [(0, 0)], mup m1 156 0 x, XX)) rfl (Go.fin hD rfl)
  · refine Go.call hD (D2 := d_X_ask) (q2 := 8) (as := [(17, 1)]) (c1 := (6, [(17, 1), (32, 156), (99, 0)], [(0, 0), (32, 156)], m, XX)) (r2 := (3, (0, 0), m1, (G0, 1, 6))) (c2 := (12, [(17, 1), (32, 156), (99, 0)], [], m1, (G0, 1, 6))) rfl rfl hg rfl ?_
    exact Go.run hD 1 (c' := (13, [(17, 1), (32, 156), (99, 0)], [(0, 1)], m1, (G0, 1, 6))) rfl (Go.fin hD rfl)
  · refine Go.call hD (D2 := d_X_ask) (q2 := 8) (as := [(17, 1)]) (c1 := (6, [(17, 1), (32, 156), (99, 0)], [(0, 0), (32, 156)], m, XX)) (r2 := (2, (0, 0), m1, (G0, 1, 6))) (c2 := (15, [(17, 1), (32, 156), (99, 0)], [], m1, (G0, 1, 6))) rfl rfl hg rfl ?_
    exact Go.run hD 1 (c' := (16, [(17, 1), (32, 156), (99, 0)], [(0, 2)], m1, (G0, 1, 6))) rfl (Go.fin hD rfl)
  · refine Go.call hD (D2 := d_X_ask) (q2 := 8) (as := [(17, 1)]) (c1 := (6, [(17, 1), (32, 156), (99, 0)], [(0, 0), (32, 156)], m, XX)) (r2 := (5, (0, 0), m1, (G0, 1, 6))) (c2 := (18, [(17, 1), (32, 156), (99, 0)], [], m1, (G0, 1, 6))) rfl rfl hg rfl ?_
    exact Go.run hD 1 (c' := (19, [(17, 1), (32, 156), (99, 0)], [(0, 3)], m1, (G0, 1, 6))) rfl (Go.fin hD rfl)
def kd_line (k : Nat) : Int := if k = 3 then 1 else if k = 6 then 2 else 0
theorem tL_line (m : aM) (x1 : Int) (v : Nat × Int × aM) (h : fX_line m x1 = some v) (hk : v.1 = 1 ∨ v.1 = 3 ∨ v.1 = 6) : Go PB 3 193 (aEnt d_L_line [(17, 1), (0, x1), (32, 156)] m XX) (1, (0, kd_line v.1), mkN v, (G0, (mkZ v.1).1, (mkZ v.1).2)) := by
  have hD : aMd PB 193 = d_L_line := rfl
  have hg := tX_line m x1 v h
  obtain ⟨k, x, m1⟩ := v
  simp only at hk
  refine Go.run hD 4 (c' := (4, [(17, 1), (0, x1), (32, 156), (99, 0)], [(0, x1), (17, 1), (0, 0), (32, 156)], m, XX)) rfl ?_
  rcases hk with hk | hk | hk <;> subst hk
  · refine Go.call hD (D2 := d_X_line) (q2 := 11) (as := [(17, 1), (0, x1)]) (c1 := (7, [(17, 1), (0, x1), (32, 156), (99, 0)], [(0, 0), (32, 156)], m, XX)) (r2 := (1, (0, x), m1, XX)) (c2 := (7, [(17, 1), (0, x1), (32, 156), (99, 0)], [(0, x), (0, 0), (32, 156)], m1, XX)) rfl rfl hg rfl ?_
    exact Go.run hD 4 (c' := (19, [(17, 1), (0, x1), (32, 156), (99, 0)], [(0, 0)], mup m1 156 0 x, XX)) rfl (Go.fin hD rfl)
  · refine Go.call hD (D2 := d_X_line) (q2 := 11) (as := [(17, 1), (0, x1)]) (c1 := (7, [(17, 1), (0, x1), (32, 156), (99, 0)], [(0, 0), (32, 156)], m, XX)) (r2 := (3, (0, 0), m1, (G0, 1, 6))) (c2 := (13, [(17, 1), (0, x1), (32, 156), (99, 0)], [], m1, (G0, 1, 6))) rfl rfl hg rfl ?_
    exact Go.run hD 1 (c' := (14, [(17, 1), (0, x1), (32, 156), (99, 0)], [(0, 1)], m1, (G0, 1, 6))) rfl (Go.fin hD rfl)
  · refine Go.call hD (D2 := d_X_line) (q2 := 11) (as := [(17, 1), (0, x1)]) (c1 := (7, [(17, 1), (0, x1), (32, 156), (99, 0)], [(0, 0), (32, 156)], m, XX)) (r2 := (6, (0, 0), m1, (G0, 1, 6))) (c2 := (16, [(17, 1), (0, x1), (32, 156), (99, 0)], [], m1, (G0, 1, 6))) rfl rfl hg rfl ?_
    exact Go.run hD 1 (c' := (17, [(17, 1), (0, x1), (32, 156), (99, 0)], [(0, 2)], m1, (G0, 1, 6))) rfl (Go.fin hD rfl)
def kd_aggregate (k : Nat) : Int := if k = 3 then 1 else if k = 6 then 2 else if k = 4 then 3 else 0
theorem tL_aggregate (m : aM) (x1 : Int) (v : Nat × Int × aM) (h : fX_aggregate m x1 = some v) (hk : v.1 = 1 ∨ v.1 = 3 ∨ v.1 = 6 ∨ v.1 = 4) : Go PB 5 194 (aEnt d_L_aggregate [(17, 1), (0, x1), (32, 156)] m XX) (1, (0, kd_aggregate v.1), mkN v, (G0, (mkZ v.1).1, (mkZ v.1).2)) := by
  have hD : aMd PB 194 = d_L_aggregate := rfl
  have hg := tX_aggregate m x1 v h
  obtain ⟨k, x, m1⟩ := v
  simp only at hk
  refine Go.run hD 4 (c' := (4, [(17, 1), (0, x1), (32, 156), (99, 0)], [(0, x1), (17, 1), (0, 0), (32, 156)], m, XX)) rfl ?_
  rcases hk with hk | hk | hk | hk <;> subst hk
  · refine Go.call hD (D2 := d_X_aggregate) (q2 := 12) (as := [(17, 1), (0, x1)]) (c1 := (7, [(17, 1), (0, x1), (32, 156), (99, 0)], [(0, 0), (32, 156)], m, XX)) (r2 := (1, (1, x), m1, XX)) (c2 := (7, [(17, 1), (0, x1), (32, 156), (99, 0)], [(1, x), (0, 0), (32, 156)], m1, XX)) rfl rfl hg rfl ?_
    exact Go.run hD 3 (c' := (21, [(17, 1), (0, x1), (32, 156), (99, 0)], [(0, 0)], mup m1 156 0 x, XX)) rfl (Go.fin hD rfl)
  · refine Go.call hD (D2 := d_X_aggregate) (q2 := 12) (as := [(17, 1), (0, x1)]) (c1 := (7, [(17, 1), (0, x1), (32, 156), (99, 0)], [(0, 0), (32, 156)], m, XX)) (r2 := (3, (0, 0), m1, (G0, 1, 6))) (c2 := (12, [(17, 1), (0, x1), (32, 156), (99, 0)], [], m1, (G0, 1, 6))) rfl rfl hg rfl ?_
    exact Go.run hD 1 (c' := (13, [(17, 1), (0, x1), (32, 156), (99, 0)], [(0, 1)], m1, (G0, 1, 6))) rfl (Go.fin hD rfl)
  · refine Go.call hD (D2 := d_X_aggregate) (q2 := 12) (as := [(17, 1), (0, x1)]) (c1 := (7, [(17, 1), (0, x1), (32, 156), (99, 0)], [(0, 0), (32, 156)], m, XX)) (r2 := (6, (0, 0), m1, (G0, 1, 6))) (c2 := (15, [(17, 1), (0, x1), (32, 156), (99, 0)], [], m1, (G0, 1, 6))) rfl rfl hg rfl ?_
    exact Go.run hD 1 (c' := (16, [(17, 1), (0, x1), (32, 156), (99, 0)], [(0, 2)], m1, (G0, 1, 6))) rfl (Go.fin hD rfl)
  · refine Go.call hD (D2 := d_X_aggregate) (q2 := 12) (as := [(17, 1), (0, x1)]) (c1 := (7, [(17, 1), (0, x1), (32, 156), (99, 0)], [(0, 0), (32, 156)], m, XX)) (r2 := (4, (0, 0), m1, (G0, 1, 6))) (c2 := (18, [(17, 1), (0, x1), (32, 156), (99, 0)], [], m1, (G0, 1, 6))) rfl rfl hg rfl ?_
    exact Go.run hD 1 (c' := (19, [(17, 1), (0, x1), (32, 156), (99, 0)], [(0, 3)], m1, (G0, 1, 6))) rfl (Go.fin hD rfl)
def kd_write (k : Nat) : Int := if k = 3 then 1 else 0
theorem tL_write (m : aM) (x1 : Int) (v : Nat × Int × aM) (h : fX_write m x1 = some v) (hk : v.1 = 1 ∨ v.1 = 3) : Go PB 8 195 (aEnt d_L_write [(17, 1), (0, x1), (32, 156)] m XX) (1, (0, kd_write v.1), mkN v, (G0, (mkZ v.1).1, (mkZ v.1).2)) := by
  have hD : aMd PB 195 = d_L_write := rfl
  have hg := tX_write m x1 v h
  obtain ⟨k, x, m1⟩ := v
  simp only at hk
  refine Go.run hD 4 (c' := (4, [(17, 1), (0, x1), (32, 156), (99, 0)], [(0, x1), (17, 1), (0, 0), (32, 156)], m, XX)) rfl ?_
  rcases hk with hk | hk <;> subst hk
  · refine Go.call hD (D2 := d_X_write) (q2 := 13) (as := [(17, 1), (0, x1)]) (c1 := (7, [(17, 1), (0, x1), (32, 156), (99, 0)], [(0, 0), (32, 156)], m, XX)) (r2 := (1, (0, x), m1, XX)) (c2 := (7, [(17, 1), (0, x1), (32, 156), (99, 0)], [(0, x), (0, 0), (32, 156)], m1, XX)) rfl rfl hg rfl ?_
    exact Go.run hD 4 (c' := (16, [(17, 1), (0, x1), (32, 156), (99, 0)], [(0, 0)], mup m1 156 0 x, XX)) rfl (Go.fin hD rfl)
  · refine Go.call hD (D2 := d_X_write) (q2 := 13) (as := [(17, 1), (0, x1)]) (c1 := (7, [(17, 1), (0, x1), (32, 156), (99, 0)], [(0, 0), (32, 156)], m, XX)) (r2 := (3, (0, 0), m1, (G0, 1, 6))) (c2 := (13, [(17, 1), (0, x1), (32, 156), (99, 0)], [], m1, (G0, 1, 6))) rfl rfl hg rfl ?_
    exact Go.run hD 1 (c' := (14, [(17, 1), (0, x1), (32, 156), (99, 0)], [(0, 1)], m1, (G0, 1, 6))) rfl (Go.fin hD rfl)
def kd_out (k : Nat) : Int := if k = 6 then 1 else 0
theorem tL_out (m : aM) (x1 : Int) (v : Nat × Int × aM) (h : fX_out m x1 = some v) (hk : v.1 = 1 ∨ v.1 = 6) : Go PB 3 196 (aEnt d_L_out [(17, 1), (0, x1), (32, 156)] m XX) (1, (0, kd_out v.1), mkN v, (G0, (mkZ v.1).1, (mkZ v.1).2)) := by
  have hD : aMd PB 196 = d_L_out := rfl
  have hg := tX_out m x1 v h
  obtain ⟨k, x, m1⟩ := v
  simp only at hk
  refine Go.run hD 4 (c' := (4, [(17, 1), (0, x1), (32, 156), (99, 0)], [(0, x1), (17, 1), (0, 0), (32, 156)], m, XX)) rfl ?_
  rcases hk with hk | hk <;> subst hk
  · refine Go.call hD (D2 := d_X_out) (q2 := 14) (as := [(17, 1), (0, x1)]) (c1 := (7, [(17, 1), (0, x1), (32, 156), (99, 0)], [(0, 0), (32, 156)], m, XX)) (r2 := (1, (0, x), m1, XX)) (c2 := (7, [(17, 1), (0, x1), (32, 156), (99, 0)], [(0, x), (0, 0), (32, 156)], m1, XX)) rfl rfl hg rfl ?_
    exact Go.run hD 4 (c' := (16, [(17, 1), (0, x1), (32, 156), (99, 0)], [(0, 0)], mup m1 156 0 x, XX)) rfl (Go.fin hD rfl)
  · refine Go.call hD (D2 := d_X_out) (q2 := 14) (as := [(17, 1), (0, x1)]) (c1 := (7, [(17, 1), (0, x1), (32, 156), (99, 0)], [(0, 0), (32, 156)], m, XX)) (r2 := (6, (0, 0), m1, (G0, 1, 6))) (c2 := (13, [(17, 1), (0, x1), (32, 156), (99, 0)], [], m1, (G0, 1, 6))) rfl rfl hg rfl ?_
    exact Go.run hD 1 (c' := (14, [(17, 1), (0, x1), (32, 156), (99, 0)], [(0, 1)], m1, (G0, 1, 6))) rfl (Go.fin hD rfl)
