/-! THE WORLD WHEN ALL STANDS -/
set_option maxRecDepth 100000
def add2 (X Y : aX) : aX := (Y.1, X.2.1 + Y.2.1, X.2.2 + Y.2.2)
def XA : aX := aMk (GE, 0, 0) 17 0 8
def XB : aX := aMk (add2 XA (gX XA.1 1)) 18 0 49
def XC : aX := aMk (add2 XB (gM XB.1 130)) 32 1 1
/-- nothing stands off 1 .. 156, no field off 0 .. 99 -/
def sup (X : aX) : Prop := (∀ y : Int, y ≤ 0 ∨ 156 < y → X.1.2.1 y = 0 ∧ X.1.2.2.1 y = 0) ∧ ∀ y j : Int, y ≤ 0 ∨ 156 < y ∨ j < 0 ∨ 99 < j → X.1.2.2.2 y j = 0
theorem sup_G {G : aG} {a b c d : Nat} (h : sup (G, a, b)) : sup (G, c, d) := h
theorem sup_mk {X : aX} {t k : Nat} {len : Int} (h : sup X) (hn : X.1.1 < 156) : sup (aMk X t len k) := by
  refine ⟨fun y hy => ?_, h.2⟩
  have e : ¬ y = ((X.1.1 + 1 : Nat) : Int) := by omega
  show (if y = ((X.1.1 + 1 : Nat) : Int) then t else X.1.2.1 y) = 0 ∧ (if y = ((X.1.1 + 1 : Nat) : Int) then len else X.1.2.2.1 y) = 0
  rw [if_neg e, if_neg e]
  exact h.1 y hy
theorem sup_put {X : aX} {x i v : Int} (h : sup X) (h1 : 0 < x ∧ x ≤ 156) (h2 : 0 ≤ i ∧ i ≤ 99) : sup (aPutR X x i v) := by
  refine ⟨h.1, fun y j hy => ?_⟩
  show (if y = x ∧ j = i then v else X.1.2.2.2 y j) = 0
  rw [if_neg (by omega)]
  exact h.2 y j hy
theorem sup_nA {X : aX} {t : Nat} {len x i : Int} (h : sup X) (hn : X.1.1 < 156) (h1 : 0 < x ∧ x ≤ 156) (h2 : 0 ≤ i ∧ i ≤ 99) : sup (nA X t len x i) := sup_put (sup_mk h hn) h1 h2
theorem sup_nO {X : aX} {t k : Nat} {sub : aG → Int → aX} {x i : Int} (h : sup X) (hn : X.1.1 < 156) (h1 : 0 < x ∧ x ≤ 156) (h2 : 0 ≤ i ∧ i ≤ 99) (hs : ∀ G, sup (G, 0, 0) → G.1 = X.1.1 + 1 → sup (sub G ((X.1.1 + 1 : Nat) : Int))) : sup (nO X t k sub x i) := sup_put (sup_G (hs _ (sup_mk (k := k) h hn) rfl)) h1 h2
theorem sup_gC {k : Int} {G : aG} {x : Int} (h : sup (G, 0, 0)) (hn : G.1 < 156) (h1 : 0 < x ∧ x ≤ 156) : sup (gC k G x) := sup_nA h hn h1 (by omega)
theorem sup_gS {G : aG} (h : sup (G, 0, 0)) : sup (gSi G 97) := by
  refine ⟨fun y hy => ?_, fun y j hy => ?_⟩
  · show (if 24 ≤ y ∧ y < 24 + ((97 : Nat) : Int) then 15 else if y = 23 then 34 else G.2.1 y) = 0 ∧ (if 24 ≤ y ∧ y < 24 + ((97 : Nat) : Int) then (0 : Int) else if y = 23 then 97 else G.2.2.1 y) = 0
    rw [if_neg (by omega), if_neg (by omega), if_neg (by omega), if_neg (by omega)]
    exact h.1 y hy
  · show (if y = 23 ∧ 0 ≤ j ∧ j < ((97 : Nat) : Int) then 24 + j else if y = 22 ∧ j = 0 then 23 else G.2.2.2 y j) = 0
    rw [if_neg (by omega), if_neg (by omega)]
    exact h.2 y j hy
theorem sup_GE : sup (GE, 0, 0) := ⟨fun _ _ => ⟨rfl, rfl⟩, fun _ _ _ => rfl⟩
theorem sup_XA : sup XA := sup_mk sup_GE (by decide)
theorem sup_gR {G : aG} {x : Int} (h : sup (G, 0, 0)) (hn : G.1 < 150) (h1 : 0 < x ∧ x ≤ 156) : sup (gR G x) := sup_nA (sup_nA (sup_nA h (show G.1 < 156 by omega) h1 (by omega)) (show G.1 + 1 < 156 by omega) h1 (by omega)) (show G.1 + 1 + 1 < 156 by omega) h1 (by omega)
theorem sup_gT {G : aG} {x : Int} (h : sup (G, 0, 0)) (hn : G.1 < 140) (h1 : 0 < x ∧ x ≤ 156) : sup (gT G x) := by
  refine sup_nA (sup_nA (sup_nA (sup_nA (sup_nA (sup_nA (sup_nO h (show G.1 < 156 by omega) h1 (by omega) (fun G' h' e' => sup_gC h' (by rw [e']; show G.1 + 1 < 156; omega) ⟨by show 0 < ((G.1 + 1 : Nat) : Int); omega, by show ((G.1 + 1 : Nat) : Int) ≤ 156; omega⟩)) ?_ h1 (by omega)) ?_ h1 (by omega)) ?_ h1 (by omega)) ?_ h1 (by omega)) ?_ h1 (by omega)) ?_ h1 (by omega)
  · show G.1 + 1 + 1 < 156; omega
  · show G.1 + 1 + 1 + 1 < 156; omega
  · show G.1 + 1 + 1 + 1 + 1 < 156; omega
  · show G.1 + 1 + 1 + 1 + 1 + 1 < 156; omega
  · show G.1 + 1 + 1 + 1 + 1 + 1 + 1 < 156; omega
  · show G.1 + 1 + 1 + 1 + 1 + 1 + 1 + 1 < 156; omega
theorem sup_gQ {G : aG} (h : sup (G, 0, 0)) (hn : G.1 = 21) : sup (gQ G 21) := sup_nA (sup_nA (sup_nO h (show G.1 < 156 by omega) (by omega) (by omega) (fun G' h' e' => sup_gS h')) (show 23 + 97 < 156 by omega) (by omega) (by omega)) (show 23 + 97 + 1 < 156 by omega) (by omega) (by omega)
theorem sup_gA {G : aG} {x : Int} (h : sup (G, 0, 0)) (hn : G.1 < 140) (h1 : 0 < x ∧ x ≤ 156) : sup (gA G x) := by
  refine sup_nA (sup_nA (sup_nA (sup_nA (sup_nA (sup_nA h (show G.1 < 156 by omega) h1 (by omega)) ?_ h1 (by omega)) ?_ h1 (by omega)) ?_ h1 (by omega)) ?_ h1 (by omega)) ?_ h1 (by omega)
  · show G.1 + 1 < 156; omega
  · show G.1 + 1 + 1 < 156; omega
  · show G.1 + 1 + 1 + 1 < 156; omega
  · show G.1 + 1 + 1 + 1 + 1 < 156; omega
  · show G.1 + 1 + 1 + 1 + 1 + 1 < 156; omega
theorem sup_gX : sup (gX XA.1 1) := by
  refine sup_nO (sup_nO (sup_nO (sup_nO (sup_nO (sup_nO (sup_nO (sup_G sup_XA) (by decide +kernel) (by omega) (by omega) ?_) (by decide +kernel) (by omega) (by omega) ?_) (by decide +kernel) (by omega) (by omega) ?_) (by decide +kernel) (by omega) (by omega) ?_) (by decide +kernel) (by omega) (by omega) ?_) (by decide +kernel) (by omega) (by omega) ?_) (by decide +kernel) (by omega) (by omega) ?_
  · intro G h e
    exact sup_gC h (by rw [e]; decide +kernel) (by decide +kernel)
  · intro G h e
    exact sup_gC h (by rw [e]; decide +kernel) (by decide +kernel)
  · intro G h e
    exact sup_gC h (by rw [e]; decide +kernel) (by decide +kernel)
  · intro G h e
    exact sup_gR h (by rw [e]; decide +kernel) (by decide +kernel)
  · intro G h e
    exact sup_gT h (by rw [e]; decide +kernel) (by decide +kernel)
  · intro G h e
    exact sup_gQ h (by rw [e]; decide +kernel)
  · intro G h e
    exact sup_gA h (by rw [e]; decide +kernel) (by decide +kernel)
theorem sup_XB : sup XB := sup_mk (sup_G sup_gX) (by decide +kernel)
theorem sup_gM {G : aG} (h : sup (G, 0, 0)) (hn : G.1 = 130) : sup (gM G 130) := by
  refine sup_nA (sup_nA (sup_nA (sup_nA (sup_nA (sup_nA (sup_nA (sup_nA (sup_nA (sup_nA (sup_nA (sup_nA (sup_nA (sup_nA (sup_nA (sup_nA (sup_nA (sup_nA (sup_nA (sup_nA (sup_nA (sup_nA (sup_nA (sup_nA (sup_nA (h) ?_ (by omega) (by omega)) ?_ (by omega) (by omega)) ?_ (by omega) (by omega)) ?_ (by omega) (by omega)) ?_ (by omega) (by omega)) ?_ (by omega) (by omega)) ?_ (by omega) (by omega)) ?_ (by omega) (by omega)) ?_ (by omega) (by omega)) ?_ (by omega) (by omega)) ?_ (by omega) (by omega)) ?_ (by omega) (by omega)) ?_ (by omega) (by omega)) ?_ (by omega) (by omega)) ?_ (by omega) (by omega)) ?_ (by omega) (by omega)) ?_ (by omega) (by omega)) ?_ (by omega) (by omega)) ?_ (by omega) (by omega)) ?_ (by omega) (by omega)) ?_ (by omega) (by omega)) ?_ (by omega) (by omega)) ?_ (by omega) (by omega)) ?_ (by omega) (by omega)) ?_ (by omega) (by omega)
  · show G.1 < 156; omega
  · show G.1 + 1 < 156; omega
  · show G.1 + 1 + 1 < 156; omega
  · show G.1 + 1 + 1 + 1 < 156; omega
  · show G.1 + 1 + 1 + 1 + 1 < 156; omega
  · show G.1 + 1 + 1 + 1 + 1 + 1 < 156; omega
  · show G.1 + 1 + 1 + 1 + 1 + 1 + 1 < 156; omega
  · show G.1 + 1 + 1 + 1 + 1 + 1 + 1 + 1 < 156; omega
  · show G.1 + 1 + 1 + 1 + 1 + 1 + 1 + 1 + 1 < 156; omega
  · show G.1 + 1 + 1 + 1 + 1 + 1 + 1 + 1 + 1 + 1 < 156; omega
  · show G.1 + 1 + 1 + 1 + 1 + 1 + 1 + 1 + 1 + 1 + 1 < 156; omega
  · show G.1 + 1 + 1 + 1 + 1 + 1 + 1 + 1 + 1 + 1 + 1 + 1 < 156; omega
  · show G.1 + 1 + 1 + 1 + 1 + 1 + 1 + 1 + 1 + 1 + 1 + 1 + 1 < 156; omega
  · show G.1 + 1 + 1 + 1 + 1 + 1 + 1 + 1 + 1 + 1 + 1 + 1 + 1 + 1 < 156; omega
  · show G.1 + 1 + 1 + 1 + 1 + 1 + 1 + 1 + 1 + 1 + 1 + 1 + 1 + 1 + 1 < 156; omega
  · show G.1 + 1 + 1 + 1 + 1 + 1 + 1 + 1 + 1 + 1 + 1 + 1 + 1 + 1 + 1 + 1 < 156; omega
  · show G.1 + 1 + 1 + 1 + 1 + 1 + 1 + 1 + 1 + 1 + 1 + 1 + 1 + 1 + 1 + 1 + 1 < 156; omega
  · show G.1 + 1 + 1 + 1 + 1 + 1 + 1 + 1 + 1 + 1 + 1 + 1 + 1 + 1 + 1 + 1 + 1 + 1 < 156; omega
  · show G.1 + 1 + 1 + 1 + 1 + 1 + 1 + 1 + 1 + 1 + 1 + 1 + 1 + 1 + 1 + 1 + 1 + 1 + 1 < 156; omega
  · show G.1 + 1 + 1 + 1 + 1 + 1 + 1 + 1 + 1 + 1 + 1 + 1 + 1 + 1 + 1 + 1 + 1 + 1 + 1 + 1 < 156; omega
  · show G.1 + 1 + 1 + 1 + 1 + 1 + 1 + 1 + 1 + 1 + 1 + 1 + 1 + 1 + 1 + 1 + 1 + 1 + 1 + 1 + 1 < 156; omega
  · show G.1 + 1 + 1 + 1 + 1 + 1 + 1 + 1 + 1 + 1 + 1 + 1 + 1 + 1 + 1 + 1 + 1 + 1 + 1 + 1 + 1 + 1 < 156; omega
  · show G.1 + 1 + 1 + 1 + 1 + 1 + 1 + 1 + 1 + 1 + 1 + 1 + 1 + 1 + 1 + 1 + 1 + 1 + 1 + 1 + 1 + 1 + 1 < 156; omega
  · show G.1 + 1 + 1 + 1 + 1 + 1 + 1 + 1 + 1 + 1 + 1 + 1 + 1 + 1 + 1 + 1 + 1 + 1 + 1 + 1 + 1 + 1 + 1 + 1 < 156; omega
  · show G.1 + 1 + 1 + 1 + 1 + 1 + 1 + 1 + 1 + 1 + 1 + 1 + 1 + 1 + 1 + 1 + 1 + 1 + 1 + 1 + 1 + 1 + 1 + 1 + 1 < 156; omega
theorem sup_XC : sup XC := sup_mk (sup_G (sup_gM (sup_G sup_XB) (by decide +kernel))) (by decide +kernel)
theorem XC_n : XC.1.1 = 156 := by decide +kernel
theorem XC_c : XC.2 = (XC.2.1, XC.2.2) := rfl
theorem XC_small : XC.2.1 ≤ 1000 ∧ XC.2.2 ≤ 20000 := by decide +kernel
theorem XC_s : ∀ k : Fin 157, XC.1.2.1 ((k.val : Nat) : Int) = SHP ((k.val : Nat) : Int) := by decide +kernel
theorem XC_l : ∀ k : Fin 157, XC.1.2.2.1 ((k.val : Nat) : Int) = LEN ((k.val : Nat) : Int) := by decide +kernel
theorem XC_r0 : ∀ k : Fin 16, ∀ j : Fin 100, XC.1.2.2.2 ((k.val + 0 : Nat) : Int) ((j.val : Nat) : Int) = RF ((k.val + 0 : Nat) : Int) ((j.val : Nat) : Int) := by decide +kernel
theorem XC_r1 : ∀ k : Fin 16, ∀ j : Fin 100, XC.1.2.2.2 ((k.val + 16 : Nat) : Int) ((j.val : Nat) : Int) = RF ((k.val + 16 : Nat) : Int) ((j.val : Nat) : Int) := by decide +kernel
theorem XC_r2 : ∀ k : Fin 16, ∀ j : Fin 100, XC.1.2.2.2 ((k.val + 32 : Nat) : Int) ((j.val : Nat) : Int) = RF ((k.val + 32 : Nat) : Int) ((j.val : Nat) : Int) := by decide +kernel
theorem XC_r3 : ∀ k : Fin 16, ∀ j : Fin 100, XC.1.2.2.2 ((k.val + 48 : Nat) : Int) ((j.val : Nat) : Int) = RF ((k.val + 48 : Nat) : Int) ((j.val : Nat) : Int) := by decide +kernel
theorem XC_r4 : ∀ k : Fin 16, ∀ j : Fin 100, XC.1.2.2.2 ((k.val + 64 : Nat) : Int) ((j.val : Nat) : Int) = RF ((k.val + 64 : Nat) : Int) ((j.val : Nat) : Int) := by decide +kernel
theorem XC_r5 : ∀ k : Fin 16, ∀ j : Fin 100, XC.1.2.2.2 ((k.val + 80 : Nat) : Int) ((j.val : Nat) : Int) = RF ((k.val + 80 : Nat) : Int) ((j.val : Nat) : Int) := by decide +kernel
theorem XC_r6 : ∀ k : Fin 16, ∀ j : Fin 100, XC.1.2.2.2 ((k.val + 96 : Nat) : Int) ((j.val : Nat) : Int) = RF ((k.val + 96 : Nat) : Int) ((j.val : Nat) : Int) := by decide +kernel
theorem XC_r7 : ∀ k : Fin 16, ∀ j : Fin 100, XC.1.2.2.2 ((k.val + 112 : Nat) : Int) ((j.val : Nat) : Int) = RF ((k.val + 112 : Nat) : Int) ((j.val : Nat) : Int) := by decide +kernel
theorem XC_r8 : ∀ k : Fin 16, ∀ j : Fin 100, XC.1.2.2.2 ((k.val + 128 : Nat) : Int) ((j.val : Nat) : Int) = RF ((k.val + 128 : Nat) : Int) ((j.val : Nat) : Int) := by decide +kernel
theorem XC_r9 : ∀ k : Fin 16, ∀ j : Fin 100, XC.1.2.2.2 ((k.val + 144 : Nat) : Int) ((j.val : Nat) : Int) = RF ((k.val + 144 : Nat) : Int) ((j.val : Nat) : Int) := by decide +kernel
theorem XC_r (k j : Nat) (hk : k < 160) (hj : j < 100) : XC.1.2.2.2 (k : Int) (j : Int) = RF (k : Int) (j : Int) := by
  have hc : k / 16 = 0 ∨ k / 16 = 1 ∨ k / 16 = 2 ∨ k / 16 = 3 ∨ k / 16 = 4 ∨ k / 16 = 5 ∨ k / 16 = 6 ∨ k / 16 = 7 ∨ k / 16 = 8 ∨ k / 16 = 9 := by omega
  have hm : k % 16 < 16 := by omega
  rcases hc with h | h | h | h | h | h | h | h | h | h
  · have := XC_r0 ⟨k % 16, hm⟩ ⟨j, hj⟩
    rw [show ((⟨k % 16, hm⟩ : Fin 16).val + 0 : Nat) = k by show k % 16 + 0 = k; omega] at this
    exact this
  · have := XC_r1 ⟨k % 16, hm⟩ ⟨j, hj⟩
    rw [show ((⟨k % 16, hm⟩ : Fin 16).val + 16 : Nat) = k by show k % 16 + 16 = k; omega] at this
    exact this
  · have := XC_r2 ⟨k % 16, hm⟩ ⟨j, hj⟩
    rw [show ((⟨k % 16, hm⟩ : Fin 16).val + 32 : Nat) = k by show k % 16 + 32 = k; omega] at this
    exact this
  · have := XC_r3 ⟨k % 16, hm⟩ ⟨j, hj⟩
    rw [show ((⟨k % 16, hm⟩ : Fin 16).val + 48 : Nat) = k by show k % 16 + 48 = k; omega] at this
    exact this
  · have := XC_r4 ⟨k % 16, hm⟩ ⟨j, hj⟩
    rw [show ((⟨k % 16, hm⟩ : Fin 16).val + 64 : Nat) = k by show k % 16 + 64 = k; omega] at this
    exact this
  · have := XC_r5 ⟨k % 16, hm⟩ ⟨j, hj⟩
    rw [show ((⟨k % 16, hm⟩ : Fin 16).val + 80 : Nat) = k by show k % 16 + 80 = k; omega] at this
    exact this
  · have := XC_r6 ⟨k % 16, hm⟩ ⟨j, hj⟩
    rw [show ((⟨k % 16, hm⟩ : Fin 16).val + 96 : Nat) = k by show k % 16 + 96 = k; omega] at this
    exact this
  · have := XC_r7 ⟨k % 16, hm⟩ ⟨j, hj⟩
    rw [show ((⟨k % 16, hm⟩ : Fin 16).val + 112 : Nat) = k by show k % 16 + 112 = k; omega] at this
    exact this
  · have := XC_r8 ⟨k % 16, hm⟩ ⟨j, hj⟩
    rw [show ((⟨k % 16, hm⟩ : Fin 16).val + 128 : Nat) = k by show k % 16 + 128 = k; omega] at this
    exact this
  · have := XC_r9 ⟨k % 16, hm⟩ ⟨j, hj⟩
    rw [show ((⟨k % 16, hm⟩ : Fin 16).val + 144 : Nat) = k by show k % 16 + 144 = k; omega] at this
    exact this
theorem getD_out {A : Type} (l : List A) (d : A) {n : Nat} (h : l.length ≤ n) : l.getD n d = d := by
  rw [List.getD_eq_getElem?_getD, List.getElem?_eq_none h]
  rfl
theorem shT_out {y : Int} (h : y ≤ 0 ∨ 156 < y) : SHP y = 0 ∧ LEN y = 0 := by
  unfold SHP LEN
  rcases h with h | h
  · rw [show y.toNat = 0 by omega]
    exact ⟨rfl, rfl⟩
  · obtain ⟨n, hn⟩ : ∃ n : Nat, n = y.toNat := ⟨_, rfl⟩
    rw [← hn]
    rw [getD_out shT 0 (show shT.length ≤ n from Nat.le_trans (by decide : shT.length ≤ 157) (by omega)), getD_out lnT 0 (show lnT.length ≤ n from Nat.le_trans (by decide : lnT.length ≤ 157) (by omega))]
    exact ⟨rfl, rfl⟩
theorem rfT_len : ∀ l ∈ rfT, l.length ≤ 100 := by decide +kernel
theorem RF_out {y j : Int} (h : y ≤ 0 ∨ 156 < y ∨ j < 0 ∨ 99 < j) : RF y j = 0 := by
  unfold RF
  by_cases h1 : y = 23
  · rw [if_pos h1, if_neg (by omega)]
  · rw [if_neg h1]
    by_cases h2 : 0 ≤ y ∧ 0 ≤ j
    · rw [if_pos h2]
      obtain ⟨n, hn⟩ : ∃ n : Nat, n = y.toNat := ⟨_, rfl⟩
      obtain ⟨k, hk⟩ : ∃ k : Nat, k = j.toNat := ⟨_, rfl⟩
      rw [← hn, ← hk]
      by_cases h3 : n = 0
      · subst h3
        rfl
      · by_cases h4 : 156 < n
        · rw [getD_out rfT [] (show rfT.length ≤ n from Nat.le_trans (by decide : rfT.length ≤ 157) (by omega))]
          rfl
        · have hl : (rfT.getD n []).length ≤ 100 := by
            rw [List.getD_eq_getElem?_getD]
            cases e : rfT[n]? with
            | none => exact Nat.zero_le _
            | some l => exact rfT_len l (List.mem_of_getElem? e)
          exact getD_out _ 0 (Nat.le_trans hl (by omega))
    · rw [if_neg h2]
theorem XC_G0 : XC.1 = G0 := by
  refine Prod.ext XC_n (Prod.ext ?_ (Prod.ext ?_ ?_))
  · funext y
    by_cases h : y ≤ 0 ∨ 156 < y
    · exact (sup_XC.1 y h).1.trans (shT_out h).1.symm
    · have := XC_s ⟨y.toNat, by omega⟩
      rw [show (((⟨y.toNat, by omega⟩ : Fin 157).val : Nat) : Int) = y by show ((y.toNat : Nat) : Int) = y; omega] at this
      exact this
  · funext y
    by_cases h : y ≤ 0 ∨ 156 < y
    · exact (sup_XC.1 y h).2.trans (shT_out h).2.symm
    · have := XC_l ⟨y.toNat, by omega⟩
      rw [show (((⟨y.toNat, by omega⟩ : Fin 157).val : Nat) : Int) = y by show ((y.toNat : Nat) : Int) = y; omega] at this
      exact this
  · funext y j
    by_cases h : y ≤ 0 ∨ 156 < y ∨ j < 0 ∨ 99 < j
    · exact (sup_XC.2 y j h).trans (RF_out h).symm
    · have := XC_r y.toNat j.toNat (by omega) (by omega)
      rw [show ((y.toNat : Nat) : Int) = y by omega, show ((j.toNat : Nat) : Int) = j by omega] at this
      exact this
