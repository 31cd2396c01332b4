/-! THE MACHINE FOLLOWS THE ABSTRACT ONE: instructions that touch the stack and the locals alone -/
/-- from a state of the machine that stands for c the machine comes to Q -/
def sJ (p : Program) (l : Launch) (e : Env) (R : Room) (s : State) (m : MethodId) (args : Array Value) (below : List Frame) (meth : Method) (cd : Code) (ev : sV) (nL : Nat) (ad0 : Nat → Nat) (g0 : aG) (Q : State → Prop) (c : aC) : Prop :=
  ∀ (ad : Nat → Nat) (H : Heap) (locs : List Loc) (ls : Array Slot), (∀ k, k ≤ g0.1 → ad k = ad0 k) → gLe g0 c.2.2.2.2.1 → wC ev c → sH ev ad c.2.2.2.2.1 c.2.2.2.1 s.heap H locs → lR ev ad nL c.2.1 ls → W p l e R s m args below meth cd H locs c.2.2.2.2.2.1 c.2.2.2.2.2.2 Q (F0 m c.1 ls (c.2.2.1.map (cv ev ad)))
section Ops
variable {p : Program} {l : Launch} {e : Env} {R : Room} {s : State} {m : MethodId} {args : Array Value} {below : List Frame} {meth : Method} {cd : Code} {Q : State → Prop} {cc : ByteArray} {ev : sV} {nL : Nat} {ad0 : Nat → Nat} {g0 : aG}
variable {pc nx : Nat} {L st r : List aV} {mm : aM} {X : aX} {c' : aC}
theorem sJ_st {st' : List aV} (hw : wC ev (pc, L, st, mm, X) → wC ev (nx, L, st', mm, X))
    (hs : ∀ (ad : Nat → Nat) (H : Heap) (locs : List Loc) (ls : Array Slot), wC ev (pc, L, st, mm, X) → sH ev ad X.1 mm s.heap H locs → lR ev ad nL L ls → W p l e R s m args below meth cd H locs X.2.1 X.2.2 Q (F0 m nx ls (st'.map (cv ev ad))) → W p l e R s m args below meth cd H locs X.2.1 X.2.2 Q (F0 m pc ls (st.map (cv ev ad))))
    (k : sJ p l e R s m args below meth cd ev nL ad0 g0 Q (nx, L, st', mm, X)) : sJ p l e R s m args below meth cd ev nL ad0 g0 Q (pc, L, st, mm, X) :=
  fun ad H locs ls h1 h2 h3 h4 h5 => hs ad H locs ls h3 h4 h5 (k ad H locs ls h1 h2 (hw h3) h4 h5)
/-- values pushed in the place of values taken -/
theorem wC.stk {st' : List aV} (h : wC ev (pc, L, st, mm, X)) (hs : ∀ v ∈ st', v.1 ≠ 99 ∧ wv X.1 v) : wC ev (nx, L, st', mm, X) := ⟨h.1, hs, h.2.2⟩
theorem wC.top {v : aV} (h : wC ev (pc, L, v :: r, mm, X)) : v.1 ≠ 99 ∧ wv X.1 v := h.2.1 v List.mem_cons_self
theorem wC.top2 {v w : aV} (h : wC ev (pc, L, v :: w :: r, mm, X)) : w.1 ≠ 99 ∧ wv X.1 w := h.2.1 w (List.mem_cons_of_mem _ List.mem_cons_self)
theorem wC.top3 {v w u : aV} (h : wC ev (pc, L, v :: w :: u :: r, mm, X)) : u.1 ≠ 99 ∧ wv X.1 u := h.2.1 u (List.mem_cons_of_mem _ (List.mem_cons_of_mem _ List.mem_cons_self))
theorem wC.push {v : aV} (h : wC ev (pc, L, st, mm, X)) (hv : v.1 ≠ 99 ∧ wv X.1 v) : wC ev (nx, L, v :: st, mm, X) := h.stk fun w hw => by
  rcases List.mem_cons.mp hw with rfl | hw
  · exact hv
  · exact h.2.1 w hw
theorem wC.pop {v : aV} (h : wC ev (pc, L, v :: r, mm, X)) : wC ev (nx, L, r, mm, X) := h.stk fun w hw => h.2.1 w (List.mem_cons_of_mem _ hw)
theorem n99_0 (x : Int) : ((0, x) : aV).1 ≠ 99 := fun h => absurd h (show ¬ (0 : Nat) = 99 by decide)
theorem n99_1 (x : Int) : ((1, x) : aV).1 ≠ 99 := fun h => absurd h (show ¬ (1 : Nat) = 99 by decide)
/-- a constant -/
theorem sd_int {v : Int} (hv : in32 v) (hs : ∀ (H : Heap) (locs : List Loc) (ls : Array Slot) (rest : List Value), W p l e R s m args below meth cd H locs X.2.1 X.2.2 Q (F0 m nx ls (.int (Int32.ofInt v) :: rest)) → W p l e R s m args below meth cd H locs X.2.1 X.2.2 Q (F0 m pc ls rest))
    (k : sJ p l e R s m args below meth cd ev nL ad0 g0 Q (nx, L, (0, v) :: st, mm, X)) : sJ p l e R s m args below meth cd ev nL ad0 g0 Q (pc, L, st, mm, X) :=
  sJ_st (fun h => h.push ⟨n99_0 v, hv⟩) (fun ad H locs ls _ _ _ kk => hs H locs ls _ kk) k
theorem sd_long {v : Int} (hv : in64 v) (hs : ∀ (H : Heap) (locs : List Loc) (ls : Array Slot) (rest : List Value), W p l e R s m args below meth cd H locs X.2.1 X.2.2 Q (F0 m nx ls (.long (Int64.ofInt v) :: rest)) → W p l e R s m args below meth cd H locs X.2.1 X.2.2 Q (F0 m pc ls rest))
    (k : sJ p l e R s m args below meth cd ev nL ad0 g0 Q (nx, L, (1, v) :: st, mm, X)) : sJ p l e R s m args below meth cd ev nL ad0 g0 Q (pc, L, st, mm, X) :=
  sJ_st (fun h => h.push ⟨n99_1 v, hv⟩) (fun ad H locs ls _ _ _ kk => hs H locs ls _ kk) k
/-- two ints into one -/
theorem sd_i2 {f : Int → Int → Int} {g : Int32 → Int32 → Int32} (hf : ∀ a b, in32 a → in32 b → in32 (f a b) ∧ g (Int32.ofInt a) (Int32.ofInt b) = Int32.ofInt (f a b))
    (hs : ∀ (H : Heap) (locs : List Loc) (ls : Array Slot) (rest : List Value) (x y : Int32), W p l e R s m args below meth cd H locs X.2.1 X.2.2 Q (F0 m nx ls (.int (g x y) :: rest)) → W p l e R s m args below meth cd H locs X.2.1 X.2.2 Q (F0 m pc ls (.int y :: .int x :: rest)))
    (h : aI2 f nx L st mm X = some c') (k : sJ p l e R s m args below meth cd ev nL ad0 g0 Q c') : sJ p l e R s m args below meth cd ev nL ad0 g0 Q (pc, L, st, mm, X) := by
  unfold aI2 at h
  split at h
  · rename_i b a r
    cases h
    refine sJ_st (fun h => ?_) (fun ad H locs ls hc _ _ kk => ?_) k
    · exact (wC.pop (nx := pc) (wC.pop (nx := pc) h)).push ⟨n99_0 _, (hf a b h.top2.2 h.top.2).1⟩
    · refine hs H locs ls _ (Int32.ofInt a) (Int32.ofInt b) ?_
      rw [(hf a b hc.top2.2 hc.top.2).2]
      exact kk
  · cases h
theorem sd_l2 {f : Int → Int → Int} {g : Int64 → Int64 → Int64} (hf : ∀ a b, in64 a → in64 b → in64 (f a b) ∧ g (Int64.ofInt a) (Int64.ofInt b) = Int64.ofInt (f a b))
    (hs : ∀ (H : Heap) (locs : List Loc) (ls : Array Slot) (rest : List Value) (x y : Int64), W p l e R s m args below meth cd H locs X.2.1 X.2.2 Q (F0 m nx ls (.long (g x y) :: rest)) → W p l e R s m args below meth cd H locs X.2.1 X.2.2 Q (F0 m pc ls (.long y :: .long x :: rest)))
    (h : aL2 f nx L st mm X = some c') (k : sJ p l e R s m args below meth cd ev nL ad0 g0 Q c') : sJ p l e R s m args below meth cd ev nL ad0 g0 Q (pc, L, st, mm, X) := by
  unfold aL2 at h
  split at h
  · rename_i b a r
    cases h
    refine sJ_st (fun h => ?_) (fun ad H locs ls hc _ _ kk => ?_) k
    · exact (wC.pop (nx := pc) (wC.pop (nx := pc) h)).push ⟨n99_1 _, (hf a b h.top2.2 h.top.2).1⟩
    · refine hs H locs ls _ (Int64.ofInt a) (Int64.ofInt b) ?_
      rw [(hf a b hc.top2.2 hc.top.2).2]
      exact kk
  · cases h
theorem sd_ls {f : Int → Int → Int} {g : Int64 → Int32 → Int64} (hf : ∀ a b, in64 a → in32 b → in64 (f a b) ∧ g (Int64.ofInt a) (Int32.ofInt b) = Int64.ofInt (f a b))
    (hs : ∀ (H : Heap) (locs : List Loc) (ls : Array Slot) (rest : List Value) (x : Int64) (y : Int32), W p l e R s m args below meth cd H locs X.2.1 X.2.2 Q (F0 m nx ls (.long (g x y) :: rest)) → W p l e R s m args below meth cd H locs X.2.1 X.2.2 Q (F0 m pc ls (.int y :: .long x :: rest)))
    (h : aLS f nx L st mm X = some c') (k : sJ p l e R s m args below meth cd ev nL ad0 g0 Q c') : sJ p l e R s m args below meth cd ev nL ad0 g0 Q (pc, L, st, mm, X) := by
  unfold aLS at h
  split at h
  · rename_i b a r
    cases h
    refine sJ_st (fun h => ?_) (fun ad H locs ls hc _ _ kk => ?_) k
    · exact (wC.pop (nx := pc) (wC.pop (nx := pc) h)).push ⟨n99_1 _, (hf a b h.top2.2 h.top.2).1⟩
    · refine hs H locs ls _ (Int64.ofInt a) (Int32.ofInt b) ?_
      rw [(hf a b hc.top2.2 hc.top.2).2]
      exact kk
  · cases h
/-- loads -/
theorem wC.loc {k : Nat} {v : aV} (h : wC ev (pc, L, st, mm, X)) (hk : L[k]? = some v) (hv : v.1 ≠ 99) : wv X.1 v := h.1 v (List.mem_of_getElem? hk) hv
theorem sd_ld0 {k : Nat} (hs : ∀ (H : Heap) (locs : List Loc) (ls : Array Slot) (rest : List Value) (x : Int32), ls[k]? = some (.val (.int x)) → W p l e R s m args below meth cd H locs X.2.1 X.2.2 Q (F0 m nx ls (.int x :: rest)) → W p l e R s m args below meth cd H locs X.2.1 X.2.2 Q (F0 m pc ls rest))
    (h : aLd 0 k nx L st mm X = some c') (kk : sJ p l e R s m args below meth cd ev nL ad0 g0 Q c') : sJ p l e R s m args below meth cd ev nL ad0 g0 Q (pc, L, st, mm, X) := by
  unfold aLd at h
  split at h
  · rename_i u x hk
    split at h
    · rename_i hu
      subst hu
      cases h
      exact sJ_st (fun h => h.push ⟨n99_0 _, h.loc hk (n99_0 _)⟩) (fun ad H locs ls hc _ hl kk => hs H locs ls _ (Int32.ofInt x) (hl.2.2.2 k _ hk (n99_0 _)) kk) kk
    · cases h
  · cases h
theorem sd_ld1 {k : Nat} (hs : ∀ (H : Heap) (locs : List Loc) (ls : Array Slot) (rest : List Value) (x : Int64), ls[k]? = some (.val (.long x)) → W p l e R s m args below meth cd H locs X.2.1 X.2.2 Q (F0 m nx ls (.long x :: rest)) → W p l e R s m args below meth cd H locs X.2.1 X.2.2 Q (F0 m pc ls rest))
    (h : aLd 1 k nx L st mm X = some c') (kk : sJ p l e R s m args below meth cd ev nL ad0 g0 Q c') : sJ p l e R s m args below meth cd ev nL ad0 g0 Q (pc, L, st, mm, X) := by
  unfold aLd at h
  split at h
  · rename_i u x hk
    split at h
    · rename_i hu
      subst hu
      cases h
      exact sJ_st (fun h => h.push ⟨n99_1 _, h.loc hk (n99_1 _)⟩) (fun ad H locs ls hc _ hl kk => hs H locs ls _ (Int64.ofInt x) (hl.2.2.2 k _ hk (n99_1 _)) kk) kk
    · cases h
  · cases h
/-- a reference or null -/
theorem cv_ref (ev : sV) (ad : Nat → Nat) {v : aV} (h : 10 ≤ v.1) : cv ev ad v = .null ∨ ∃ a, cv ev ad v = .ref a := by
  obtain ⟨t, x⟩ := v
  have h : 10 ≤ t := h
  unfold cv
  dsimp only
  split
  · omega
  · omega
  · split
    · exact Or.inl rfl
    · exact Or.inr ⟨_, rfl⟩
  all_goals first | exact Or.inr ⟨_, rfl⟩ | skip
  · cases hF : vF ev
    · exact Or.inl rfl
    · exact Or.inr ⟨_, rfl⟩
theorem sd_ldR {k : Nat} (hs : ∀ (H : Heap) (locs : List Loc) (ls : Array Slot) (rest : List Value) (x : Nat), ls[k]? = some (.val (.ref x)) → W p l e R s m args below meth cd H locs X.2.1 X.2.2 Q (F0 m nx ls (.ref x :: rest)) → W p l e R s m args below meth cd H locs X.2.1 X.2.2 Q (F0 m pc ls rest))
    (hn : ∀ (H : Heap) (locs : List Loc) (ls : Array Slot) (rest : List Value), ls[k]? = some (.val .null) → W p l e R s m args below meth cd H locs X.2.1 X.2.2 Q (F0 m nx ls (.null :: rest)) → W p l e R s m args below meth cd H locs X.2.1 X.2.2 Q (F0 m pc ls rest))
    (h : aLdR k nx L st mm X = some c') (kk : sJ p l e R s m args below meth cd ev nL ad0 g0 Q c') : sJ p l e R s m args below meth cd ev nL ad0 g0 Q (pc, L, st, mm, X) := by
  unfold aLdR at h
  split at h
  · rename_i u x hk
    split at h
    · rename_i hu
      cases h
      have hn99 : ((u, x) : aV).1 ≠ 99 := by have := hu.2; show u ≠ 99; omega
      refine sJ_st (fun h => h.push ⟨hn99, h.loc hk hn99⟩) (fun ad H locs ls hc _ hl kk => ?_) kk
      have hv := hl.2.2.2 k _ hk hn99
      have kk : W p l e R s m args below meth cd H locs X.2.1 X.2.2 Q (F0 m nx ls (cv ev ad (u, x) :: st.map (cv ev ad))) := kk
      rcases cv_ref ev ad (v := (u, x)) hu.1 with hr | ⟨a, hr⟩
      · rw [hr] at hv kk
        exact hn H locs ls _ hv kk
      · rw [hr] at hv kk
        exact hs H locs ls _ a hv kk
    · cases h
  · cases h
/-- stores -/
theorem wC.sto {L' : List aV} (h : wC ev (pc, L, st, mm, X)) (hL : ∀ v ∈ L', v.1 ≠ 99 → wv X.1 v) (hs : ∀ v ∈ r, v ∈ st) : wC ev (nx, L', r, mm, X) := ⟨hL, fun v hv => h.2.1 v (hs v hv), h.2.2⟩
theorem aClr_mem {i : Nat} {v : aV} (h : v ∈ aClr L i) (hv : v.1 ≠ 99) : v ∈ L := by
  obtain ⟨j, hj⟩ := List.getElem?_of_mem h
  exact List.mem_of_getElem? (aClr_at hj hv).1
theorem aSt1_mem {i : Nat} {v w : aV} (h : w ∈ aSt1 L i v) (hw : w.1 ≠ 99) : w = v ∨ w ∈ L := by
  unfold aSt1 at h
  rcases List.mem_or_eq_of_mem_set h with h | h
  · exact Or.inr (aClr_mem h hw)
  · exact Or.inl h
theorem aSt2_mem {i : Nat} {v w : aV} (h : w ∈ aSt2 L i v) (hw : w.1 ≠ 99) : w = v ∨ w ∈ L := by
  unfold aSt2 at h
  rcases List.mem_or_eq_of_mem_set h with h | h
  · rcases List.mem_or_eq_of_mem_set h with h | h
    · exact Or.inr (aClr_mem h hw)
    · exact Or.inl h
  · rw [h] at hw
    exact absurd rfl hw
theorem sd_stI {i : Nat} (hi : i < nL) (hs : ∀ (H : Heap) (locs : List Loc) (ls : Array Slot) (rest : List Value) (x : Int32) (lv lv' : List (Nat × Value)), lv_has ls nL lv → (i, Value.int x) :: lv.filter (fun q => !(q.1 == i) && !(q.1 + 1 == i && q.2.category == 2)) = lv' → (∀ ls' : Array Slot, lv_has ls' nL lv' → W p l e R s m args below meth cd H locs X.2.1 X.2.2 Q (F0 m nx ls' rest)) → W p l e R s m args below meth cd H locs X.2.1 X.2.2 Q (F0 m pc ls (.int x :: rest)))
    (h : aStI i nx L st mm X = some c') (kk : sJ p l e R s m args below meth cd ev nL ad0 g0 Q c') : sJ p l e R s m args below meth cd ev nL ad0 g0 Q (pc, L, st, mm, X) := by
  unfold aStI at h
  split at h
  · rename_i x r
    cases h
    intro ad H locs ls h1 h2 h3 h4 h5
    refine hs H locs ls _ (Int32.ofInt x) _ _ h5.has rfl (fun ls' hl' => ?_)
    refine kk ad H locs ls' h1 h2 (h3.sto (fun v hv hn => ?_) (fun v hv => List.mem_cons_of_mem _ hv)) h4 (lR.st1 (v := (0, x)) h5.1 hi hl')
    rcases aSt1_mem hv hn with rfl | hm
    · exact h3.top.2
    · exact h3.1 v hm hn
  · cases h
theorem sd_stL {i : Nat} (hi : i + 1 < nL) (hs : ∀ (H : Heap) (locs : List Loc) (ls : Array Slot) (rest : List Value) (x : Int64) (lv lv' : List (Nat × Value)), lv_has ls nL lv → (i, Value.long x) :: lv.filter (fun q => !(q.1 == i) && (!(q.1 == i + 1) && !(q.1 + 1 == i && q.2.category == 2))) = lv' → (∀ ls' : Array Slot, lv_has ls' nL lv' → W p l e R s m args below meth cd H locs X.2.1 X.2.2 Q (F0 m nx ls' rest)) → W p l e R s m args below meth cd H locs X.2.1 X.2.2 Q (F0 m pc ls (.long x :: rest)))
    (h : aStL i nx L st mm X = some c') (kk : sJ p l e R s m args below meth cd ev nL ad0 g0 Q c') : sJ p l e R s m args below meth cd ev nL ad0 g0 Q (pc, L, st, mm, X) := by
  unfold aStL at h
  split at h
  · rename_i x r
    cases h
    intro ad H locs ls h1 h2 h3 h4 h5
    refine hs H locs ls _ (Int64.ofInt x) _ _ h5.has rfl (fun ls' hl' => ?_)
    refine kk ad H locs ls' h1 h2 (h3.sto (fun v hv hn => ?_) (fun v hv => List.mem_cons_of_mem _ hv)) h4 (lR.st2 (v := (1, x)) h5.1 hi hl')
    rcases aSt2_mem hv hn with rfl | hm
    · exact h3.top.2
    · exact h3.1 v hm hn
  · cases h
theorem sd_stR {i : Nat} (hi : i < nL) (hs : ∀ (H : Heap) (locs : List Loc) (ls : Array Slot) (rest : List Value) (x : Nat) (lv lv' : List (Nat × Value)), lv_has ls nL lv → (i, Value.ref x) :: lv.filter (fun q => !(q.1 == i) && !(q.1 + 1 == i && q.2.category == 2)) = lv' → (∀ ls' : Array Slot, lv_has ls' nL lv' → W p l e R s m args below meth cd H locs X.2.1 X.2.2 Q (F0 m nx ls' rest)) → W p l e R s m args below meth cd H locs X.2.1 X.2.2 Q (F0 m pc ls (.ref x :: rest)))
    (hn : ∀ (H : Heap) (locs : List Loc) (ls : Array Slot) (rest : List Value) (lv lv' : List (Nat × Value)), lv_has ls nL lv → (i, Value.null) :: lv.filter (fun q => !(q.1 == i) && !(q.1 + 1 == i && q.2.category == 2)) = lv' → (∀ ls' : Array Slot, lv_has ls' nL lv' → W p l e R s m args below meth cd H locs X.2.1 X.2.2 Q (F0 m nx ls' rest)) → W p l e R s m args below meth cd H locs X.2.1 X.2.2 Q (F0 m pc ls (.null :: rest)))
    (h : aStR i nx L st mm X = some c') (kk : sJ p l e R s m args below meth cd ev nL ad0 g0 Q c') : sJ p l e R s m args below meth cd ev nL ad0 g0 Q (pc, L, st, mm, X) := by
  unfold aStR at h
  split at h
  · rename_i u x r
    split at h
    · rename_i hu
      cases h
      intro ad H locs ls h1 h2 h3 h4 h5
      have key : ∀ ls' : Array Slot, lv_has ls' nL ((i, cv ev ad (u, x)) :: (lLs ev ad L).filter (fun q => !(q.1 == i) && !(q.1 + 1 == i && q.2.category == 2))) → W p l e R s m args below meth cd H locs X.2.1 X.2.2 Q (F0 m nx ls' (r.map (cv ev ad))) := by
        intro ls' hl'
        refine kk ad H locs ls' h1 h2 (h3.sto (fun v hv hn => ?_) (fun v hv => List.mem_cons_of_mem _ hv)) h4 (lR.st1 (v := (u, x)) h5.1 hi hl')
        rcases aSt1_mem hv hn with rfl | hm
        · exact h3.top.2
        · exact h3.1 v hm hn
      show W p l e R s m args below meth cd H locs X.2.1 X.2.2 Q (F0 m pc ls (cv ev ad (u, x) :: r.map (cv ev ad)))
      rcases cv_ref ev ad (v := (u, x)) hu.1 with hr | ⟨a, hr⟩
      · rw [hr] at key ⊢
        exact hn H locs ls _ _ _ h5.has rfl key
      · rw [hr] at key ⊢
        exact hs H locs ls _ a _ _ h5.has rfl key
    · cases h
  · cases h
end Ops
