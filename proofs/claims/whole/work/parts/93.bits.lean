/-! bytes of a long, words as longs -/
/-! ===== Int32 by its bits: bt x i ===== -/
def bt (x : Int32) (i : Nat) : Bool := x.toBitVec.getLsbD i
theorem b_ext {x y : Int32} (h : ∀ i, i < 32 → bt x i = bt y i) : x = y := Int32.toBitVec_inj.mp (BitVec.eq_of_getLsbD_eq (fun i hi => h i hi))
theorem b_or (x y : Int32) (i : Nat) : bt (x ||| y) i = (bt x i || bt y i) := by unfold bt; rw [Int32.toBitVec_or, BitVec.getLsbD_or]
theorem b_and (x y : Int32) (i : Nat) : bt (x &&& y) i = (bt x i && bt y i) := by unfold bt; rw [Int32.toBitVec_and, BitVec.getLsbD_and]
theorem b_xor (x y : Int32) (i : Nat) : bt (x ^^^ y) i = (bt x i ^^ bt y i) := by unfold bt; rw [Int32.toBitVec_xor, BitVec.getLsbD_xor]
theorem b_big {x : Int32} {i : Nat} (h : 32 ≤ i) : bt x i = false := BitVec.getLsbD_of_ge _ _ h
theorem b_255 (i : Nat) : bt 255 i = decide (i < 8) := by
  rcases Nat.lt_or_ge i 32 with h | h
  · exact (by decide +kernel : ∀ i, i < 32 → bt 255 i = decide (i < 8)) i h
  · rw [b_big h, decide_eq_false (by omega)]
theorem b_65535 (i : Nat) : bt 65535 i = decide (i < 16) := by
  rcases Nat.lt_or_ge i 32 with h | h
  · exact (by decide +kernel : ∀ i, i < 32 → bt 65535 i = decide (i < 16)) i h
  · rw [b_big h, decide_eq_false (by omega)]
theorem b_m1 : ∀ i, i < 32 → bt (-1) i = true := by decide +kernel
theorem b_0 (i : Nat) : bt 0 i = false := BitVec.getLsbD_zero
theorem s_l : ∀ n, n < 32 → ((nI n &&& 31).toBitVec.smod 32).toNat = n := by decide +kernel
theorem s_u : ∀ n, n < 32 → (((nI n).toUInt32 &&& Int32.toUInt32 31).toBitVec % 32).toNat = n := by decide +kernel
theorem b_shl (n : Nat) (hn : n < 32) (x : Int32) {i : Nat} (hi : i < 32) : bt (x <<< (nI n &&& 31)) i = (decide (n ≤ i) && bt x (i - n)) := by
  unfold bt
  rw [Int32.toBitVec_shiftLeft]
  show (x.toBitVec <<< ((nI n &&& 31).toBitVec.smod 32).toNat).getLsbD i = _
  rw [s_l n hn, BitVec.getLsbD_shiftLeft]
  rcases Nat.lt_or_ge i n with h | h
  · simp [h, Nat.not_le.mpr h]
  · simp [hi, h, Nat.not_lt.mpr h]
theorem b_ushr (n : Nat) (hn : n < 32) (x : Int32) (i : Nat) : bt ((x.toUInt32 >>> ((nI n).toUInt32 &&& Int32.toUInt32 31)).toInt32) i = bt x (n + i) := by
  show (x.toUInt32 >>> ((nI n).toUInt32 &&& Int32.toUInt32 31)).toBitVec.getLsbD i = x.toUInt32.toBitVec.getLsbD (n + i)
  rw [UInt32.toBitVec_shiftRight]
  show (x.toUInt32.toBitVec >>> (((nI n).toUInt32 &&& Int32.toUInt32 31).toBitVec % 32).toNat).getLsbD i = _
  rw [s_u n hn, BitVec.getLsbD_ushiftRight]
theorem b_sshr (n : Nat) (hn : n < 32) (x : Int32) {i : Nat} (hi : i < 32) : bt (x >>> (nI n &&& 31)) i = if n + i < 32 then bt x (n + i) else bt x 31 := by
  unfold bt
  rw [Int32.toBitVec_shiftRight]
  show (x.toBitVec.sshiftRight ((nI n &&& 31).toBitVec.smod 32).toNat).getLsbD i = _
  rw [s_l n hn, BitVec.getLsbD_sshiftRight, BitVec.msb_eq_getLsbD_last]
  simp [hi]
theorem b_shl8 (x : Int32) {i : Nat} (hi : i < 32) : bt (x <<< ((8 : Int32) &&& 31)) i = (decide (8 ≤ i) && bt x (i - 8)) := b_shl 8 (by omega) x hi
theorem b_shl16 (x : Int32) {i : Nat} (hi : i < 32) : bt (x <<< ((16 : Int32) &&& 31)) i = (decide (16 ≤ i) && bt x (i - 16)) := b_shl 16 (by omega) x hi
theorem b_shl24 (x : Int32) {i : Nat} (hi : i < 32) : bt (x <<< ((24 : Int32) &&& 31)) i = (decide (24 ≤ i) && bt x (i - 24)) := b_shl 24 (by omega) x hi
theorem b_sshr8 (x : Int32) {i : Nat} (hi : i < 32) : bt (x >>> ((8 : Int32) &&& 31)) i = if 8 + i < 32 then bt x (8 + i) else bt x 31 := b_sshr 8 (by omega) x hi
/-! ===== lN n to 2^64: shifts, and, or, masks, one bit ===== -/
theorem wb_tb (n : Nat) : (lN n).toBitVec = BitVec.ofNat 64 n := rfl
theorem wb_inj {a b : Int64} (h : a.toBitVec = b.toBitVec) : a = b := Int64.toBitVec_inj.mp h
theorem wb_tn {n : Nat} (h : n < 2 ^ 64) : (lN n).toBitVec.toNat = n := by rw [wb_tb, BitVec.toNat_ofNat, Nat.mod_eq_of_lt h]
theorem wb_of (x : Int64) : ∃ n, n < 2 ^ 64 ∧ x = lN n := ⟨x.toBitVec.toNat, x.toBitVec.isLt, wb_inj (by rw [wb_tb]; simp)⟩
theorem wb_of32 (x : Int32) : ∃ n, n < 2 ^ 32 ∧ x = nI n := ⟨x.toBitVec.toNat, x.toBitVec.isLt, Int32.toBitVec_inj.mp (by show _ = BitVec.ofNat 32 _; simp)⟩
theorem wb_c : ∀ k, k < 64 → ((nI k).toInt64 &&& 63) = lN k := by decide +kernel
theorem wb_cu : ∀ k, k < 64 → ((nI k).toInt64.toUInt64 &&& Int64.toUInt64 63) = UInt64.ofNat k := by decide +kernel
theorem wb_sm : ∀ k, k < 64 → (BitVec.ofNat 64 k).smod 64 = BitVec.ofNat 64 k := by decide +kernel
theorem wb_pw {a b : Nat} (h : a ≤ b) : 2 ^ b = 2 ^ a * 2 ^ (b - a) := by rw [← Nat.pow_add]; congr 1; omega
theorem wb_lt2 {a b : Nat} (h : a < b) : 2 ^ a < 2 ^ b := Nat.pow_lt_pow_right (by decide) h
theorem wb_mod (n : Nat) : lN n = lN (n % 2 ^ 64) := wb_inj (by rw [wb_tb, wb_tb]; apply BitVec.eq_of_toNat_eq; rw [BitVec.toNat_ofNat, BitVec.toNat_ofNat, Nat.mod_mod])
theorem wb_shr {n k : Nat} (hn : n < 2 ^ 64) (hk : k < 64) : ((lN n).toUInt64 >>> ((nI k).toInt64.toUInt64 &&& Int64.toUInt64 63)).toInt64 = lN (n / 2 ^ k) := by
  rw [wb_cu k hk]
  apply wb_inj
  apply BitVec.eq_of_toNat_eq
  show ((lN n).toUInt64 >>> UInt64.ofNat k).toNat = (BitVec.ofNat 64 _).toNat
  have h1 : (UInt64.ofNat k).toNat = k := by
    show (BitVec.ofNat 64 k).toNat = k
    rw [BitVec.toNat_ofNat, Nat.mod_eq_of_lt (by omega)]
  have h2 : (lN n).toUInt64.toNat = n := wb_tn hn
  rw [UInt64.toNat_shiftRight, h1, h2, Nat.mod_eq_of_lt hk, Nat.shiftRight_eq_div_pow, BitVec.toNat_ofNat, Nat.mod_eq_of_lt (Nat.lt_of_le_of_lt (Nat.div_le_self _ _) hn)]
theorem wb_shl (n : Nat) {k : Nat} (hk : k < 64) : lN n <<< ((nI k).toInt64 &&& 63) = lN (n * 2 ^ k) := by
  rw [wb_c k hk]
  apply wb_inj
  rw [Int64.toBitVec_shiftLeft, wb_tb, wb_tb, wb_tb, wb_sm k hk]
  apply BitVec.eq_of_toNat_eq
  rw [BitVec.shiftLeft_eq', BitVec.toNat_shiftLeft, BitVec.toNat_ofNat, BitVec.toNat_ofNat, BitVec.toNat_ofNat, Nat.mod_eq_of_lt (show k < 2 ^ 64 by omega), Nat.shiftLeft_eq, Nat.mul_mod, Nat.mod_mod, ← Nat.mul_mod]
theorem wb_and {a b : Nat} (ha : a < 2 ^ 64) (hb : b < 2 ^ 64) : lN a &&& lN b = lN (a &&& b) := by
  apply wb_inj
  rw [Int64.toBitVec_and, wb_tb, wb_tb, wb_tb]
  apply BitVec.eq_of_toNat_eq
  rw [BitVec.toNat_and, BitVec.toNat_ofNat, BitVec.toNat_ofNat, BitVec.toNat_ofNat, Nat.mod_eq_of_lt ha, Nat.mod_eq_of_lt hb, Nat.mod_eq_of_lt (Nat.and_lt_two_pow _ hb)]
theorem wb_or {a b : Nat} (ha : a < 2 ^ 64) (hb : b < 2 ^ 64) : lN a ||| lN b = lN (a ||| b) := by
  apply wb_inj
  rw [Int64.toBitVec_or, wb_tb, wb_tb, wb_tb]
  apply BitVec.eq_of_toNat_eq
  rw [BitVec.toNat_or, BitVec.toNat_ofNat, BitVec.toNat_ofNat, BitVec.toNat_ofNat, Nat.mod_eq_of_lt ha, Nat.mod_eq_of_lt hb, Nat.mod_eq_of_lt (Nat.or_lt_two_pow ha hb)]
theorem wb_mask {n k : Nat} (hn : n < 2 ^ 64) (hk : k < 64) : lN n &&& lN (2 ^ k - 1) = lN (n % 2 ^ k) := by
  rw [wb_and hn (by have := wb_lt2 hk; omega), Nat.and_two_pow_sub_one_eq_mod]
theorem wb_a1 {n : Nat} (hn : n < 2 ^ 64) : lN n &&& 1 = lN (n % 2) := wb_mask (k := 1) hn (by decide)
theorem wb_bit {n k : Nat} (hn : n < 2 ^ 64) (hk : k < 64) : ((lN n).toUInt64 >>> ((nI k).toInt64.toUInt64 &&& Int64.toUInt64 63)).toInt64 &&& 1 = lN (n / 2 ^ k % 2) := by
  rw [wb_shr hn hk, wb_a1 (Nat.lt_of_le_of_lt (Nat.div_le_self _ _) hn)]
theorem i64_nat (z : Int) : (Int64.ofInt z).toBitVec.toNat = (z % 18446744073709551616).toNat := by
  show (BitVec.ofInt 64 z).toNat = _
  rw [BitVec.toNat_ofInt]
  rfl
theorem i32_nat (z : Int) : (Int32.ofInt z).toBitVec.toNat = (z % 4294967296).toNat := by
  show (BitVec.ofInt 32 z).toNat = _
  rw [BitVec.toNat_ofInt]
  rfl
theorem i64_int (x : Int64) : x.toInt = if 2 * x.toBitVec.toNat < 18446744073709551616 then (x.toBitVec.toNat : Int) else (x.toBitVec.toNat : Int) - 18446744073709551616 := BitVec.toInt_eq_toNat_cond _
theorem i32_int (x : Int32) : x.toInt = if 2 * x.toBitVec.toNat < 4294967296 then (x.toBitVec.toNat : Int) else (x.toBitVec.toNat : Int) - 4294967296 := BitVec.toInt_eq_toNat_cond _
theorem and255 (n : Nat) : n &&& 255 = n % 256 := Nat.and_two_pow_sub_one_eq_mod n 8
theorem bAnd255 (z : Int) : bAnd z 255 = z % 256 := by
  unfold bAnd
  have h : (Int32.ofInt z &&& Int32.ofInt 255).toBitVec.toNat = (z % 256).toNat := by
    rw [Int32.toBitVec_and, BitVec.toNat_and, i32_nat, show (Int32.ofInt 255).toBitVec.toNat = 255 from rfl, and255]
    omega
  rw [i32_int, h, if_pos (by omega)]
  omega
theorem lAnd255 (z : Int) : lAnd z 255 = z % 256 := by
  unfold lAnd
  have h : (Int64.ofInt z &&& Int64.ofInt 255).toBitVec.toNat = (z % 256).toNat := by
    rw [Int64.toBitVec_and, BitVec.toNat_and, i64_nat, show (Int64.ofInt 255).toBitVec.toNat = 255 from rfl, and255]
    omega
  rw [i64_int, h, if_pos (by omega)]
  omega
theorem w32_mod (z : Int) : w32 z % 256 = z % 256 := by
  unfold w32
  rw [i32_int, i32_nat]
  split <;> omega
theorem lUshr_mod {w : Int} {s : Int} {k p : Nat} (hk : k < 64) (hs : (Int32.ofInt s) = nI k) (hp : 2 ^ k = p) (h256 : p ∣ 72057594037927936) : lUshr w s % 256 = ((w % 18446744073709551616) / p) % 256 := by
  unfold lUshr
  rw [hs]
  have e : Int64.ofInt w = lN (w % 18446744073709551616).toNat := by
    apply wb_inj
    apply BitVec.eq_of_toNat_eq
    rw [i64_nat, wb_tn]
    have : (0 : Int) ≤ w % 18446744073709551616 := Int.emod_nonneg _ (by decide)
    have : w % 18446744073709551616 < 18446744073709551616 := Int.emod_lt_of_pos _ (by decide)
    omega
  have h1 : (w % 18446744073709551616).toNat < 2 ^ 64 := by
    have : w % 18446744073709551616 < 18446744073709551616 := Int.emod_lt_of_pos _ (by decide)
    omega
  rw [e, wb_shr h1 hk, hp]
  have hp0 : 0 < p := by rw [← hp]; exact Nat.pow_pos (by decide)
  have hq : (w % 18446744073709551616).toNat / p < 2 ^ 64 := Nat.lt_of_le_of_lt (Nat.div_le_self _ _) h1
  rw [i64_int, wb_tn hq]
  have hz : ((w % 18446744073709551616) / (p : Int)) = (((w % 18446744073709551616).toNat / p : Nat) : Int) := by
    have : (0 : Int) ≤ w % 18446744073709551616 := Int.emod_nonneg _ (by decide)
    rw [Int.natCast_ediv]
    congr 1
    omega
  rw [hz]
  generalize (w % 18446744073709551616).toNat / p = q at *
  split <;> omega
theorem lShr_div {w : Int} {s : Int} {k : Nat} (hk : k < 64) (hs : (Int32.ofInt s) = nI k) (hw : -9223372036854775808 ≤ w ∧ w < 9223372036854775808) : lShr w s = w / ((2 ^ k : Nat) : Int) := by
  unfold lShr
  rw [hs, wb_c k hk]
  have e : (Int64.ofInt w >>> lN k).toBitVec = (Int64.ofInt w).toBitVec.sshiftRight k := by
    rw [Int64.toBitVec_shiftRight]
    show (Int64.ofInt w).toBitVec.sshiftRight' ((lN k).toBitVec.smod 64) = _
    rw [wb_tb, wb_sm k hk]
    show (Int64.ofInt w).toBitVec.sshiftRight (BitVec.ofNat 64 k).toNat = _
    rw [BitVec.toNat_ofNat, Nat.mod_eq_of_lt (by omega)]
  show (Int64.ofInt w >>> lN k).toBitVec.toInt = _
  rw [e, BitVec.toInt_sshiftRight]
  show ((Int64.ofInt w).toInt >>> k) = _
  rw [Int64.toInt_ofInt_of_le hw.1 hw.2, Int.shiftRight_eq_div_pow]
/-- byte k of a long, as both sides take it -/
def byt (w k : Int) : Int := fX_byteOf w k
theorem nI8 : ∀ k : Fin 8, Int32.ofInt (w32 (8 * (k.val : Int))) = nI (8 * k.val) := by decide +kernel
theorem byt_div {w : Int} (k : Fin 8) : byt w (k.val : Int) = (w / ((2 ^ (8 * k.val) : Nat) : Int)) % 256 := by
  unfold byt fX_byteOf
  rw [bAnd255, w32_mod]
  have h := lUshr_mod (w := w) (s := w32 (8 * (k.val : Int))) (k := 8 * k.val) (p := 2 ^ (8 * k.val)) (by omega) (nI8 k) rfl (by
    rw [show 72057594037927936 = 2 ^ 56 from rfl]
    exact Nat.pow_dvd_pow 2 (by omega))
  rw [h]
  obtain ⟨v, hv⟩ := k
  have hc : v = 0 ∨ v = 1 ∨ v = 2 ∨ v = 3 ∨ v = 4 ∨ v = 5 ∨ v = 6 ∨ v = 7 := by omega
  rcases hc with rfl | rfl | rfl | rfl | rfl | rfl | rfl | rfl <;> simp only [Nat.reduceMul, Nat.reducePow] <;> omega
theorem r_byte {w k : Int} (hw : -9223372036854775808 ≤ w ∧ w < 9223372036854775808) (h0 : 0 ≤ k) (h1 : k < 8) : w32 (lAnd (lShr w (w32 (8 * k))) 255) = byt w k := by
  obtain ⟨n, hn⟩ : ∃ n : Fin 8, k = (n.val : Int) := ⟨⟨k.toNat, by omega⟩, by show k = ((k.toNat : Nat) : Int); omega⟩
  subst hn
  rw [byt_div, lAnd255, lShr_div (k := 8 * n.val) (by omega) (nI8 n) hw]
  have : 0 ≤ (w / ((2 ^ (8 * n.val) : Nat) : Int)) % 256 := Int.emod_nonneg _ (by decide)
  have : (w / ((2 ^ (8 * n.val) : Nat) : Int)) % 256 < 256 := Int.emod_lt_of_pos _ (by decide)
  exact w32_id (by omega) (by omega)
theorem byt_rng {w k : Int} (h0 : 0 ≤ k) (h1 : k < 8) : 0 ≤ byt w k ∧ byt w k ≤ 255 := by
  obtain ⟨n, hn⟩ : ∃ n : Fin 8, k = (n.val : Int) := ⟨⟨k.toNat, by omega⟩, by show k = ((k.toNat : Nat) : Int); omega⟩
  subst hn
  rw [byt_div]
  have : 0 ≤ (w / ((2 ^ (8 * n.val) : Nat) : Int)) % 256 := Int.emod_nonneg _ (by decide)
  have : (w / ((2 ^ (8 * n.val) : Nat) : Int)) % 256 < 256 := Int.emod_lt_of_pos _ (by decide)
  omega
/-- a word as a long -/
def pk8 : List Int → Int
  | [] => 0
  | c :: r => c + 256 * pk8 r
theorem lShlOr {w c : Int} (h0 : 0 ≤ w) (h1 : w < 36028797018963968) (h2 : 0 ≤ c) (h3 : c < 256) : lOr (lShl w 8) c = c + 256 * w := by
  have e1 : lShl w 8 = 256 * w := by
    unfold lShl
    rw [show Int32.ofInt 8 = nI 8 from rfl]
    have e : Int64.ofInt w = lN w.toNat := by
      apply wb_inj
      apply BitVec.eq_of_toNat_eq
      rw [i64_nat, wb_tn (by omega)]
      omega
    rw [e, wb_shl _ (by decide), i64_int, wb_tn (by omega), if_pos (by omega)]
    omega
  rw [e1]
  unfold lOr
  have ea : Int64.ofInt (256 * w) = lN (256 * w.toNat) := by
    apply wb_inj
    apply BitVec.eq_of_toNat_eq
    rw [i64_nat, wb_tn (by omega)]
    omega
  have eb : Int64.ofInt c = lN c.toNat := by
    apply wb_inj
    apply BitVec.eq_of_toNat_eq
    rw [i64_nat, wb_tn (by omega)]
    omega
  have ho : 256 * w.toNat ||| c.toNat = 256 * w.toNat + c.toNat := by
    have := Nat.shiftLeft_add_eq_or_of_lt (b := c.toNat) (i := 8) (by omega) w.toNat
    rw [Nat.shiftLeft_eq] at this
    rw [Nat.mul_comm 256 w.toNat]
    exact this.symm
  rw [ea, eb, wb_or (by omega) (by omega), ho, i64_int, wb_tn (by omega), if_pos (by omega)]
  omega
theorem pk8_rng {s : List Int} (h : ∀ c ∈ s, 0 ≤ c ∧ c ≤ 127) : 0 ≤ pk8 s ∧ 2 * pk8 s < 256 ^ s.length := by
  induction s with
  | nil => exact ⟨Int.le_refl _, by decide⟩
  | cons c r ih =>
    have hc := h c List.mem_cons_self
    have hr := ih (fun c hc => h c (List.mem_cons_of_mem _ hc))
    show 0 ≤ c + 256 * pk8 r ∧ 2 * (c + 256 * pk8 r) < 256 ^ (r.length + 1)
    rw [Int.pow_succ]
    omega
theorem pk8_inj {s t : List Int} (hs : ∀ c ∈ s, 1 ≤ c ∧ c ≤ 255) (ht : ∀ c ∈ t, 1 ≤ c ∧ c ≤ 255) (h : pk8 s = pk8 t) : s = t := by
  induction s generalizing t with
  | nil =>
    cases t with
    | nil => rfl
    | cons b t =>
      have hb := ht b List.mem_cons_self
      have h : (0 : Int) = b + 256 * pk8 t := h
      omega
  | cons a s ih =>
    have ha := hs a List.mem_cons_self
    cases t with
    | nil =>
      have h : a + 256 * pk8 s = 0 := h
      omega
    | cons b t =>
      have hb := ht b List.mem_cons_self
      have h : a + 256 * pk8 s = b + 256 * pk8 t := h
      rw [show a = b by omega, ih (fun c hc => hs c (List.mem_cons_of_mem _ hc)) (fun c hc => ht c (List.mem_cons_of_mem _ hc)) (by omega)]
theorem p256_mono {a b : Nat} (h : a ≤ b) : (256 : Int) ^ a ≤ 256 ^ b := by
  induction h with
  | refl => exact Int.le_refl _
  | step _ ih =>
    rw [Int.pow_succ]
    have : (0 : Int) < 256 ^ a := Int.pow_pos (by decide)
    omega
theorem sl_mem {m : aM} {x a b : Int} {P : Int → Prop} (h : ∀ j, a ≤ j → j < b → P (m x j)) : ∀ c ∈ sl m x a b, P c := by
  intro c hc
  unfold sl at hc
  obtain ⟨k, hk, rfl⟩ := List.mem_map.mp hc
  rw [List.mem_range] at hk
  exact h _ (by omega) (by omega)
/-- the reference's word of a stretch of letters -/
theorem r_word {m : aM} {a b : Int} (ha : 0 ≤ a) (hab : a ≤ b) (hb : b ≤ 600) (hch : ∀ j, a ≤ j → j < b → 0 ≤ m 131 j ∧ m 131 j ≤ 127) : fM_word m a b = some (if 8 < b - a then -1 else pk8 (sl m 131 a b)) := by
  unfold fM_word
  rw [w32_id (x := b - a) (by omega) (by omega)]
  by_cases h8 : 8 < b - a
  · rw [if_pos h8, if_pos h8]
  · rw [if_neg h8, if_neg h8, w32_id (x := b - 1) (by omega) (by omega)]
    unfold fM_word_19
    refine (aLoop_eq (Inv := fun y : Int × Int => a - 1 ≤ y.2 ∧ y.2 ≤ b - 1 ∧ y.1 = pk8 (sl m 131 (y.2 + 1) b)) (μ := fun y => (y.2 - a + 1).toNat) (F := fun y => pk8 (sl m 131 a b)) ?_ FU (0, b - 1) ⟨by simp only; omega, by simp only; omega, by simp only; rw [sl_nil (by omega)]; rfl⟩ (by show (b - 1 - a + 1).toNat < 1000000; omega)).trans rfl
    rintro ⟨w, i⟩ ⟨g1, g2, g3⟩
    simp only at g1 g2 g3
    show (∃ z, fM_word_19_b m a (w, i) = _ ∧ _) ∨ fM_word_19_b m a (w, i) = _
    unfold fM_word_19_b
    simp only
    by_cases hi : i < a
    · right
      rw [if_pos hi, g3, show i + 1 = a by omega]
    · left
      have hc := hch i (by omega) (by omega)
      have hr := pk8_rng (s := sl m 131 (i + 1) b) (sl_mem (fun j h1 h2 => hch j (by omega) h2))
      have hp : (256 : Int) ^ (sl m 131 (i + 1) b).length ≤ 256 ^ 7 := p256_mono (by rw [sl_len]; omega)
      have h7 : (256 : Int) ^ 7 = 72057594037927936 := by decide
      rw [if_neg hi, gd_pos (by omega), lShlOr (by omega) (by omega) (by omega) (by omega), w32_id (by omega) (by omega)]
      refine ⟨_, rfl, ⟨by simp only; omega, by simp only; omega, ?_⟩, by simp only; omega, trivial⟩
      simp only
      rw [show i + -1 + 1 = i by omega, sl_cons (show i < b by omega), g3]
      rfl
