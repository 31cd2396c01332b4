/-! numbers: the machine's words out of whole numbers -/
def in32 (x : Int) : Prop := -2147483648 ≤ x ∧ x < 2147483648
def in64 (x : Int) : Prop := -9223372036854775808 ≤ x ∧ x < 9223372036854775808
theorem t32 {x : Int} (h : in32 x) : (Int32.ofInt x).toInt = x := Int32.toInt_ofInt_of_le h.1 h.2
theorem t64 {x : Int} (h : in64 x) : (Int64.ofInt x).toInt = x := Int64.toInt_ofInt_of_le h.1 h.2
theorem in32_i (v : Int32) : in32 v.toInt := ⟨Int32.le_toInt v, Int32.toInt_lt v⟩
theorem in64_i (v : Int64) : in64 v.toInt := ⟨Int64.le_toInt v, Int64.toInt_lt v⟩
theorem in32_w (x : Int) : in32 (w32 x) := in32_i _
theorem in64_w (x : Int) : in64 (w64 x) := in64_i _
theorem o32 (v : Int32) : Int32.ofInt v.toInt = v := Int32.ofInt_toInt v
theorem o64 (v : Int64) : Int64.ofInt v.toInt = v := Int64.ofInt_toInt v
theorem ow32 (x : Int) : Int32.ofInt (w32 x) = Int32.ofInt x := o32 _
theorem ow64 (x : Int) : Int64.ofInt (w64 x) = Int64.ofInt x := o64 _
theorem i32_lt {a b : Int} (ha : in32 a) (hb : in32 b) : Int32.ofInt a < Int32.ofInt b ↔ a < b := by rw [Int32.lt_iff_toInt_lt, t32 ha, t32 hb]
theorem i32_le {a b : Int} (ha : in32 a) (hb : in32 b) : Int32.ofInt a ≤ Int32.ofInt b ↔ a ≤ b := by rw [Int32.le_iff_toInt_le, t32 ha, t32 hb]
theorem i32_eq {a b : Int} (ha : in32 a) (hb : in32 b) : Int32.ofInt a = Int32.ofInt b ↔ a = b := ⟨fun h => by rw [← t32 ha, h, t32 hb], fun h => by rw [h]⟩
theorem i64_lt {a b : Int} (ha : in64 a) (hb : in64 b) : Int64.ofInt a < Int64.ofInt b ↔ a < b := by rw [Int64.lt_iff_toInt_lt, t64 ha, t64 hb]
theorem i64_eq {a b : Int} (ha : in64 a) (hb : in64 b) : Int64.ofInt a = Int64.ofInt b ↔ a = b := ⟨fun h => by rw [← t64 ha, h, t64 hb], fun h => by rw [h]⟩
theorem in32_0 : in32 0 := ⟨by decide, by decide⟩
theorem i32_clamp {i : Int} (h : in32 i) : (Int32.ofInt i).toNatClampNeg = i.toNat := by
  show (Int32.ofInt i).toInt.toNat = _
  rw [t32 h]
theorem i32_in {i n : Int} (h : in32 i) (h0 : 0 ≤ i) (h1 : i < n) : vp_in (Int32.ofInt i) n.toNat := by
  rw [vp_in_iff, t32 h]
  omega
theorem i32_64 {a : Int} (h : in32 a) : (Int32.ofInt a).toInt64 = Int64.ofInt a := by
  apply Int64.toInt_inj.mp
  rw [Int32.toInt_toInt64, t32 h, t64 ⟨by have := h.1; omega, by have := h.2; omega⟩]
theorem i64_32 (a : Int) : (Int64.ofInt a).toInt32 = Int32.ofInt a := by
  apply Int32.toInt_inj.mp
  rw [Int64.toInt_toInt32, Int64.toInt_ofInt, Int32.toInt_ofInt]
  exact Int.bmod_bmod_of_dvd (by decide)
theorem i32_c (a : Int) : ((Int32.ofInt a).toUInt32 % 65536).toInt32 = Int32.ofInt (a % 65536) := by
  rw [pk_char]
  have h : (Int32.ofInt a).toBitVec.toNat = (a % 4294967296).toNat := by
    show (BitVec.ofInt 32 a).toNat = _
    rw [BitVec.toNat_ofInt]; rfl
  rw [h]
  show Int32.ofInt (((a % 4294967296).toNat % 65536 : Nat) : Int) = _
  congr 1
  omega
theorem i32_rem {a b : Int} (ha : in32 a) (hb : in32 b) : Int32.ofInt a - Int32.ofInt a / Int32.ofInt b * Int32.ofInt b = Int32.ofInt (Int.tmod a b) := by
  apply Int32.toInt_inj.mp
  rw [rem_toInt, t32 ha, t32 hb]
  refine (t32 ?_).symm
  rw [← t32 ha, ← t32 hb, ← rem_toInt]
  exact in32_i _
theorem in32_tmod {a b : Int} (ha : in32 a) (hb : in32 b) : in32 (Int.tmod a b) := by
  rw [← t32 ha, ← t32 hb, ← rem_toInt]
  exact in32_i _
theorem l64_mod (x y : Int64) : x - x / y * y = x % y := by
  apply Int64.toInt_inj.mp
  have h1 := Int64.le_toInt (x % y)
  have h2 := Int64.toInt_lt (x % y)
  rw [Int64.toInt_sub, Int64.toInt_mul, Int64.toInt_div, Int.bmod_mul_bmod, Int.sub_bmod_bmod, Int.mul_comm (x.toInt.tdiv y.toInt), ← Int.tmod_def, ← Int64.toInt_mod]
  exact Int.bmod_eq_of_le_mul_two (by omega) (by omega)
theorem i64_rem {a b : Int} (ha : in64 a) (hb : in64 b) : Int64.ofInt a - Int64.ofInt a / Int64.ofInt b * Int64.ofInt b = Int64.ofInt (Int.tmod a b) := by
  apply Int64.toInt_inj.mp
  rw [show Int64.ofInt a - Int64.ofInt a / Int64.ofInt b * Int64.ofInt b = Int64.ofInt a % Int64.ofInt b from l64_mod _ _, Int64.toInt_mod, t64 ha, t64 hb]
  refine (t64 ?_).symm
  have := Int64.toInt_mod (Int64.ofInt a) (Int64.ofInt b)
  rw [t64 ha, t64 hb] at this
  rw [← this]
  exact in64_i _
theorem in64_tmod {a b : Int} (ha : in64 a) (hb : in64 b) : in64 (Int.tmod a b) := by
  have := Int64.toInt_mod (Int64.ofInt a) (Int64.ofInt b)
  rw [t64 ha, t64 hb] at this
  rw [← this]
  exact in64_i _
theorem i64_div {a b : Int} (ha : in64 a) (hb : in64 b) : Int64.ofInt a / Int64.ofInt b = Int64.ofInt (w64 (Int.tdiv a b)) := by
  rw [ow64]
  apply Int64.toInt_inj.mp
  rw [Int64.toInt_div, t64 ha, t64 hb, Int64.toInt_ofInt]
theorem i64_cmp {a b : Int} (ha : in64 a) (hb : in64 b) : lg_cmp (Int64.ofInt a) (Int64.ofInt b) = Int32.ofInt (cmp3 a b) := by
  unfold lg_cmp cmp3
  have h1 := i64_lt hb ha
  have h2 := i64_eq ha hb
  rcases Int.lt_trichotomy a b with h | h | h
  · have n1 : ¬ b < a := by omega
    have n2 : ¬ a = b := by omega
    simp [h1, h2, n1, n2, h]
  · subst h
    simp
  · have n1 : ¬ a < b := by omega
    have n2 : ¬ a = b := by omega
    simp [h1, h2, n1, n2, h]
theorem in32_cmp (a b : Int) : in32 (cmp3 a b) := by
  unfold cmp3 in32
  split
  · omega
  · split <;> omega
theorem nar_c (a : Int) : vp_nar .char (Int32.ofInt a) = Int32.ofInt (a % 65536) := by
  rw [vp_nar_char, ← i32_c]
  apply Int32.toBitVec_inj.mp
  have h := pk_char (Int32.ofInt a)
  rw [h]
  apply BitVec.eq_of_toNat_eq
  show _ = (BitVec.ofInt 32 (((Int32.ofInt a).toBitVec.toNat % 65536 : Nat) : Int)).toNat
  rw [BitVec.toNat_ofInt]
  have e : (Int32.ofInt a).toUInt32.toUInt16.toUInt32.toInt32.toBitVec.toNat = (Int32.ofInt a).toBitVec.toNat % 65536 := by
    show ((Int32.ofInt a).toUInt32.toUInt16.toUInt32).toNat = _
    rw [UInt16.toNat_toUInt32, UInt32.toNat_toUInt16]
    rfl
  rw [e]
  omega
theorem nar_z {v : Int} (h : v = 0 ∨ v = 1) : vp_nar .boolean (Int32.ofInt v) = Int32.ofInt v := by
  rcases h with rfl | rfl <;> rfl
