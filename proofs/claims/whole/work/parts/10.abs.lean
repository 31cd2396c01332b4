/-! THE ABSTRACT MACHINE: values are (tag, whole number); tags: 0 int, 1 long, 10 + c an object of the world's kind c, 30 .. 34 arrays of char, int, long, boolean, Token; 40 a Word (0 null, or 1 + its number), 41 a String constant, 42 DAYS, 43 ALL, 44 the script, 46 a String's bytes, 47 the formatter of the JDK's index faults; 99 unset. -/
abbrev aV : Type := Nat × Int
abbrev aM : Type := Int → Int → Int
/-- how many cells, their tags, lengths, final references (0: null) -/
abbrev aG : Type := Nat × (Int → Nat) × (Int → Int) × (Int → Int → Int)
abbrev aX : Type := aG × Nat × Nat
abbrev aC : Type := Nat × List aV × List aV × aM × aX
/-- 0 void, 1 a value, 2 + e thrown -/
abbrev aR : Type := Nat × aV × aM × aX
/-- a method's pool: fields, constants and statics, classes made, methods called, places of Object's constructor -/
abbrev aK : Type := List (Nat × Nat × Nat × Nat) × List (Nat × aV) × List (Nat × Nat × Nat) × List (Nat × Nat × Nat) × List Nat
/-- a method: pool, locals, kind of its answer, code, places of its throws, its handlers -/
abbrev aD : Type := aK × Nat × Nat × List (Option (Instr × Nat)) × List (Nat × Nat) × List (Nat × Nat × Nat × Nat × List Nat)
def w32 (x : Int) : Int := (Int32.ofInt x).toInt
def w64 (x : Int) : Int := (Int64.ofInt x).toInt
def mup (m : aM) (x i v : Int) : aM := fun y j => if y = x ∧ j = i then v else m y j
def cmp3 (a b : Int) : Int := if a < b then -1 else if a = b then 0 else 1
def bShl (a b : Int) : Int := (Int32.ofInt a <<< (Int32.ofInt b &&& 31)).toInt
def bShr (a b : Int) : Int := (Int32.ofInt a >>> (Int32.ofInt b &&& 31)).toInt
def bUshr (a b : Int) : Int := ((Int32.ofInt a).toUInt32 >>> ((Int32.ofInt b).toUInt32 &&& Int32.toUInt32 31)).toInt32.toInt
def bAnd (a b : Int) : Int := (Int32.ofInt a &&& Int32.ofInt b).toInt
def bOr (a b : Int) : Int := (Int32.ofInt a ||| Int32.ofInt b).toInt
def bXor (a b : Int) : Int := (Int32.ofInt a ^^^ Int32.ofInt b).toInt
def lShl (a b : Int) : Int := (Int64.ofInt a <<< ((Int32.ofInt b).toInt64 &&& 63)).toInt
def lShr (a b : Int) : Int := (Int64.ofInt a >>> ((Int32.ofInt b).toInt64 &&& 63)).toInt
def lUshr (a b : Int) : Int := ((Int64.ofInt a).toUInt64 >>> ((Int32.ofInt b).toInt64.toUInt64 &&& Int64.toUInt64 63)).toInt64.toInt
def lAnd (a b : Int) : Int := (Int64.ofInt a &&& Int64.ofInt b).toInt
def lOr (a b : Int) : Int := (Int64.ofInt a ||| Int64.ofInt b).toInt
/-- String constants by their numbers, as characters -/
def kStr : List (List Int) := [[], [114, 111, 119, 115], [99, 111, 117, 110, 116], [115, 117, 109], [108, 101, 97, 115, 116], [109, 111, 115, 116], [98, 121], [119, 104, 101, 114, 101], [97, 110, 100], [111, 114], [110, 111, 116], [105, 115], [110, 117, 108, 108], [111, 114, 100, 101, 114], [100, 101, 115, 99], [], [57, 50, 50, 51, 51, 55, 50, 48, 51, 54, 56, 53, 52, 55, 55, 53, 56, 48, 55], [57, 50, 50, 51, 51, 55, 50, 48, 51, 54, 56, 53, 52, 55, 55, 53, 56, 48, 56]]
def sLen (x : Int) : Int := ((kStr.getD x.toNat []).length : Nat)
def sAt (x i : Int) : Int := (kStr.getD x.toNat []).getD i.toNat 0
def dDay (i : Int) : Int := ([31, 28, 31, 30, 31, 30, 31, 31, 30, 31, 30, 31] : List Int).getD i.toNat 0
/-- whether a Word names no column -/
def wRes (x : Int) : Int := if 6 ≤ x ∧ x ≤ 14 then 1 else 0
def aClr (L : List aV) (i : Nat) : List aV := match i with
  | 0 => L
  | j + 1 => L.modify j (fun z => if z.1 = 1 then (99, 0) else z)
def aSt1 (L : List aV) (i : Nat) (v : aV) : List aV := (aClr L i).set i v
def aSt2 (L : List aV) (i : Nat) (v : aV) : List aV := ((aClr L i).set i v).set (i + 1) (99, 0)
/-- the words of a stack -/
def aCat (st : List aV) : Nat := match st with
  | [] => 0
  | v :: r => (if v.1 = 1 then 2 else 1) + aCat r
def aTgt (pc : Nat) (off : Int) : Nat := ((pc : Int) + off).toNat
def aLd (t : Nat) (k nx : Nat) (L st : List aV) (m : aM) (X : aX) : Option aC := match L[k]? with
  | some (u, x) => if u = t then some (nx, L, (u, x) :: st, m, X) else none
  | none => none
def aLdR (k nx : Nat) (L st : List aV) (m : aM) (X : aX) : Option aC := match L[k]? with
  | some (u, x) => if 10 ≤ u ∧ u < 99 then some (nx, L, (u, x) :: st, m, X) else none
  | none => none
def aStI (k nx : Nat) (L st : List aV) (m : aM) (X : aX) : Option aC := match st with
  | (0, x) :: r => some (nx, aSt1 L k (0, x), r, m, X)
  | _ => none
def aStL (k nx : Nat) (L st : List aV) (m : aM) (X : aX) : Option aC := match st with
  | (1, x) :: r => some (nx, aSt2 L k (1, x), r, m, X)
  | _ => none
def aStR (k nx : Nat) (L st : List aV) (m : aM) (X : aX) : Option aC := match st with
  | (u, x) :: r => if 10 ≤ u ∧ u < 99 then some (nx, aSt1 L k (u, x), r, m, X) else none
  | _ => none
def aI2 (f : Int → Int → Int) (nx : Nat) (L st : List aV) (m : aM) (X : aX) : Option aC := match st with
  | (0, b) :: (0, a) :: r => some (nx, L, (0, f a b) :: r, m, X)
  | _ => none
def aL2 (f : Int → Int → Int) (nx : Nat) (L st : List aV) (m : aM) (X : aX) : Option aC := match st with
  | (1, b) :: (1, a) :: r => some (nx, L, (1, f a b) :: r, m, X)
  | _ => none
def aLS (f : Int → Int → Int) (nx : Nat) (L st : List aV) (m : aM) (X : aX) : Option aC := match st with
  | (0, b) :: (1, a) :: r => some (nx, L, (1, f a b) :: r, m, X)
  | _ => none
def aCmp (c : ClassFile.Cond) (a b : Int) (y n : Option aC) : Option aC := match c with
  | .eq => if a = b then y else n
  | .ne => if a = b then n else y
  | .lt => if a < b then y else n
  | .ge => if a < b then n else y
  | .gt => if b < a then y else n
  | .le => if b < a then n else y
/-- a load from an array: the length tells where -/
def aALd (i n : Int) (v : aV) (nx : Nat) (L r : List aV) (m : aM) (X : aX) : Option aC := if 0 ≤ i ∧ i < n then some (nx, L, v :: r, m, X) else none
def aASt (i n : Int) (x v : Int) (nx : Nat) (L r : List aV) (m : aM) (X : aX) : Option aC := if 0 ≤ i ∧ i < n then some (nx, L, r, mup m x i v, X) else none
def aLen (X : aX) (x : Int) : Int := X.1.2.2.1 x
def aRf (X : aX) (x i : Int) : Int := X.1.2.2.2 x i
def aMk (X : aX) (t : Nat) (len : Int) (k : Nat) : aX := ((X.1.1 + 1, (fun y => if y = ((X.1.1 + 1 : Nat) : Int) then t else X.1.2.1 y), (fun y => if y = ((X.1.1 + 1 : Nat) : Int) then len else X.1.2.2.1 y), X.1.2.2.2), X.2.1 + 1, X.2.2 + k)
def aPutR (X : aX) (x i v : Int) : aX := ((X.1.1, X.1.2.1, X.1.2.2.1, (fun y j => if y = x ∧ j = i then v else X.1.2.2.2 y j)), X.2.1, X.2.2)
def aGet (f : Nat × Nat × Nat) (nx : Nat) (L st : List aV) (m : aM) (X : aX) : Option aC := match st with
  | (u, x) :: r => if u = f.1 then
      (match u with
       | 40 => if 1 ≤ x ∧ x ≤ 15 then (if f.2.2 = 41 then some (nx, L, (41, x) :: r, m, X) else some (nx, L, (0, wRes x) :: r, m, X)) else none
       | 41 => if f.2.2 = 46 then some (nx, L, (46, x) :: r, m, X) else some (nx, L, (0, 0) :: r, m, X)
       | _ => (match f.2.2 with
         | 0 => some (nx, L, (0, m x f.2.1) :: r, m, X)
         | 5 => some (nx, L, (0, m x f.2.1) :: r, m, X)
         | 1 => some (nx, L, (1, m x f.2.1) :: r, m, X)
         | 40 => some (nx, L, (40, m x f.2.1) :: r, m, X)
         | ty => if aRf X x f.2.1 = 0 then none else some (nx, L, (ty, aRf X x f.2.1) :: r, m, X)))
    else none
  | _ => none
def aPut (f : Nat × Nat × Nat) (nx : Nat) (L st : List aV) (m : aM) (X : aX) : Option aC := match st with
  | (t, v) :: (u, x) :: r => if u = f.1 then
      (match f.2.2 with
       | 0 => if t = 0 then some (nx, L, r, mup m x f.2.1 v, X) else none
       | 5 => if t = 0 then (if v = 0 ∨ v = 1 then some (nx, L, r, mup m x f.2.1 v, X) else none) else none
       | 1 => if t = 1 then some (nx, L, r, mup m x f.2.1 v, X) else none
       | 40 => if t = 40 then some (nx, L, r, mup m x f.2.1 v, X) else none
       | ty => if t = ty then some (nx, L, r, m, aPutR X x f.2.1 v) else none)
    else none
  | _ => none
def aLoad (i : Instr) (nx : Nat) (L st : List aV) (m : aM) (X : aX) : Option aC := match st with
  | (0, k) :: (t, x) :: r => (match i, t with
    | .iaload, 31 => aALd k (aLen X x) (0, m x k) nx L r m X
    | .iaload, 44 => aALd k (m x (-1)) (0, m x k) nx L r m X
    | .iaload, 42 => aALd k 12 (0, dDay k) nx L r m X
    | .caload, 30 => aALd k (aLen X x) (0, m x k) nx L r m X
    | .laload, 32 => aALd k (aLen X x) (1, m x k) nx L r m X
    | .baload, 33 => aALd k (aLen X x) (0, m x k) nx L r m X
    | .baload, 46 => aALd k (sLen x) (0, sAt x k) nx L r m X
    | .aaload, 34 => if 0 ≤ k ∧ k < aLen X x then (if aRf X x k = 0 then none else some (nx, L, (15, aRf X x k) :: r, m, X)) else none
    | .aaload, 43 => aALd k 15 (40, k + 1) nx L r m X
    | _, _ => none)
  | _ => none
def aStore (i : Instr) (nx : Nat) (L st : List aV) (m : aM) (X : aX) : Option aC := match st with
  | (u, v) :: (0, k) :: (t, x) :: r => (match i, t, u with
    | .iastore, 31, 0 => aASt k (aLen X x) x v nx L r m X
    | .castore, 30, 0 => aASt k (aLen X x) x (v % 65536) nx L r m X
    | .bastore, 33, 0 => if v = 0 ∨ v = 1 then aASt k (aLen X x) x v nx L r m X else none
    | .lastore, 32, 1 => aASt k (aLen X x) x v nx L r m X
    | .aastore, 34, 15 => if 0 ≤ k ∧ k < aLen X x then some (nx, L, r, m, aPutR X x k v) else none
    | _, _, _ => none)
  | _ => none
def aArr (t : ArrayType) : Nat := match t with
  | .char => 30
  | .int => 31
  | .long => 32
  | .boolean => 33
  | _ => 98
def aOp (K : aK) (i : Instr) (nx pc : Nat) (L st : List aV) (m : aM) (X : aX) : Option aC := match i with
  | .iconst v => some (nx, L, (0, v) :: st, m, X)
  | .bipush v => some (nx, L, (0, v) :: st, m, X)
  | .sipush v => some (nx, L, (0, v) :: st, m, X)
  | .lconst v => some (nx, L, (1, (v.val : Int)) :: st, m, X)
  | .ldc k => (match K.2.1.lookup k with | some v => some (nx, L, v :: st, m, X) | none => none)
  | .ldc2_w k => (match K.2.1.lookup k with | some v => some (nx, L, v :: st, m, X) | none => none)
  | .getstatic k => (match K.2.1.lookup k with | some v => some (nx, L, v :: st, m, X) | none => none)
  | .iload k => aLd 0 k nx L st m X
  | .iload_n k => aLd 0 k.val nx L st m X
  | .lload k => aLd 1 k nx L st m X
  | .lload_n k => aLd 1 k.val nx L st m X
  | .aload k => aLdR k nx L st m X
  | .aload_n k => aLdR k.val nx L st m X
  | .istore k => aStI k nx L st m X
  | .istore_n k => aStI k.val nx L st m X
  | .lstore k => aStL k nx L st m X
  | .lstore_n k => aStL k.val nx L st m X
  | .astore k => aStR k nx L st m X
  | .astore_n k => aStR k.val nx L st m X
  | .iinc k n => (match L[k]? with | some (0, x) => some (nx, aSt1 L k (0, w32 (x + n)), st, m, X) | _ => none)
  | .iadd => aI2 (fun a b => w32 (a + b)) nx L st m X
  | .isub => aI2 (fun a b => w32 (a - b)) nx L st m X
  | .imul => aI2 (fun a b => w32 (a * b)) nx L st m X
  | .iand => aI2 bAnd nx L st m X
  | .ior => aI2 bOr nx L st m X
  | .ixor => aI2 bXor nx L st m X
  | .ishl => aI2 bShl nx L st m X
  | .ishr => aI2 bShr nx L st m X
  | .iushr => aI2 bUshr nx L st m X
  | .irem => (match st with | (0, b) :: (0, a) :: r => if b = 0 then none else some (nx, L, (0, Int.tmod a b) :: r, m, X) | _ => none)
  | .ladd => aL2 (fun a b => w64 (a + b)) nx L st m X
  | .lsub => aL2 (fun a b => w64 (a - b)) nx L st m X
  | .lmul => aL2 (fun a b => w64 (a * b)) nx L st m X
  | .land => aL2 lAnd nx L st m X
  | .lor => aL2 lOr nx L st m X
  | .ldiv => (match st with | (1, b) :: (1, a) :: r => if b = 0 then none else some (nx, L, (1, w64 (Int.tdiv a b)) :: r, m, X) | _ => none)
  | .lrem => (match st with | (1, b) :: (1, a) :: r => if b = 0 then none else some (nx, L, (1, Int.tmod a b) :: r, m, X) | _ => none)
  | .lneg => (match st with | (1, a) :: r => some (nx, L, (1, w64 (-a)) :: r, m, X) | _ => none)
  | .lshl => aLS lShl nx L st m X
  | .lshr => aLS lShr nx L st m X
  | .lushr => aLS lUshr nx L st m X
  | .lcmp => (match st with | (1, b) :: (1, a) :: r => some (nx, L, (0, cmp3 a b) :: r, m, X) | _ => none)
  | .i2l => (match st with | (0, a) :: r => some (nx, L, (1, a) :: r, m, X) | _ => none)
  | .l2i => (match st with | (1, a) :: r => some (nx, L, (0, w32 a) :: r, m, X) | _ => none)
  | .i2c => (match st with | (0, a) :: r => some (nx, L, (0, a % 65536) :: r, m, X) | _ => none)
  | .dup => (match st with | (u, a) :: r => if u = 1 then none else some (nx, L, (u, a) :: (u, a) :: r, m, X) | _ => none)
  | .dup2 => (match st with | (u, a) :: (t, b) :: r => if u = 1 ∨ t = 1 then none else some (nx, L, (u, a) :: (t, b) :: (u, a) :: (t, b) :: r, m, X) | _ => none)
  | .pop => (match st with | (u, _) :: r => if u = 1 then none else some (nx, L, r, m, X) | _ => none)
  | .goto off => some (aTgt pc off, L, st, m, X)
  | .if_icmp c off => (match st with | (0, b) :: (0, a) :: r => aCmp c a b (some (aTgt pc off, L, r, m, X)) (some (nx, L, r, m, X)) | _ => none)
  | .ifCond c off => (match st with | (0, a) :: r => aCmp c a 0 (some (aTgt pc off, L, r, m, X)) (some (nx, L, r, m, X)) | _ => none)
  | .if_acmp c off => (match st with | (40, b) :: (40, a) :: r => (match c with | .eq => if a = b then some (aTgt pc off, L, r, m, X) else some (nx, L, r, m, X) | .ne => if a = b then some (nx, L, r, m, X) else some (aTgt pc off, L, r, m, X)) | _ => none)
  | .tableswitch d lo hi offs => (match st with | (0, a) :: r => some (aTgt pc (if lo ≤ a ∧ a ≤ hi then offs.toList.getD (a - lo).toNat d else d), L, r, m, X) | _ => none)
  | .iaload => aLoad .iaload nx L st m X
  | .caload => aLoad .caload nx L st m X
  | .laload => aLoad .laload nx L st m X
  | .baload => aLoad .baload nx L st m X
  | .aaload => aLoad .aaload nx L st m X
  | .iastore => aStore .iastore nx L st m X
  | .castore => aStore .castore nx L st m X
  | .bastore => aStore .bastore nx L st m X
  | .lastore => aStore .lastore nx L st m X
  | .aastore => aStore .aastore nx L st m X
  | .arraylength => (match st with
    | (46, x) :: r => some (nx, L, (0, sLen x) :: r, m, X)
    | (43, _) :: r => some (nx, L, (0, 15) :: r, m, X)
    | (42, _) :: r => some (nx, L, (0, 12) :: r, m, X)
    | (u, x) :: r => if u = 44 then some (nx, L, (0, m x (-1)) :: r, m, X) else if 30 ≤ u ∧ u ≤ 34 then some (nx, L, (0, aLen X x) :: r, m, X) else none
    | _ => none)
  | .getfield k => (match K.1.lookup k with | some f => aGet f nx L st m X | none => none)
  | .putfield k => (match K.1.lookup k with | some f => aPut f nx L st m X | none => none)
  | .new k => (match K.2.2.1.lookup k with | some (t, n) => some (nx, L, (t, ((X.1.1 + 1 : Nat) : Int)) :: st, m, aMk X t 0 n) | none => none)
  | .newarray t => (match st with | (0, k) :: r => if 0 ≤ k ∧ k < 100000 then some (nx, L, (aArr t, ((X.1.1 + 1 : Nat) : Int)) :: r, m, aMk X (aArr t) k k.toNat) else none | _ => none)
  | .anewarray _ => (match st with | (0, k) :: r => if 0 ≤ k ∧ k < 100000 then some (nx, L, (34, ((X.1.1 + 1 : Nat) : Int)) :: r, m, aMk X 34 k k.toNat) else none | _ => none)
  | .invokespecial k => (match K.2.2.2.2.contains k, st with | true, (u, _) :: r => if 10 ≤ u ∧ u < 30 ∧ aCat r ≤ 8 then some (nx, L, r, m, X) else none | _, _ => none)
  | _ => none
def aStep (D : aD) (c : aC) : Option aC := match c with
  | (pc, L, st, m, X) => (match D.2.2.2.1[pc]? with
    | some (some (i, n)) => aOp D.1 i (pc + n) pc L st m X
    | _ => none)
/-- straight on, n instructions -/
def aRun (D : aD) : Nat → aC → Option aC
  | 0, c => some c
  | n + 1, c => match aStep D c with
    | some c' => aRun D n c'
    | none => none
def aOK (rt : Nat) (v : Int) : Bool := match rt with
  | 5 => decide (v = 0 ∨ v = 1)
  | 6 => decide (0 ≤ v ∧ v < 65536)
  | 7 => decide (-128 ≤ v ∧ v < 128)
  | 0 => true
  | _ => false
def aFin (D : aD) (c : aC) : Option aR := match c with
  | (pc, _, st, m, X) => (match D.2.2.2.2.1.lookup pc with
    | some e => (match st with | [] => some (2 + e, (0, 0), m, (X.1, X.2.1 + 1, X.2.2 + 6)) | _ => none)
    | none => (match D.2.2.2.1[pc]?, st with
      | some (some (.return_, _)), [] => if D.2.2.1 = 9 then some (0, (0, 0), m, X) else none
      | some (some (.ireturn, _)), [(0, v)] => if aOK D.2.2.1 v = true then some (1, (0, v), m, X) else none
      | some (some (.lreturn, _)), [(1, v)] => if D.2.2.1 = 1 then some (1, (1, v), m, X) else none
      | some (some (.areturn, _)), [(u, v)] => if u = D.2.2.1 ∧ (u = 15 ∨ u = 40) then some (1, (u, v), m, X) else none
      | _, _ => none))
/-- whether the last value is of a tag (0: none is asked) -/
def aRcv (t : Nat) (l : List aV) : Bool := match t with
  | 0 => true
  | _ => (match l.getLast? with | some v => decide (v.1 = t) | none => false)
def aCall (D : aD) (c : aC) : Option (Nat × List aV × aC) := match c with
  | (pc, L, st, m, X) => (match D.2.2.2.1[pc]? with
    | some (some (i, n)) => (match i with
      | .invokevirtual k => (match D.1.2.2.2.1.lookup k with | some (q, a) => if a % 100 ≤ st.length ∧ aCat (st.drop (a % 100)) ≤ 8 ∧ aRcv (a / 100) (st.take (a % 100)) = true then some (q, (st.take (a % 100)).reverse, (pc + n, L, st.drop (a % 100), m, X)) else none | none => none)
      | .invokestatic k => (match D.1.2.2.2.1.lookup k with | some (q, a) => if a % 100 ≤ st.length ∧ aCat (st.drop (a % 100)) ≤ 8 ∧ aRcv (a / 100) (st.take (a % 100)) = true then some (q, (st.take (a % 100)).reverse, (pc + n, L, st.drop (a % 100), m, X)) else none | none => none)
      | .invokespecial k => (match D.1.2.2.2.1.lookup k with | some (q, a) => if a % 100 ≤ st.length ∧ aCat (st.drop (a % 100)) ≤ 8 ∧ aRcv (a / 100) (st.take (a % 100)) = true then some (q, (st.take (a % 100)).reverse, (pc + n, L, st.drop (a % 100), m, X)) else none | none => none)
      | _ => none)
    | _ => none)
def aEnt (D : aD) (as : List aV) (m : aM) (X : aX) : aC := (0, (fun l => l ++ List.replicate (D.2.1 - l.length) (99, 0)) (as.flatMap fun v => if v.1 = 1 then [v, (99, 0)] else [v]), [], m, (X.1, 0, 0))
def aHand (pc e : Nat) : List (Nat × Nat × Nat × Nat × List Nat) → Option (Nat × Nat)
  | [] => none
  | (a, b, h, k, es) :: r => if a ≤ pc ∧ pc < b ∧ es.contains e = true then some (h, k) else aHand pc e r
/-- behind a call at pc: c1 is where it goes on -/
def aRet (D : aD) (pc : Nat) (c1 : aC) (r : aR) : Option aC := match c1, r with
  | (nx, L, st, _, X), (k, v, m', X') => (match k with
    | 0 => some (nx, L, st, m', (X'.1, X.2.1 + X'.2.1, X.2.2 + X'.2.2))
    | 1 => some (nx, L, v :: st, m', (X'.1, X.2.1 + X'.2.1, X.2.2 + X'.2.2))
    | e + 2 => (match aHand pc e D.2.2.2.2.2 with
      | some (h, k) => some (h, aSt1 L k (99, 0), [], m', (X'.1, X.2.1 + X'.2.1, X.2.2 + X'.2.2))
      | none => none))
