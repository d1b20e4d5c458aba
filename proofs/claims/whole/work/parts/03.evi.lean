/-! THE ABSTRACT EVALUATOR: straight stretches by stepK, loops by back, calls by call. -/
abbrev Ent : Type := Instr × Nat × Nat × Nat × Nat × Int32 × Int64
abbrev Lv : Type := List (Option AV)
abbrev SB : Nat := 10000
abbrev SV : Nat := 20000
abbrev SF0 : Nat := 30000
def lkE : List (Nat × Ent) → Nat → Option Ent
  | [], _ => none
  | (p, e) :: t, pc => match Nat.beq p pc with
    | true => some e
    | false => lkE t pc
def lvat : Lv → Nat → Option AV
  | [], _ => none
  | a :: _, 0 => a
  | _ :: t, n + 1 => lvat t n
def lst : Lv → Nat → Option AV → Lv
  | [], _, _ => []
  | _ :: t, 0, v => v :: t
  | a :: t, n + 1, v => a :: lst t n v
def isJ : Option AV → Bool
  | some (.inr (.inl _)) => true
  | _ => false
def stl (lv : Lv) (i : Nat) (v : AV) : Lv := match i with
  | 0 => lst lv 0 (some v)
  | j + 1 => match isJ (lvat lv j) with
    | true => lst (lst lv j none) (j + 1) (some v)
    | false => lst lv (j + 1) (some v)
def stl2 (lv : Lv) (i : Nat) (v : AV) : Lv := lst (stl lv i v) (i + 1) none
def catS : List AV → Nat
  | [] => 0
  | .inl _ :: t => catS t + 1
  | .inr (.inl _) :: t => catS t + 2
  | .inr (.inr _) :: t => catS t + 1
def popA : Nat → List AV → List AV → Option (List AV × List AV)
  | 0, acc, st => some (acc, st)
  | _ + 1, _, [] => none
  | n + 1, acc, v :: st => popA n (v :: acc) st
def cVd (r : Res) (f : Mem → Res) : Res := match r with
  | some (none, M) => f M
  | _ => none
def cIn (r : Res) (f : Int32 → Mem → Res) : Res := match r with
  | some (some (.inl v), M) => f v M
  | _ => none
def cLo (r : Res) (f : Int64 → Mem → Res) : Res := match r with
  | some (some (.inr (.inl v)), M) => f v M
  | _ => none
/-- a choice that no evaluation opens -/
noncomputable def ic (P : Prop) (A B : Res) : Res := @ite Res P (Classical.propDecidable P) A B
noncomputable def swk (v : Int32) (f : Int → Res) (d : Int) : Int → List Int → Res
  | _, [] => f d
  | lo, o :: os => ic (v = Int32.ofInt lo) (f o) (swk v f d (lo + 1) os)
/-- the String constants, as bytes -/
def strT : List (List Int32) := [[40, 41, 60, 61, 43, 45, 42, 59], [115, 112, 111, 116], [115, 112, 111, 116, 32, 115, 104, 97, 100, 101, 32, 99, 97, 114, 118, 101, 114, 32, 115, 107, 105, 108, 108, 32, 97, 99, 116, 32, 102, 101, 101, 116, 32, 99, 104, 105, 112, 115, 32, 119, 111, 114, 116, 104, 32, 98, 121, 32, 99, 108, 97, 115, 104, 32, 110, 105, 103, 104, 116, 115, 32, 109, 105, 108, 100, 32, 109, 101, 108, 116, 115, 32, 99, 97, 114, 118, 101, 115, 32, 98, 101, 103, 105, 110, 32, 99, 97, 114, 118, 101, 32, 112, 114, 111, 112, 32, 116, 111, 114, 99, 104, 32, 110, 105, 103, 104, 116, 32, 97, 121, 101, 115, 32, 110, 111, 101, 115, 32, 112, 108, 97, 105, 110, 32, 104, 111, 108, 108, 111, 119, 32, 116, 104, 105, 110, 32, 111, 108, 100, 32, 110, 111, 116, 32, 97, 110, 100, 32, 111, 114, 32], [115, 104, 97, 100, 101], [99, 97, 114, 118, 101, 114], [110, 111, 101, 115], [97, 121, 101, 115], [115, 107, 105, 108, 108], [97, 99, 116], [112, 108, 97, 105, 110], [104, 111, 108, 108, 111, 119], [116, 104, 105, 110], [111, 108, 100], [102, 101, 101, 116], [99, 104, 105, 112, 115], [119, 111, 114, 116, 104], [98, 121], [99, 108, 97, 115, 104], [110, 105, 103, 104, 116, 115], [109, 105, 108, 100], [109, 101, 108, 116, 115], [110, 111, 116], [119, 97, 114, 109, 116, 104], [97, 98, 108, 101], [100, 97, 114, 107], [116, 97, 108, 108], [100, 111, 110, 101], [97, 110, 100], [111, 114], [99, 97, 114, 118, 101, 115], [98, 101, 103, 105, 110], [99, 97, 114, 118, 101], [112, 114, 111, 112], [116, 111, 114, 99, 104], [110, 105, 103, 104, 116]]
def strL (i : Nat) : Nat := (strT.getD i []).length
def strB (i j : Nat) : Int32 := (strT.getD i []).getD j 0
/-- which constant of which class is which String -/
def strW : List (String × Nat × String × Nat) := [("IceParliament$Tape", 37, "()<=+-*;", 0), ("IceParliament$YardReader", 57, "spot", 1), ("IceParliament$Tape", 62, "spot shade carver skill act feet chips worth by clash nights mild melts carves begin carve prop torch night ayes noes plain hollow thin old not and or ", 2), ("IceParliament$YardReader", 117, "shade", 3), ("IceParliament$YardReader", 66, "carver", 4), ("IceParliament$YardReader", 176, "noes", 5), ("IceParliament$YardReader", 178, "ayes", 6), ("IceParliament$YardReader", 136, "skill", 7), ("IceParliament$YardReader", 71, "act", 8), ("IceParliament$YardReader", 183, "plain", 9), ("IceParliament$YardReader", 188, "hollow", 10), ("IceParliament$YardReader", 190, "thin", 11), ("IceParliament$YardReader", 192, "old", 12), ("IceParliament$YardReader", 146, "feet", 13), ("IceParliament$YardReader", 150, "chips", 14), ("IceParliament$YardReader", 154, "worth", 15), ("IceParliament$YardReader", 158, "by", 16), ("IceParliament$YardReader", 76, "clash", 17), ("IceParliament$YardReader", 81, "nights", 18), ("IceParliament$YardReader", 86, "mild", 19), ("IceParliament$YardReader", 91, "melts", 20), ("IceParliament$LawReader", 71, "not", 21), ("IceParliament$LawReader", 100, "warmth", 22), ("IceParliament$LawReader", 102, "able", 23), ("IceParliament$LawReader", 104, "dark", 24), ("IceParliament$LawReader", 106, "tall", 25), ("IceParliament$LawReader", 108, "done", 26), ("IceParliament$LawReader", 113, "and", 27), ("IceParliament$LawReader", 115, "or", 28), ("IceParliament$YardReader", 96, "carves", 29), ("IceParliament$Session", 69, "begin", 30), ("IceParliament$Session", 75, "carve", 31), ("IceParliament$Session", 77, "prop", 32), ("IceParliament$Session", 79, "torch", 33), ("IceParliament$Session", 81, "night", 34)]
/-- the nest mates' links to has -/
def nestW : List (String × Nat) := [("IceParliament$YardReader", 209), ("IceParliament$State", 69), ("IceParliament$Yard", 134), ("IceParliament$Planner", 118)]
def y_has : MethodName := ⟨"IceParliament", "has", "(II)Z"⟩
section EVI
variable (call : Nat → List AV → Mem → Res) (back : Nat → Lv → Mem → Res) (k : Nat → Lv → List AV → Mem → Res)
def jmp (pc tgt : Nat) (lv : Lv) (st : List AV) (M : Mem) : Res := match Nat.ble tgt pc with
  | true => (match st with
    | [] => back tgt lv M
    | _ => none)
  | false => k tgt lv st M
def ib (f : Int32 → Int32 → Int32) (n : Nat) (lv : Lv) (st : List AV) (M : Mem) : Res := match st with
  | .inl b :: .inl a :: st => k n lv (.inl (f a b) :: st) M
  | _ => none
def jb (f : Int64 → Int64 → Int64) (n : Nat) (lv : Lv) (st : List AV) (M : Mem) : Res := match st with
  | .inr (.inl b) :: .inr (.inl a) :: st => k n lv (.inr (.inl (f a b)) :: st) M
  | _ => none
noncomputable def cIc (c : ClassFile.Cond) (pc n tgt : Nat) (lv : Lv) (a b : Int32) (st : List AV) (M : Mem) : Res := match c with
  | .eq => ic (a = b) (jmp back k pc tgt lv st M) (k n lv st M)
  | .ne => ic (a = b) (k n lv st M) (jmp back k pc tgt lv st M)
  | .lt => ic (a < b) (jmp back k pc tgt lv st M) (k n lv st M)
  | .ge => ic (a < b) (k n lv st M) (jmp back k pc tgt lv st M)
  | .gt => ic (b < a) (jmp back k pc tgt lv st M) (k n lv st M)
  | .le => ic (b < a) (k n lv st M) (jmp back k pc tgt lv st M)
def gf (x y : Nat) (q : Ref3) (M : Mem) : AV := match fk x y with
  | 1 => .inr (.inl (M.2.1 q.2.2 y))
  | 2 => .inr (.inr (fp x y q.2.2))
  | 3 => .inr (.inr ((fm x y).1, (fm x y).2, M.2.2 q.2.2 y))
  | _ => .inl (M.1 q.2.2 y)
def gfK (n x y : Nat) (lv : Lv) (st : List AV) (M : Mem) : Res := match st with
  | .inr (.inr q) :: st => (match Nat.beq q.1 x with
    | true => (match Nat.beq q.1 40 with
      | true => (match y with
        | 0 => k n lv (.inr (.inr (41, strL q.2.1, SV + q.2.1)) :: st) M
        | _ => k n lv (.inl 0 :: st) M)
      | false => k n lv (gf x y q M :: st) M)
    | false => none)
  | _ => none
noncomputable def pfK (n x y : Nat) (lv : Lv) (st : List AV) (M : Mem) : Res := match st with
  | v :: .inr (.inr q) :: st => (match Nat.beq q.1 x with
    | true => (match fk x y, v with
      | 0, .inl v => k n lv st (sI M q.2.2 y v)
      | 4, .inl v => ic (v &&& 1 = v) (k n lv st (sI M q.2.2 y v)) none
      | 1, .inr (.inl v) => k n lv st (sJ M q.2.2 y v)
      | 3, .inr (.inr r) => (match Nat.beq r.1 (fm x y).1, Nat.beq r.2.1 (fm x y).2 with
        | true, true => k n lv st (sR M q.2.2 y r.2.2)
        | _, _ => none)
      | _, _ => none)
    | false => none)
  | _ => none
/-- an element is read: of an array of the tag t0 -/
noncomputable def alK (t0 : Nat) (f : Mem → Ref3 → Nat → AV) (n : Nat) (lv : Lv) (st : List AV) (M : Mem) : Res := match st with
  | .inl i :: .inr (.inr q) :: st => (match Nat.beq q.1 t0 with
    | true => ic (i < 0 ∨ q.2.1 ≤ i.toNatClampNeg) none (k n lv (f M q i.toNatClampNeg :: st) M)
    | false => none)
  | _ => none
noncomputable def asK (t0 : Nat) (f : Int32 → Int32) (n : Nat) (lv : Lv) (st : List AV) (M : Mem) : Res := match st with
  | .inl v :: .inl i :: .inr (.inr q) :: st => (match Nat.beq q.1 t0 with
    | true => ic (i < 0 ∨ q.2.1 ≤ i.toNatClampNeg) none (k n lv st (sI M q.2.2 i.toNatClampNeg (f v)))
    | false => none)
  | _ => none
noncomputable def cpK (n : Nat) (lv : Lv) (st : List AV) (M : Mem) : Res := match st with
  | .inl c :: .inl dp :: .inr (.inr b) :: .inl sp :: .inr (.inr a) :: st =>
    ic (sp < 0 ∨ dp < 0 ∨ c < 0 ∨ a.2.1 < sp.toNatClampNeg + c.toNatClampNeg ∨ b.2.1 < dp.toNatClampNeg + c.toNatClampNeg) none
    (match Nat.ble (catS st) 8, a.1, b.1 with
    | true, 20, 20 => k n lv st (cpI M a.2.2 sp.toNatClampNeg b.2.2 dp.toNatClampNeg c.toNatClampNeg)
    | true, 23, 23 => k n lv st (cpJ M a.2.2 sp.toNatClampNeg b.2.2 dp.toNatClampNeg c.toNatClampNeg)
    | _, _, _ => none)
  | _ => none
def invK (n x y z : Nat) (lv : Lv) (st : List AV) (M : Mem) : Res := match popA y [] st with
  | some (as, st) => (match Nat.ble (catS st) 8 with
    | true => (match z with
      | 0 => cVd (call x as M) (fun M => k n lv st M)
      | 1 => cIn (call x as M) (fun v M => k n lv (.inl v :: st) M)
      | 2 => cLo (call x as M) (fun v M => k n lv (.inr (.inl v) :: st) M)
      | _ => none)
    | false => none)
  | none => none
noncomputable def stepK (e : Ent) (pc : Nat) (lv : Lv) (st : List AV) (M : Mem) : Res := match e with
  | (i, len, x, y, z, cI, cJ) => match i with
    | .iconst _ => k (pc + len) lv (.inl cI :: st) M
    | .bipush _ => k (pc + len) lv (.inl cI :: st) M
    | .sipush _ => k (pc + len) lv (.inl cI :: st) M
    | .ldc _ => (match z with
      | 0 => k (pc + len) lv (.inl cI :: st) M
      | _ => k (pc + len) lv (.inr (.inr (40, y, SB + y)) :: st) M)
    | .ldc_w _ => k (pc + len) lv (.inl cI :: st) M
    | .ldc2_w _ => k (pc + len) lv (.inr (.inl cJ) :: st) M
    | .lconst _ => k (pc + len) lv (.inr (.inl cJ) :: st) M
    | .getstatic _ => (match z with
      | 0 => k (pc + len) lv (.inl 1 :: st) M
      | _ => k (pc + len) lv (.inr (.inr (50, 0, SF0)) :: st) M)
    | .iload_n _ => (match lvat lv x with
      | some (.inl v) => k (pc + len) lv (.inl v :: st) M
      | _ => none)
    | .iload _ => (match lvat lv x with
      | some (.inl v) => k (pc + len) lv (.inl v :: st) M
      | _ => none)
    | .lload_n _ => (match lvat lv x with
      | some (.inr (.inl v)) => k (pc + len) lv (.inr (.inl v) :: st) M
      | _ => none)
    | .lload _ => (match lvat lv x with
      | some (.inr (.inl v)) => k (pc + len) lv (.inr (.inl v) :: st) M
      | _ => none)
    | .aload_n _ => (match lvat lv x with
      | some (.inr (.inr v)) => k (pc + len) lv (.inr (.inr v) :: st) M
      | _ => none)
    | .aload _ => (match lvat lv x with
      | some (.inr (.inr v)) => k (pc + len) lv (.inr (.inr v) :: st) M
      | _ => none)
    | .istore_n _ => (match st with
      | .inl v :: st => k (pc + len) (stl lv x (.inl v)) st M
      | _ => none)
    | .istore _ => (match st with
      | .inl v :: st => k (pc + len) (stl lv x (.inl v)) st M
      | _ => none)
    | .astore_n _ => (match st with
      | .inr (.inr v) :: st => k (pc + len) (stl lv x (.inr (.inr v))) st M
      | _ => none)
    | .astore _ => (match st with
      | .inr (.inr v) :: st => k (pc + len) (stl lv x (.inr (.inr v))) st M
      | _ => none)
    | .lstore_n _ => (match st with
      | .inr (.inl v) :: st => k (pc + len) (stl2 lv x (.inr (.inl v))) st M
      | _ => none)
    | .lstore _ => (match st with
      | .inr (.inl v) :: st => k (pc + len) (stl2 lv x (.inr (.inl v))) st M
      | _ => none)
    | .iinc _ _ => (match lvat lv x with
      | some (.inl v) => k (pc + len) (stl lv x (.inl (v + cI))) st M
      | _ => none)
    | .iadd => ib k (fun a b => a + b) (pc + len) lv st M
    | .isub => ib k (fun a b => a - b) (pc + len) lv st M
    | .imul => ib k (fun a b => a * b) (pc + len) lv st M
    | .iand => ib k (fun a b => a &&& b) (pc + len) lv st M
    | .ior => ib k (fun a b => a ||| b) (pc + len) lv st M
    | .ixor => ib k (fun a b => a ^^^ b) (pc + len) lv st M
    | .ishl => ib k (fun a b => a <<< (b &&& 31)) (pc + len) lv st M
    | .ishr => ib k (fun a b => a >>> (b &&& 31)) (pc + len) lv st M
    | .iushr => ib k (fun a b => (a.toUInt32 >>> (b.toUInt32 &&& Int32.toUInt32 31)).toInt32) (pc + len) lv st M
    | .idiv => (match st with
      | .inl b :: .inl a :: st => ic (b = 0) none (k (pc + len) lv (.inl (a / b) :: st) M)
      | _ => none)
    | .irem => (match st with
      | .inl b :: .inl a :: st => ic (b = 0) none (k (pc + len) lv (.inl (a - a / b * b) :: st) M)
      | _ => none)
    | .ineg => (match st with
      | .inl a :: st => k (pc + len) lv (.inl (-a) :: st) M
      | _ => none)
    | .ladd => jb k (fun a b => a + b) (pc + len) lv st M
    | .lsub => jb k (fun a b => a - b) (pc + len) lv st M
    | .lmul => jb k (fun a b => a * b) (pc + len) lv st M
    | .land => jb k (fun a b => a &&& b) (pc + len) lv st M
    | .lor => jb k (fun a b => a ||| b) (pc + len) lv st M
    | .ldiv => (match st with
      | .inr (.inl b) :: .inr (.inl a) :: st => ic (b = 0) none (k (pc + len) lv (.inr (.inl (a / b)) :: st) M)
      | _ => none)
    | .lrem => (match st with
      | .inr (.inl b) :: .inr (.inl a) :: st => ic (b = 0) none (k (pc + len) lv (.inr (.inl (a - a / b * b)) :: st) M)
      | _ => none)
    | .lshl => (match st with
      | .inl b :: .inr (.inl a) :: st => k (pc + len) lv (.inr (.inl (a <<< (b.toInt64 &&& 63))) :: st) M
      | _ => none)
    | .lshr => (match st with
      | .inl b :: .inr (.inl a) :: st => k (pc + len) lv (.inr (.inl (a >>> (b.toInt64 &&& 63))) :: st) M
      | _ => none)
    | .lushr => (match st with
      | .inl b :: .inr (.inl a) :: st => k (pc + len) lv (.inr (.inl (a.toUInt64 >>> (b.toInt64.toUInt64 &&& Int64.toUInt64 63)).toInt64) :: st) M
      | _ => none)
    | .lcmp => (match st with
      | .inr (.inl b) :: .inr (.inl a) :: st => k (pc + len) lv (.inl (lg_cmp a b) :: st) M
      | _ => none)
    | .i2l => (match st with
      | .inl a :: st => k (pc + len) lv (.inr (.inl a.toInt64) :: st) M
      | _ => none)
    | .l2i => (match st with
      | .inr (.inl a) :: st => k (pc + len) lv (.inl a.toInt32 :: st) M
      | _ => none)
    | .i2c => (match st with
      | .inl a :: st => k (pc + len) lv (.inl (a.toUInt32 % 65536).toInt32 :: st) M
      | _ => none)
    | .i2b => (match st with
      | .inl a :: st => k (pc + len) lv (.inl a.toInt8.toInt32 :: st) M
      | _ => none)
    | .dup => (match st with
      | .inl a :: st => k (pc + len) lv (.inl a :: .inl a :: st) M
      | .inr (.inr a) :: st => k (pc + len) lv (.inr (.inr a) :: .inr (.inr a) :: st) M
      | _ => none)
    | .pop => (match st with
      | .inl _ :: st => k (pc + len) lv st M
      | _ => none)
    | .dup2 => (match st with
      | .inl b :: .inr (.inr a) :: st => k (pc + len) lv (.inl b :: .inr (.inr a) :: .inl b :: .inr (.inr a) :: st) M
      | _ => none)
    | .ifCond c _ => (match st with
      | .inl a :: st => cIc back k c pc (pc + len) y lv a 0 st M
      | _ => none)
    | .if_icmp c _ => (match st with
      | .inl b :: .inl a :: st => cIc back k c pc (pc + len) y lv a b st M
      | _ => none)
    | .goto _ => jmp back k pc y lv st M
    | .tableswitch d lo _ os => (match st with
      | .inl v :: st => swk v (fun o => k ((pc : Int) + o).toNat lv st M) d lo os.toList
      | _ => none)
    | .getfield _ => gfK k (pc + len) x y lv st M
    | .putfield _ => pfK k (pc + len) x y lv st M
    | .iaload => alK k 20 (fun M q i => .inl (M.1 q.2.2 i)) (pc + len) lv st M
    | .caload => alK k 21 (fun M q i => .inl (M.1 q.2.2 i)) (pc + len) lv st M
    | .baload => (match z with
      | 0 => alK k 22 (fun M q i => .inl (M.1 q.2.2 i)) (pc + len) lv st M
      | _ => alK k 41 (fun _ q i => .inl (strB (q.2.2 - SV) i)) (pc + len) lv st M)
    | .laload => alK k 23 (fun M q i => .inr (.inl (M.2.1 q.2.2 i))) (pc + len) lv st M
    | .aaload => (match z with
      | 0 => alK k 24 (fun M q i => .inr (.inr (6, 0, M.2.2 q.2.2 i))) (pc + len) lv st M
      | _ => alK k z (fun _ q i => .inr (.inr (20, rowL z, q.2.2 + 1 + i))) (pc + len) lv st M)
    | .iastore => asK k 20 (fun v => v) (pc + len) lv st M
    | .castore => asK k 21 (fun v => vp_nar .char v) (pc + len) lv st M
    | .bastore => asK k 22 (fun v => vp_nar .boolean v) (pc + len) lv st M
    | .lastore => (match st with
      | .inr (.inl v) :: .inl i :: .inr (.inr q) :: st => (match Nat.beq q.1 23 with
        | true => ic (i < 0 ∨ q.2.1 ≤ i.toNatClampNeg) none (k (pc + len) lv st (sJ M q.2.2 i.toNatClampNeg v))
        | false => none)
      | _ => none)
    | .aastore => (match st with
      | .inr (.inr v) :: .inl i :: .inr (.inr q) :: st => (match Nat.beq q.1 24, Nat.beq v.1 6, Nat.beq v.2.1 0 with
        | true, true, true => ic (i < 0 ∨ q.2.1 ≤ i.toNatClampNeg) none (k (pc + len) lv st (sR M q.2.2 i.toNatClampNeg v.2.2))
        | _, _, _ => none)
      | _ => none)
    | .arraylength => (match st with
      | .inr (.inr q) :: st => (match Nat.ble 20 q.1, Nat.beq q.1 40, Nat.ble q.1 41 with
        | true, false, true => k (pc + len) lv (.inl (Int32.ofNat q.2.1) :: st) M
        | _, _, _ => none)
      | _ => none)
    | .invokevirtual _ => invK call k (pc + len) x y z lv st M
    | .invokestatic _ => (match z with
      | 9 => cpK k (pc + len) lv st M
      | _ => invK call k (pc + len) x y z lv st M)
    | .ireturn => (match st with
      | [.inl v] => (match z with
        | 0 => some (some (.inl v), M)
        | 1 => ic (v &&& 1 = v) (some (some (.inl v), M)) none
        | 2 => ic (vp_nar .byte v = v) (some (some (.inl v), M)) none
        | _ => ic (vp_nar .char v = v) (some (some (.inl v), M)) none)
      | _ => none)
    | .lreturn => (match st with
      | [.inr (.inl v)] => some (some (.inr (.inl v)), M)
      | _ => none)
    | .return_ => (match st with
      | [] => some (none, M)
      | _ => none)
    | _ => none
end EVI
