/-! REGIONS OF THE PROGRAM, by symbolic evaluation (printed by a program) -/
-- IceParliament$Yard clear()V
set_option maxRecDepth 100000 in
theorem j0 (call : Nat → List AV → Mem → Res) (back : Nat → Lv → Mem → Res) (kY : Nat) (M : Mem) : evj (lkE cd_0) [] call back 4000 0 [some (vR 9 0 kY)] [] M =
  cVd (call 1 [vR 4 0 (kY + 1)] M) fun M1 =>
  cVd (call 1 [vR 4 0 (kY + 3)] M1) fun M2 =>
  cVd (call 1 [vR 4 0 (kY + 5)] M2) fun M3 =>
  cVd (call 2 [vR 20 6 (kY + 15), vI 0] M3) fun M4 =>
  cVd (call 3 [vR 1 0 (kY + 17)] (sI (sI (sI M4 kY 12 0) kY 14 0) kY 15 0)) fun M5 =>
  cVd (call 4 [vR 1 0 (kY + 17), vI 10000] M5) fun M6 =>
  cVd (call 4 [vR 1 0 (kY + 17), vI 10001] M6) fun M7 =>
  cVd (call 4 [vR 1 0 (kY + 17), vI 10006] M7) fun M8 =>
  cVd (call 3 [vR 1 0 (kY + 20)] M8) fun M9 =>
  cVd (call 4 [vR 1 0 (kY + 20), vI 10000] M9) fun M10 =>
  some (none, M10) := rfl
set_option maxRecDepth 100000 in
theorem e0 (d : Nat) (kY : Nat) (M : Mem) : evD (d + 1) 0 [vR 9 0 kY] M =
  cVd (evD d 1 [vR 4 0 (kY + 1)] M) fun M1 =>
  cVd (evD d 1 [vR 4 0 (kY + 3)] M1) fun M2 =>
  cVd (evD d 1 [vR 4 0 (kY + 5)] M2) fun M3 =>
  cVd (evD d 2 [vR 20 6 (kY + 15), vI 0] M3) fun M4 =>
  cVd (evD d 3 [vR 1 0 (kY + 17)] (sI (sI (sI M4 kY 12 0) kY 14 0) kY 15 0)) fun M5 =>
  cVd (evD d 4 [vR 1 0 (kY + 17), vI 10000] M5) fun M6 =>
  cVd (evD d 4 [vR 1 0 (kY + 17), vI 10001] M6) fun M7 =>
  cVd (evD d 4 [vR 1 0 (kY + 17), vI 10006] M7) fun M8 =>
  cVd (evD d 3 [vR 1 0 (kY + 20)] M8) fun M9 =>
  cVd (evD d 4 [vR 1 0 (kY + 20), vI 10000] M9) fun M10 =>
  some (none, M10) := ((evD_step (d := d) (x := 0) (as := [vR 9 0 kY]) (M := M) (md := (⟨"IceParliament$Yard", "clear", "()V"⟩, prog_11_method_2_code, 1, (Option.none : Option Jvm.ClassFile.FieldType), 9, 9)) rfl rfl).trans (j0 (evD d) (evp0 (lkE (codT 0)) (hdT 0) (evD d)) kY M))
-- IceParliament$Roll clear()V
set_option maxRecDepth 100000 in
theorem j1 (call : Nat → List AV → Mem → Res) (back : Nat → Lv → Mem → Res) (kR : Nat) (M : Mem) : evj (lkE cd_1) [] call back 4000 0 [some (vR 4 0 kR)] [] M =
  some (none, sI M kR 0 0) := rfl
set_option maxRecDepth 100000 in
theorem e1 (d : Nat) (kR : Nat) (M : Mem) : evD (d + 1) 1 [vR 4 0 kR] M =
  some (none, sI M kR 0 0) := ((evD_step (d := d) (x := 1) (as := [vR 4 0 kR]) (M := M) (md := (⟨"IceParliament$Roll", "clear", "()V"⟩, prog_6_method_2_code, 1, (Option.none : Option Jvm.ClassFile.FieldType), 4, 4)) rfl rfl).trans (j1 (evD d) (evp0 (lkE (codT 1)) (hdT 1) (evD d)) kR M))
-- java/util/Arrays fill([II)V
set_option maxRecDepth 100000 in
theorem j2 (call : Nat → List AV → Mem → Res) (back : Nat → Lv → Mem → Res) (n0 : Nat) (k0 : Nat) (p1 : Int32) (M : Mem) : evj (lkE cd_2) [5] call back 4000 0 [some (vR 20 n0 k0), some (vI p1), none, none] [] M =
  back 5 [some (vR 20 n0 k0), some (vI p1), some (vI 0), some (vI (Int32.ofNat n0))] M := rfl
set_option maxRecDepth 100000 in
theorem e2 (d : Nat) (n0 : Nat) (k0 : Nat) (p1 : Int32) (M : Mem) : evD (d + 1) 2 [vR 20 n0 k0, vI p1] M =
  lp0 d 2 5 [some (vR 20 n0 k0), some (vI p1), some (vI 0), some (vI (Int32.ofNat n0))] M := ((evD_step (d := d) (x := 2) (as := [vR 20 n0 k0, vI p1]) (M := M) (md := (⟨"java/util/Arrays", "fill", "([II)V"⟩, prog_30_method_103_code, 4, (Option.none : Option Jvm.ClassFile.FieldType), 18, 99)) rfl rfl).trans (j2 (evD d) (evp0 (lkE (codT 2)) (hdT 2) (evD d)) n0 k0 p1 M))
set_option maxRecDepth 100000 in
theorem g2_5 (call : Nat → List AV → Mem → Res) (back : Nat → Lv → Mem → Res) (n0 : Nat) (k0 : Nat) (l1 : Int32) (l2 : Int32) (l3 : Int32) (M : Mem) : stepK call back (evj (lkE cd_2) [5] call back 4000) (.iload_n 2, 1, 2, 0, 0, 0, 0) 5 [some (vR 20 n0 k0), some (vI l1), some (vI l2), some (vI l3)] [] M =
  ic (l2 < l3) (
    ic (l2 < 0 ∨ n0 ≤ l2.toNatClampNeg) none (
      back 5 [some (vR 20 n0 k0), some (vI l1), some (vI (l2 + 1)), some (vI l3)] (sI M k0 l2.toNatClampNeg l1))) (
    some (none, M)) := rfl
set_option maxRecDepth 100000 in
theorem e2_5 (d F : Nat) (n0 : Nat) (k0 : Nat) (l1 : Int32) (l2 : Int32) (l3 : Int32) (M : Mem) : lp d 2 (F + 1) 5 [some (vR 20 n0 k0), some (vI l1), some (vI l2), some (vI l3)] M =
  ic (l2 < l3) (
    ic (l2 < 0 ∨ n0 ≤ l2.toNatClampNeg) none (
      lp d 2 F 5 [some (vR 20 n0 k0), some (vI l1), some (vI (l2 + 1)), some (vI l3)] (sI M k0 l2.toNatClampNeg l1))) (
    some (none, M)) := ((evp_step (code := lkE (codT 2)) (hd := hdT 2) (call := evD d) (F := F) (pc := 5) (lv := [some (vR 20 n0 k0), some (vI l1), some (vI l2), some (vI l3)]) (M := M) (e := (.iload_n 2, 1, 2, 0, 0, 0, 0)) rfl).trans (g2_5 (evD d) (evp (lkE (codT 2)) (hdT 2) (evD d) F) n0 k0 l1 l2 l3 M))
-- IceParliament$Law clear()V
set_option maxRecDepth 100000 in
theorem j3 (call : Nat → List AV → Mem → Res) (back : Nat → Lv → Mem → Res) (kL : Nat) (M : Mem) : evj (lkE cd_3) [] call back 4000 0 [some (vR 1 0 kL)] [] M =
  ic ((0 : Int32) &&& 1 = 0) (
    some (none, sI (sI M kL 2 0) kL 0 0)) none := rfl
set_option maxRecDepth 100000 in
theorem e3 (d : Nat) (kL : Nat) (M : Mem) : evD (d + 1) 3 [vR 1 0 kL] M =
  some (none, sI (sI M kL 2 0) kL 0 0) := ((evD_step (d := d) (x := 3) (as := [vR 1 0 kL]) (M := M) (md := (⟨"IceParliament$Law", "clear", "()V"⟩, prog_3_method_2_code, 1, (Option.none : Option Jvm.ClassFile.FieldType), 1, 1)) rfl rfl).trans (j3 (evD d) (evp0 (lkE (codT 3)) (hdT 3) (evD d)) kL M)).trans (by (try simp only [ic_t (show (0 : Int32) &&& 1 = 0 by decide)]))
-- IceParliament$Law add(I)V
set_option maxRecDepth 100000 in
theorem j4 (call : Nat → List AV → Mem → Res) (back : Nat → Lv → Mem → Res) (kL : Nat) (p0 : Int32) (M : Mem) : evj (lkE cd_4) [] call back 4000 0 [some (vR 1 0 kL), some (vI p0)] [] M =
  ic (M.1 kL 2 < Int32.ofNat 1000) (
    ic (M.1 kL 2 < 0 ∨ 1000 ≤ (M.1 kL 2).toNatClampNeg) none (
      some (none, sI (sI M (kL + 1) ((M.1 kL 2).toNatClampNeg) p0) kL 2 (((sI M (kL + 1) ((M.1 kL 2).toNatClampNeg) p0).1 kL 2) + 1)))) (
    some (none, M)) := rfl
set_option maxRecDepth 100000 in
theorem e4 (d : Nat) (kL : Nat) (p0 : Int32) (M : Mem) : evD (d + 1) 4 [vR 1 0 kL, vI p0] M =
  ic (M.1 kL 2 < Int32.ofNat 1000) (
    ic (M.1 kL 2 < 0 ∨ 1000 ≤ (M.1 kL 2).toNatClampNeg) none (
      some (none, sI (sI M (kL + 1) ((M.1 kL 2).toNatClampNeg) p0) kL 2 (((sI M (kL + 1) ((M.1 kL 2).toNatClampNeg) p0).1 kL 2) + 1)))) (
    some (none, M)) := ((evD_step (d := d) (x := 4) (as := [vR 1 0 kL, vI p0]) (M := M) (md := (⟨"IceParliament$Law", "add", "(I)V"⟩, prog_3_method_3_code, 2, (Option.none : Option Jvm.ClassFile.FieldType), 1, 1)) rfl rfl).trans (j4 (evD d) (evp0 (lkE (codT 4)) (hdT 4) (evD d)) kL p0 M))
-- IceParliament$State clear()V
set_option maxRecDepth 100000 in
theorem j5 (call : Nat → List AV → Mem → Res) (back : Nat → Lv → Mem → Res) (a : Nat) (M : Mem) : evj (lkE cd_5) [] call back 4000 0 [some (vR 6 0 a)] [] M =
  ic ((0 : Int32) < 0 ∨ (0 : Int32) < 0 ∨ (6 : Int32) < 0 ∨ 6 < (0 : Int32).toNatClampNeg + (6 : Int32).toNatClampNeg ∨ 6 < (0 : Int32).toNatClampNeg + (6 : Int32).toNatClampNeg) none (
    cVd (call 2 [vR 20 6 (a + 2), vI 0] (cpI (sI M a 0 0) 14 ((0 : Int32).toNatClampNeg) (a + 1) ((0 : Int32).toNatClampNeg) ((6 : Int32).toNatClampNeg))) fun M1 =>
    cVd (call 2 [vR 20 6 (a + 3), vI 0] M1) fun M2 =>
    cVd (call 2 [vR 20 6 (a + 4), vI (-1)] M2) fun M3 =>
    cVd (call 2 [vR 20 6 (a + 5), vI (-1)] M3) fun M4 =>
    cVd (call 2 [vR 20 6 (a + 6), vI (-1)] M4) fun M5 =>
    some (none, sI (sI (sI M5 a 7 0) a 8 0) a 9 0)) := rfl
set_option maxRecDepth 100000 in
theorem e5 (d : Nat) (a : Nat) (M : Mem) : evD (d + 1) 5 [vR 6 0 a] M =
  cVd (evD d 2 [vR 20 6 (a + 2), vI 0] (cpI (sI M a 0 0) 14 0 (a + 1) 0 6)) fun M1 =>
  cVd (evD d 2 [vR 20 6 (a + 3), vI 0] M1) fun M2 =>
  cVd (evD d 2 [vR 20 6 (a + 4), vI (-1)] M2) fun M3 =>
  cVd (evD d 2 [vR 20 6 (a + 5), vI (-1)] M3) fun M4 =>
  cVd (evD d 2 [vR 20 6 (a + 6), vI (-1)] M4) fun M5 =>
  some (none, sI (sI (sI M5 a 7 0) a 8 0) a 9 0) := ((evD_step (d := d) (x := 5) (as := [vR 6 0 a]) (M := M) (md := (⟨"IceParliament$State", "clear", "()V"⟩, prog_8_method_2_code, 1, (Option.none : Option Jvm.ClassFile.FieldType), 6, 6)) rfl rfl).trans (j5 (evD d) (evp0 (lkE (codT 5)) (hdT 5) (evD d)) a M)).trans (by (try simp only [ic_f (show ¬ ((0 : Int32) < 0 ∨ (0 : Int32) < 0 ∨ (6 : Int32) < 0 ∨ 6 < (0 : Int32).toNatClampNeg + (6 : Int32).toNatClampNeg ∨ 6 < (0 : Int32).toNatClampNeg + (6 : Int32).toNatClampNeg) by decide)]); (try simp only [show (0 : Int32).toNatClampNeg = 0 from rfl, show (6 : Int32).toNatClampNeg = 6 from rfl]))
-- IceParliament feed(JJJ)I
set_option maxRecDepth 100000 in
theorem j6 (call : Nat → List AV → Mem → Res) (back : Nat → Lv → Mem → Res) (p0 : Int64) (p1 : Int64) (p2 : Int64) (M : Mem) : evj (lkE cd_6) [] call back 4000 0 [some (vR 11 0 0), some (vJ p0), none, some (vJ p1), none, some (vJ p2), none] [] M =
  cVd (call 7 [vR 7 0 1, vJ p0] M) fun M1 =>
  cVd (call 7 [vR 7 0 1, vJ p1] M1) fun M2 =>
  cVd (call 7 [vR 7 0 1, vJ p2] M2) fun M3 =>
  some (some (vI (M3.1 1 0)), M3) := rfl
set_option maxRecDepth 100000 in
theorem e6 (d : Nat) (p0 : Int64) (p1 : Int64) (p2 : Int64) (M : Mem) : evD (d + 1) 6 [vR 11 0 0, vJ p0, vJ p1, vJ p2] M =
  cVd (evD d 7 [vR 7 0 1, vJ p0] M) fun M1 =>
  cVd (evD d 7 [vR 7 0 1, vJ p1] M1) fun M2 =>
  cVd (evD d 7 [vR 7 0 1, vJ p2] M2) fun M3 =>
  some (some (vI (M3.1 1 0)), M3) := ((evD_step (d := d) (x := 6) (as := [vR 11 0 0, vJ p0, vJ p1, vJ p2]) (M := M) (md := (⟨"IceParliament", "feed", "(JJJ)I"⟩, prog_1_method_2_code, 7, (Option.some Jvm.ClassFile.FieldType.int), 11, 11)) rfl rfl).trans (j6 (evD d) (evp0 (lkE (codT 6)) (hdT 6) (evD d)) p0 p1 p2 M))
-- IceParliament$Tape append(J)V
set_option maxRecDepth 100000 in
theorem j7 (call : Nat → List AV → Mem → Res) (back : Nat → Lv → Mem → Res) (p0 : Int64) (M : Mem) : evj (lkE cd_7) [3, 38, 72] call back 4000 0 [some (vR 7 0 1), some (vJ p0), none, none, none] [] M =
  back 3 [some (vR 7 0 1), some (vJ p0), none, some (vI 56), none] M := rfl
set_option maxRecDepth 100000 in
theorem e7 (d : Nat) (p0 : Int64) (M : Mem) : evD (d + 1) 7 [vR 7 0 1, vJ p0] M =
  lp0 d 7 3 [some (vR 7 0 1), some (vJ p0), none, some (vI 56), none] M := ((evD_step (d := d) (x := 7) (as := [vR 7 0 1, vJ p0]) (M := M) (md := (⟨"IceParliament$Tape", "append", "(J)V"⟩, prog_9_method_2_code, 5, (Option.none : Option Jvm.ClassFile.FieldType), 7, 7)) rfl rfl).trans (j7 (evD d) (evp0 (lkE (codT 7)) (hdT 7) (evD d)) p0 M))
set_option maxRecDepth 100000 in
theorem g7_3 (call : Nat → List AV → Mem → Res) (back : Nat → Lv → Mem → Res) (l1 : Int64) (l3 : Int32) (o4 : Option AV) (M : Mem) : stepK call back (evj (lkE cd_7) [3, 38, 72] call back 4000) (.iload_n 3, 1, 3, 0, 0, 0, 0) 3 [some (vR 7 0 1), some (vJ l1), none, some (vI l3), o4] [] M =
  ic (l3 < 0) (
    some (none, M)) (
    ic ((((l1.toUInt64 >>> (l3.toInt64.toUInt64 &&& Int64.toUInt64 63)).toInt64).toInt32) &&& 255 = 10) (
      back 38 [some (vR 7 0 1), some (vJ l1), none, some (vI l3), some (vI ((((l1.toUInt64 >>> (l3.toInt64.toUInt64 &&& Int64.toUInt64 63)).toInt64).toInt32) &&& 255))] M) (
      ic ((((l1.toUInt64 >>> (l3.toInt64.toUInt64 &&& Int64.toUInt64 63)).toInt64).toInt32) &&& 255 < 32) (
        back 72 [some (vR 7 0 1), some (vJ l1), none, some (vI l3), some (vI ((((l1.toUInt64 >>> (l3.toInt64.toUInt64 &&& Int64.toUInt64 63)).toInt64).toInt32) &&& 255))] M) (
        ic (126 < (((l1.toUInt64 >>> (l3.toInt64.toUInt64 &&& Int64.toUInt64 63)).toInt64).toInt32) &&& 255) (
          back 72 [some (vR 7 0 1), some (vJ l1), none, some (vI l3), some (vI ((((l1.toUInt64 >>> (l3.toInt64.toUInt64 &&& Int64.toUInt64 63)).toInt64).toInt32) &&& 255))] M) (
          back 38 [some (vR 7 0 1), some (vJ l1), none, some (vI l3), some (vI ((((l1.toUInt64 >>> (l3.toInt64.toUInt64 &&& Int64.toUInt64 63)).toInt64).toInt32) &&& 255))] M)))) := rfl
set_option maxRecDepth 100000 in
theorem e7_3 (d F : Nat) (l1 : Int64) (l3 : Int32) (o4 : Option AV) (M : Mem) : lp d 7 (F + 1) 3 [some (vR 7 0 1), some (vJ l1), none, some (vI l3), o4] M =
  ic (l3 < 0) (
    some (none, M)) (
    ic ((((l1.toUInt64 >>> (l3.toInt64.toUInt64 &&& Int64.toUInt64 63)).toInt64).toInt32) &&& 255 = 10) (
      lp d 7 F 38 [some (vR 7 0 1), some (vJ l1), none, some (vI l3), some (vI ((((l1.toUInt64 >>> (l3.toInt64.toUInt64 &&& Int64.toUInt64 63)).toInt64).toInt32) &&& 255))] M) (
      ic ((((l1.toUInt64 >>> (l3.toInt64.toUInt64 &&& Int64.toUInt64 63)).toInt64).toInt32) &&& 255 < 32) (
        lp d 7 F 72 [some (vR 7 0 1), some (vJ l1), none, some (vI l3), some (vI ((((l1.toUInt64 >>> (l3.toInt64.toUInt64 &&& Int64.toUInt64 63)).toInt64).toInt32) &&& 255))] M) (
        ic (126 < (((l1.toUInt64 >>> (l3.toInt64.toUInt64 &&& Int64.toUInt64 63)).toInt64).toInt32) &&& 255) (
          lp d 7 F 72 [some (vR 7 0 1), some (vJ l1), none, some (vI l3), some (vI ((((l1.toUInt64 >>> (l3.toInt64.toUInt64 &&& Int64.toUInt64 63)).toInt64).toInt32) &&& 255))] M) (
          lp d 7 F 38 [some (vR 7 0 1), some (vJ l1), none, some (vI l3), some (vI ((((l1.toUInt64 >>> (l3.toInt64.toUInt64 &&& Int64.toUInt64 63)).toInt64).toInt32) &&& 255))] M)))) := ((evp_step (code := lkE (codT 7)) (hd := hdT 7) (call := evD d) (F := F) (pc := 3) (lv := [some (vR 7 0 1), some (vJ l1), none, some (vI l3), o4]) (M := M) (e := (.iload_n 3, 1, 3, 0, 0, 0, 0)) rfl).trans (g7_3 (evD d) (evp (lkE (codT 7)) (hdT 7) (evD d) F) l1 l3 o4 M))
set_option maxRecDepth 100000 in
theorem g7_38 (call : Nat → List AV → Mem → Res) (back : Nat → Lv → Mem → Res) (l1 : Int64) (l3 : Int32) (l4 : Int32) (M : Mem) : stepK call back (evj (lkE cd_7) [3, 38, 72] call back 4000) (.aload_n 0, 1, 0, 0, 0, 0, 0) 38 [some (vR 7 0 1), some (vJ l1), none, some (vI l3), some (vI l4)] [] M =
  ic (M.1 1 0 < Int32.ofNat 1000) (
    ic (M.1 1 0 < 0 ∨ 1000 ≤ (M.1 1 0).toNatClampNeg) none (
      back 72 [some (vR 7 0 1), some (vJ l1), none, some (vI l3), some (vI l4)] (sI (sI M 2 ((M.1 1 0).toNatClampNeg) (vp_nar .char ((l4.toUInt32 % 65536).toInt32))) 1 0 (((sI M 2 ((M.1 1 0).toNatClampNeg) (vp_nar .char ((l4.toUInt32 % 65536).toInt32))).1 1 0) + 1)))) (
    back 72 [some (vR 7 0 1), some (vJ l1), none, some (vI l3), some (vI l4)] M) := rfl
set_option maxRecDepth 100000 in
theorem e7_38 (d F : Nat) (l1 : Int64) (l3 : Int32) (l4 : Int32) (M : Mem) : lp d 7 (F + 1) 38 [some (vR 7 0 1), some (vJ l1), none, some (vI l3), some (vI l4)] M =
  ic (M.1 1 0 < Int32.ofNat 1000) (
    ic (M.1 1 0 < 0 ∨ 1000 ≤ (M.1 1 0).toNatClampNeg) none (
      lp d 7 F 72 [some (vR 7 0 1), some (vJ l1), none, some (vI l3), some (vI l4)] (sI (sI M 2 ((M.1 1 0).toNatClampNeg) (vp_nar .char ((l4.toUInt32 % 65536).toInt32))) 1 0 (((sI M 2 ((M.1 1 0).toNatClampNeg) (vp_nar .char ((l4.toUInt32 % 65536).toInt32))).1 1 0) + 1)))) (
    lp d 7 F 72 [some (vR 7 0 1), some (vJ l1), none, some (vI l3), some (vI l4)] M) := ((evp_step (code := lkE (codT 7)) (hd := hdT 7) (call := evD d) (F := F) (pc := 38) (lv := [some (vR 7 0 1), some (vJ l1), none, some (vI l3), some (vI l4)]) (M := M) (e := (.aload_n 0, 1, 0, 0, 0, 0, 0)) rfl).trans (g7_38 (evD d) (evp (lkE (codT 7)) (hdT 7) (evD d) F) l1 l3 l4 M))
set_option maxRecDepth 100000 in
theorem g7_72 (call : Nat → List AV → Mem → Res) (back : Nat → Lv → Mem → Res) (l1 : Int64) (l3 : Int32) (o4 : Option AV) (M : Mem) : stepK call back (evj (lkE cd_7) [3, 38, 72] call back 4000) (.iinc 3 (-8), 3, 3, 0, 0, (-8), 0) 72 [some (vR 7 0 1), some (vJ l1), none, some (vI l3), o4] [] M =
  back 3 [some (vR 7 0 1), some (vJ l1), none, some (vI (l3 + (-8))), o4] M := rfl
set_option maxRecDepth 100000 in
theorem e7_72 (d F : Nat) (l1 : Int64) (l3 : Int32) (o4 : Option AV) (M : Mem) : lp d 7 (F + 1) 72 [some (vR 7 0 1), some (vJ l1), none, some (vI l3), o4] M =
  lp d 7 F 3 [some (vR 7 0 1), some (vJ l1), none, some (vI (l3 + (-8))), o4] M := ((evp_step (code := lkE (codT 7)) (hd := hdT 7) (call := evD d) (F := F) (pc := 72) (lv := [some (vR 7 0 1), some (vJ l1), none, some (vI l3), o4]) (M := M) (e := (.iinc 3 (-8), 3, 3, 0, 0, (-8), 0)) rfl).trans (g7_72 (evD d) (evp (lkE (codT 7)) (hdT 7) (evD d) F) l1 l3 o4 M))
-- IceParliament yard()I
set_option maxRecDepth 100000 in
theorem j8 (call : Nat → List AV → Mem → Res) (back : Nat → Lv → Mem → Res)  (M : Mem) : evj (lkE cd_8) [] call back 4000 0 [some (vR 11 0 0), none] [] M =
  cIn (call 9 [vR 10 0 49] M) fun v2 M1 =>
  cVd (call 82 [vR 7 0 1] M1) fun M3 =>
  ic (v2 = 0) (
    cVd (call 83 [vR 9 0 3, vR 9 0 26] M3) fun M4 =>
    cVd (call 5 [vR 6 0 60] M4) fun M5 =>
    cVd (call 86 [vR 5 0 52] M5) fun M6 =>
    some (some (vI v2), sI (sI M6 0 8 0) 0 10 0)) (
    some (some (vI v2), M3)) := rfl
set_option maxRecDepth 100000 in
theorem e8 (d : Nat)  (M : Mem) : evD (d + 1) 8 [vR 11 0 0] M =
  cIn (evD d 9 [vR 10 0 49] M) fun v2 M1 =>
  cVd (evD d 82 [vR 7 0 1] M1) fun M3 =>
  ic (v2 = 0) (
    cVd (evD d 83 [vR 9 0 3, vR 9 0 26] M3) fun M4 =>
    cVd (evD d 5 [vR 6 0 60] M4) fun M5 =>
    cVd (evD d 86 [vR 5 0 52] M5) fun M6 =>
    some (some (vI v2), sI (sI M6 0 8 0) 0 10 0)) (
    some (some (vI v2), M3)) := ((evD_step (d := d) (x := 8) (as := [vR 11 0 0]) (M := M) (md := (⟨"IceParliament", "yard", "()I"⟩, prog_1_method_3_code, 2, (Option.some Jvm.ClassFile.FieldType.int), 11, 11)) rfl rfl).trans (j8 (evD d) (evp0 (lkE (codT 8)) (hdT 8) (evD d))  M))
-- IceParliament$YardReader read()I
set_option maxRecDepth 100000 in
theorem j9 (call : Nat → List AV → Mem → Res) (back : Nat → Lv → Mem → Res)  (M : Mem) : evj (lkE cd_9) [21] call back 4000 0 [some (vR 10 0 49), none] [] M =
  cVd (call 0 [vR 9 0 26] M) fun M1 =>
  ic ((0 : Int32) &&& 1 = 0) (
    cVd (call 10 [vR 7 0 1] (sI M1 49 3 0)) fun M2 =>
    back 21 [some (vR 10 0 49), some (vI 0)] M2) none := rfl
set_option maxRecDepth 100000 in
theorem e9 (d : Nat)  (M : Mem) : evD (d + 1) 9 [vR 10 0 49] M =
  cVd (evD d 0 [vR 9 0 26] M) fun M1 =>
  cVd (evD d 10 [vR 7 0 1] (sI M1 49 3 0)) fun M2 =>
  lp0 d 9 21 [some (vR 10 0 49), some (vI 0)] M2 := ((evD_step (d := d) (x := 9) (as := [vR 10 0 49]) (M := M) (md := (⟨"IceParliament$YardReader", "read", "()I"⟩, prog_12_method_2_code, 2, (Option.some Jvm.ClassFile.FieldType.int), 10, 10)) rfl rfl).trans (j9 (evD d) (evp0 (lkE (codT 9)) (hdT 9) (evD d))  M)).trans (by (try simp only [ic_t (show (0 : Int32) &&& 1 = 0 by decide)]))
set_option maxRecDepth 100000 in
theorem g9_21 (call : Nat → List AV → Mem → Res) (back : Nat → Lv → Mem → Res) (l1 : Int32) (M : Mem) : stepK call back (evj (lkE cd_9) [21] call back 4000) (.iload_n 1, 1, 1, 0, 0, 0, 0) 21 [some (vR 10 0 49), some (vI l1)] [] M =
  ic (l1 < 1000) (
    cIn (call 33 [vR 7 0 1] M) fun v2 M1 =>
    ic (v2 = 0) (
      cIn (call 34 [vR 10 0 49] M1) fun v4 M3 =>
      ic (v4 = 0) (
        some (some (vI (M3.1 1 1)), M3)) (
        back 21 [some (vR 10 0 49), some (vI (l1 + 1))] M3)) (
      some (some (vI 0), M1))) (
    some (some (vI 0), M)) := rfl
set_option maxRecDepth 100000 in
theorem e9_21 (d F : Nat) (l1 : Int32) (M : Mem) : lp d 9 (F + 1) 21 [some (vR 10 0 49), some (vI l1)] M =
  ic (l1 < 1000) (
    cIn (evD d 33 [vR 7 0 1] M) fun v2 M1 =>
    ic (v2 = 0) (
      cIn (evD d 34 [vR 10 0 49] M1) fun v4 M3 =>
      ic (v4 = 0) (
        some (some (vI (M3.1 1 1)), M3)) (
        lp d 9 F 21 [some (vR 10 0 49), some (vI (l1 + 1))] M3)) (
      some (some (vI 0), M1))) (
    some (some (vI 0), M)) := ((evp_step (code := lkE (codT 9)) (hd := hdT 9) (call := evD d) (F := F) (pc := 21) (lv := [some (vR 10 0 49), some (vI l1)]) (M := M) (e := (.iload_n 1, 1, 1, 0, 0, 0, 0)) rfl).trans (g9_21 (evD d) (evp (lkE (codT 9)) (hdT 9) (evD d) F) l1 M))
-- IceParliament$Tape rewind()V
set_option maxRecDepth 100000 in
theorem j10 (call : Nat → List AV → Mem → Res) (back : Nat → Lv → Mem → Res)  (M : Mem) : evj (lkE cd_10) [] call back 4000 0 [some (vR 7 0 1)] [] M =
  cVd (call 11 [vR 7 0 1] (sI M 1 7 0)) fun M1 =>
  some (none, M1) := rfl
set_option maxRecDepth 100000 in
theorem e10 (d : Nat)  (M : Mem) : evD (d + 1) 10 [vR 7 0 1] M =
  cVd (evD d 11 [vR 7 0 1] (sI M 1 7 0)) fun M1 =>
  some (none, M1) := ((evD_step (d := d) (x := 10) (as := [vR 7 0 1]) (M := M) (md := (⟨"IceParliament$Tape", "rewind", "()V"⟩, prog_9_method_4_code, 1, (Option.none : Option Jvm.ClassFile.FieldType), 7, 7)) rfl rfl).trans (j10 (evD d) (evp0 (lkE (codT 10)) (hdT 10) (evD d))  M))
-- IceParliament$Tape advance()V
set_option maxRecDepth 100000 in
theorem j11 (call : Nat → List AV → Mem → Res) (back : Nat → Lv → Mem → Res)  (M : Mem) : evj (lkE cd_11) [0, 39, 52, 114, 149, 175] call back 4000 0 [some (vR 7 0 1)] [] M =
  back 0 [some (vR 7 0 1)] M := rfl
set_option maxRecDepth 100000 in
theorem e11 (d : Nat)  (M : Mem) : evD (d + 1) 11 [vR 7 0 1] M =
  lp0 d 11 0 [some (vR 7 0 1)] M := ((evD_step (d := d) (x := 11) (as := [vR 7 0 1]) (M := M) (md := (⟨"IceParliament$Tape", "advance", "()V"⟩, prog_9_method_5_code, 1, (Option.none : Option Jvm.ClassFile.FieldType), 7, 7)) rfl rfl).trans (j11 (evD d) (evp0 (lkE (codT 11)) (hdT 11) (evD d))  M))
set_option maxRecDepth 100000 in
theorem g11_0 (call : Nat → List AV → Mem → Res) (back : Nat → Lv → Mem → Res)  (M : Mem) : stepK call back (evj (lkE cd_11) [0, 39, 52, 114, 149, 175] call back 4000) (.aload_n 0, 1, 0, 0, 0, 0, 0) 0 [some (vR 7 0 1)] [] M =
  ic (M.1 1 7 < M.1 1 0) (
    ic (M.1 1 7 < 0 ∨ 1000 ≤ (M.1 1 7).toNatClampNeg) none (
      ic (M.1 2 (M.1 1 7).toNatClampNeg = 10) (
        back 39 [some (vR 7 0 1)] M) (
        ic (M.1 1 7 < 0 ∨ 1000 ≤ (M.1 1 7).toNatClampNeg) none (
          ic (M.1 2 (M.1 1 7).toNatClampNeg = 32) (
            back 39 [some (vR 7 0 1)] M) (
            back 52 [some (vR 7 0 1)] M))))) (
    back 52 [some (vR 7 0 1)] M) := rfl
set_option maxRecDepth 100000 in
theorem e11_0 (d F : Nat)  (M : Mem) : lp d 11 (F + 1) 0 [some (vR 7 0 1)] M =
  ic (M.1 1 7 < M.1 1 0) (
    ic (M.1 1 7 < 0 ∨ 1000 ≤ (M.1 1 7).toNatClampNeg) none (
      ic (M.1 2 (M.1 1 7).toNatClampNeg = 10) (
        lp d 11 F 39 [some (vR 7 0 1)] M) (
        ic (M.1 1 7 < 0 ∨ 1000 ≤ (M.1 1 7).toNatClampNeg) none (
          ic (M.1 2 (M.1 1 7).toNatClampNeg = 32) (
            lp d 11 F 39 [some (vR 7 0 1)] M) (
            lp d 11 F 52 [some (vR 7 0 1)] M))))) (
    lp d 11 F 52 [some (vR 7 0 1)] M) := ((evp_step (code := lkE (codT 11)) (hd := hdT 11) (call := evD d) (F := F) (pc := 0) (lv := [some (vR 7 0 1)]) (M := M) (e := (.aload_n 0, 1, 0, 0, 0, 0, 0)) rfl).trans (g11_0 (evD d) (evp (lkE (codT 11)) (hdT 11) (evD d) F)  M))
set_option maxRecDepth 100000 in
theorem g11_52 (call : Nat → List AV → Mem → Res) (back : Nat → Lv → Mem → Res)  (M : Mem) : stepK call back (evj (lkE cd_11) [0, 39, 52, 114, 149, 175] call back 4000) (.aload_n 0, 1, 0, 0, 0, 0, 0) 52 [some (vR 7 0 1)] [] M =
  ic ((sI M 1 6 (M.1 1 7)).1 1 7 < (sI M 1 6 (M.1 1 7)).1 1 0) (
    ic ((sI M 1 6 (M.1 1 7)).1 1 7 < 0 ∨ 1000 ≤ ((sI M 1 6 (M.1 1 7)).1 1 7).toNatClampNeg) none (
      ic ((sI M 1 6 (M.1 1 7)).1 2 ((sI M 1 6 (M.1 1 7)).1 1 7).toNatClampNeg < 97) (
        back 114 [some (vR 7 0 1)] (sI M 1 6 (M.1 1 7))) (
        ic ((sI M 1 6 (M.1 1 7)).1 1 7 < 0 ∨ 1000 ≤ ((sI M 1 6 (M.1 1 7)).1 1 7).toNatClampNeg) none (
          ic (122 < (sI M 1 6 (M.1 1 7)).1 2 ((sI M 1 6 (M.1 1 7)).1 1 7).toNatClampNeg) (
            back 114 [some (vR 7 0 1)] (sI M 1 6 (M.1 1 7))) (
            cVd (call 12 [vR 7 0 1] (sI M 1 6 (M.1 1 7))) fun M1 =>
            some (none, M1)))))) (
    some (none, sI (sI M 1 6 (M.1 1 7)) 1 5 4)) := rfl
set_option maxRecDepth 100000 in
theorem e11_52 (d F : Nat)  (M : Mem) : lp d 11 (F + 1) 52 [some (vR 7 0 1)] M =
  ic ((sI M 1 6 (M.1 1 7)).1 1 7 < (sI M 1 6 (M.1 1 7)).1 1 0) (
    ic ((sI M 1 6 (M.1 1 7)).1 1 7 < 0 ∨ 1000 ≤ ((sI M 1 6 (M.1 1 7)).1 1 7).toNatClampNeg) none (
      ic ((sI M 1 6 (M.1 1 7)).1 2 ((sI M 1 6 (M.1 1 7)).1 1 7).toNatClampNeg < 97) (
        lp d 11 F 114 [some (vR 7 0 1)] (sI M 1 6 (M.1 1 7))) (
        ic ((sI M 1 6 (M.1 1 7)).1 1 7 < 0 ∨ 1000 ≤ ((sI M 1 6 (M.1 1 7)).1 1 7).toNatClampNeg) none (
          ic (122 < (sI M 1 6 (M.1 1 7)).1 2 ((sI M 1 6 (M.1 1 7)).1 1 7).toNatClampNeg) (
            lp d 11 F 114 [some (vR 7 0 1)] (sI M 1 6 (M.1 1 7))) (
            cVd (evD d 12 [vR 7 0 1] (sI M 1 6 (M.1 1 7))) fun M1 =>
            some (none, M1)))))) (
    some (none, sI (sI M 1 6 (M.1 1 7)) 1 5 4)) := ((evp_step (code := lkE (codT 11)) (hd := hdT 11) (call := evD d) (F := F) (pc := 52) (lv := [some (vR 7 0 1)]) (M := M) (e := (.aload_n 0, 1, 0, 0, 0, 0, 0)) rfl).trans (g11_52 (evD d) (evp (lkE (codT 11)) (hdT 11) (evD d) F)  M))
set_option maxRecDepth 100000 in
theorem g11_39 (call : Nat → List AV → Mem → Res) (back : Nat → Lv → Mem → Res)  (M : Mem) : stepK call back (evj (lkE cd_11) [0, 39, 52, 114, 149, 175] call back 4000) (.aload_n 0, 1, 0, 0, 0, 0, 0) 39 [some (vR 7 0 1)] [] M =
  back 0 [some (vR 7 0 1)] (sI M 1 7 ((M.1 1 7) + 1)) := rfl
set_option maxRecDepth 100000 in
theorem e11_39 (d F : Nat)  (M : Mem) : lp d 11 (F + 1) 39 [some (vR 7 0 1)] M =
  lp d 11 F 0 [some (vR 7 0 1)] (sI M 1 7 ((M.1 1 7) + 1)) := ((evp_step (code := lkE (codT 11)) (hd := hdT 11) (call := evD d) (F := F) (pc := 39) (lv := [some (vR 7 0 1)]) (M := M) (e := (.aload_n 0, 1, 0, 0, 0, 0, 0)) rfl).trans (g11_39 (evD d) (evp (lkE (codT 11)) (hdT 11) (evD d) F)  M))
set_option maxRecDepth 100000 in
theorem g11_114 (call : Nat → List AV → Mem → Res) (back : Nat → Lv → Mem → Res)  (M : Mem) : stepK call back (evj (lkE cd_11) [0, 39, 52, 114, 149, 175] call back 4000) (.aload_n 0, 1, 0, 0, 0, 0, 0) 114 [some (vR 7 0 1)] [] M =
  ic (M.1 1 7 < 0 ∨ 1000 ≤ (M.1 1 7).toNatClampNeg) none (
    ic (M.1 2 (M.1 1 7).toNatClampNeg < 48) (
      back 149 [some (vR 7 0 1)] M) (
      ic (M.1 1 7 < 0 ∨ 1000 ≤ (M.1 1 7).toNatClampNeg) none (
        ic (57 < M.1 2 (M.1 1 7).toNatClampNeg) (
          back 149 [some (vR 7 0 1)] M) (
          cVd (call 13 [vR 7 0 1] M) fun M1 =>
          some (none, M1))))) := rfl
set_option maxRecDepth 100000 in
theorem e11_114 (d F : Nat)  (M : Mem) : lp d 11 (F + 1) 114 [some (vR 7 0 1)] M =
  ic (M.1 1 7 < 0 ∨ 1000 ≤ (M.1 1 7).toNatClampNeg) none (
    ic (M.1 2 (M.1 1 7).toNatClampNeg < 48) (
      lp d 11 F 149 [some (vR 7 0 1)] M) (
      ic (M.1 1 7 < 0 ∨ 1000 ≤ (M.1 1 7).toNatClampNeg) none (
        ic (57 < M.1 2 (M.1 1 7).toNatClampNeg) (
          lp d 11 F 149 [some (vR 7 0 1)] M) (
          cVd (evD d 13 [vR 7 0 1] M) fun M1 =>
          some (none, M1))))) := ((evp_step (code := lkE (codT 11)) (hd := hdT 11) (call := evD d) (F := F) (pc := 114) (lv := [some (vR 7 0 1)]) (M := M) (e := (.aload_n 0, 1, 0, 0, 0, 0, 0)) rfl).trans (g11_114 (evD d) (evp (lkE (codT 11)) (hdT 11) (evD d) F)  M))
set_option maxRecDepth 100000 in
theorem g11_149 (call : Nat → List AV → Mem → Res) (back : Nat → Lv → Mem → Res)  (M : Mem) : stepK call back (evj (lkE cd_11) [0, 39, 52, 114, 149, 175] call back 4000) (.aload_n 0, 1, 0, 0, 0, 0, 0) 149 [some (vR 7 0 1)] [] M =
  ic (M.1 1 7 < 0 ∨ 1000 ≤ (M.1 1 7).toNatClampNeg) none (
    cIn (call 14 [vR 40 0 (SB + 0), vI (M.1 2 (M.1 1 7).toNatClampNeg)] M) fun v2 M1 =>
    ic (v2 < 0) (
      back 175 [some (vR 7 0 1)] (sI M1 1 5 0)) (
      back 175 [some (vR 7 0 1)] (sI M1 1 5 3))) := rfl
set_option maxRecDepth 100000 in
theorem e11_149 (d F : Nat)  (M : Mem) : lp d 11 (F + 1) 149 [some (vR 7 0 1)] M =
  ic (M.1 1 7 < 0 ∨ 1000 ≤ (M.1 1 7).toNatClampNeg) none (
    cIn (evD d 14 [vR 40 0 (SB + 0), vI (M.1 2 (M.1 1 7).toNatClampNeg)] M) fun v2 M1 =>
    ic (v2 < 0) (
      lp d 11 F 175 [some (vR 7 0 1)] (sI M1 1 5 0)) (
      lp d 11 F 175 [some (vR 7 0 1)] (sI M1 1 5 3))) := ((evp_step (code := lkE (codT 11)) (hd := hdT 11) (call := evD d) (F := F) (pc := 149) (lv := [some (vR 7 0 1)]) (M := M) (e := (.aload_n 0, 1, 0, 0, 0, 0, 0)) rfl).trans (g11_149 (evD d) (evp (lkE (codT 11)) (hdT 11) (evD d) F)  M))
set_option maxRecDepth 100000 in
theorem g11_175 (call : Nat → List AV → Mem → Res) (back : Nat → Lv → Mem → Res)  (M : Mem) : stepK call back (evj (lkE cd_11) [0, 39, 52, 114, 149, 175] call back 4000) (.aload_n 0, 1, 0, 0, 0, 0, 0) 175 [some (vR 7 0 1)] [] M =
  some (none, sI M 1 7 ((M.1 1 7) + 1)) := rfl
set_option maxRecDepth 100000 in
theorem e11_175 (d F : Nat)  (M : Mem) : lp d 11 (F + 1) 175 [some (vR 7 0 1)] M =
  some (none, sI M 1 7 ((M.1 1 7) + 1)) := ((evp_step (code := lkE (codT 11)) (hd := hdT 11) (call := evD d) (F := F) (pc := 175) (lv := [some (vR 7 0 1)]) (M := M) (e := (.aload_n 0, 1, 0, 0, 0, 0, 0)) rfl).trans (g11_175 (evD d) (evp (lkE (codT 11)) (hdT 11) (evD d) F)  M))
-- IceParliament$Tape takeLetters()V
set_option maxRecDepth 100000 in
theorem j12 (call : Nat → List AV → Mem → Res) (back : Nat → Lv → Mem → Res)  (M : Mem) : evj (lkE cd_12) [5] call back 4000 0 [some (vR 7 0 1)] [] M =
  back 5 [some (vR 7 0 1)] (sJ M 1 8 0) := rfl
set_option maxRecDepth 100000 in
theorem e12 (d : Nat)  (M : Mem) : evD (d + 1) 12 [vR 7 0 1] M =
  lp0 d 12 5 [some (vR 7 0 1)] (sJ M 1 8 0) := ((evD_step (d := d) (x := 12) (as := [vR 7 0 1]) (M := M) (md := (⟨"IceParliament$Tape", "takeLetters", "()V"⟩, prog_9_method_6_code, 1, (Option.none : Option Jvm.ClassFile.FieldType), 7, 7)) rfl rfl).trans (j12 (evD d) (evp0 (lkE (codT 12)) (hdT 12) (evD d))  M))
set_option maxRecDepth 100000 in
theorem g12_5 (call : Nat → List AV → Mem → Res) (back : Nat → Lv → Mem → Res)  (M : Mem) : stepK call back (evj (lkE cd_12) [5] call back 4000) (.aload_n 0, 1, 0, 0, 0, 0, 0) 5 [some (vR 7 0 1)] [] M =
  ic (M.1 1 7 < M.1 1 0) (
    ic (M.1 1 7 < 0 ∨ 1000 ≤ (M.1 1 7).toNatClampNeg) none (
      ic (M.1 2 (M.1 1 7).toNatClampNeg < 97) (
        ic (8 < (M.1 1 7) - (M.1 1 6)) (
          some (none, sI M 1 5 0)) (
          some (none, sI M 1 5 1))) (
        ic (M.1 1 7 < 0 ∨ 1000 ≤ (M.1 1 7).toNatClampNeg) none (
          ic (122 < M.1 2 (M.1 1 7).toNatClampNeg) (
            ic (8 < (M.1 1 7) - (M.1 1 6)) (
              some (none, sI M 1 5 0)) (
              some (none, sI M 1 5 1))) (
            ic (M.1 1 7 < 0 ∨ 1000 ≤ (M.1 1 7).toNatClampNeg) none (
              back 5 [some (vR 7 0 1)] (sI (sJ M 1 8 (((M.2.1 1 8) * 32) + ((((M.1 2 (M.1 1 7).toNatClampNeg) - 97) + 1).toInt64))) 1 7 (((sJ M 1 8 (((M.2.1 1 8) * 32) + ((((M.1 2 (M.1 1 7).toNatClampNeg) - 97) + 1).toInt64))).1 1 7) + 1)))))))) (
    ic (8 < (M.1 1 7) - (M.1 1 6)) (
      some (none, sI M 1 5 0)) (
      some (none, sI M 1 5 1))) := rfl
set_option maxRecDepth 100000 in
theorem e12_5 (d F : Nat)  (M : Mem) : lp d 12 (F + 1) 5 [some (vR 7 0 1)] M =
  ic (M.1 1 7 < M.1 1 0) (
    ic (M.1 1 7 < 0 ∨ 1000 ≤ (M.1 1 7).toNatClampNeg) none (
      ic (M.1 2 (M.1 1 7).toNatClampNeg < 97) (
        ic (8 < (M.1 1 7) - (M.1 1 6)) (
          some (none, sI M 1 5 0)) (
          some (none, sI M 1 5 1))) (
        ic (M.1 1 7 < 0 ∨ 1000 ≤ (M.1 1 7).toNatClampNeg) none (
          ic (122 < M.1 2 (M.1 1 7).toNatClampNeg) (
            ic (8 < (M.1 1 7) - (M.1 1 6)) (
              some (none, sI M 1 5 0)) (
              some (none, sI M 1 5 1))) (
            ic (M.1 1 7 < 0 ∨ 1000 ≤ (M.1 1 7).toNatClampNeg) none (
              lp d 12 F 5 [some (vR 7 0 1)] (sI (sJ M 1 8 (((M.2.1 1 8) * 32) + ((((M.1 2 (M.1 1 7).toNatClampNeg) - 97) + 1).toInt64))) 1 7 (((sJ M 1 8 (((M.2.1 1 8) * 32) + ((((M.1 2 (M.1 1 7).toNatClampNeg) - 97) + 1).toInt64))).1 1 7) + 1)))))))) (
    ic (8 < (M.1 1 7) - (M.1 1 6)) (
      some (none, sI M 1 5 0)) (
      some (none, sI M 1 5 1))) := ((evp_step (code := lkE (codT 12)) (hd := hdT 12) (call := evD d) (F := F) (pc := 5) (lv := [some (vR 7 0 1)]) (M := M) (e := (.aload_n 0, 1, 0, 0, 0, 0, 0)) rfl).trans (g12_5 (evD d) (evp (lkE (codT 12)) (hdT 12) (evD d) F)  M))
-- IceParliament$Tape takeDigits()V
set_option maxRecDepth 100000 in
theorem j13 (call : Nat → List AV → Mem → Res) (back : Nat → Lv → Mem → Res)  (M : Mem) : evj (lkE cd_13) [5] call back 4000 0 [some (vR 7 0 1)] [] M =
  back 5 [some (vR 7 0 1)] (sI M 1 2 0) := rfl
set_option maxRecDepth 100000 in
theorem e13 (d : Nat)  (M : Mem) : evD (d + 1) 13 [vR 7 0 1] M =
  lp0 d 13 5 [some (vR 7 0 1)] (sI M 1 2 0) := ((evD_step (d := d) (x := 13) (as := [vR 7 0 1]) (M := M) (md := (⟨"IceParliament$Tape", "takeDigits", "()V"⟩, prog_9_method_7_code, 1, (Option.none : Option Jvm.ClassFile.FieldType), 7, 7)) rfl rfl).trans (j13 (evD d) (evp0 (lkE (codT 13)) (hdT 13) (evD d))  M))
set_option maxRecDepth 100000 in
theorem g13_5 (call : Nat → List AV → Mem → Res) (back : Nat → Lv → Mem → Res)  (M : Mem) : stepK call back (evj (lkE cd_13) [5] call back 4000) (.aload_n 0, 1, 0, 0, 0, 0, 0) 5 [some (vR 7 0 1)] [] M =
  ic (M.1 1 7 < M.1 1 0) (
    ic (M.1 1 7 < 0 ∨ 1000 ≤ (M.1 1 7).toNatClampNeg) none (
      ic (M.1 2 (M.1 1 7).toNatClampNeg < 48) (
        ic (4 < (M.1 1 7) - (M.1 1 6)) (
          some (none, sI M 1 5 0)) (
          some (none, sI M 1 5 2))) (
        ic (M.1 1 7 < 0 ∨ 1000 ≤ (M.1 1 7).toNatClampNeg) none (
          ic (57 < M.1 2 (M.1 1 7).toNatClampNeg) (
            ic (4 < (M.1 1 7) - (M.1 1 6)) (
              some (none, sI M 1 5 0)) (
              some (none, sI M 1 5 2))) (
            ic (M.1 1 7 < 0 ∨ 1000 ≤ (M.1 1 7).toNatClampNeg) none (
              back 5 [some (vR 7 0 1)] (sI (sI M 1 2 (((M.1 1 2) * 10) + ((M.1 2 (M.1 1 7).toNatClampNeg) - 48))) 1 7 (((sI M 1 2 (((M.1 1 2) * 10) + ((M.1 2 (M.1 1 7).toNatClampNeg) - 48))).1 1 7) + 1)))))))) (
    ic (4 < (M.1 1 7) - (M.1 1 6)) (
      some (none, sI M 1 5 0)) (
      some (none, sI M 1 5 2))) := rfl
set_option maxRecDepth 100000 in
theorem e13_5 (d F : Nat)  (M : Mem) : lp d 13 (F + 1) 5 [some (vR 7 0 1)] M =
  ic (M.1 1 7 < M.1 1 0) (
    ic (M.1 1 7 < 0 ∨ 1000 ≤ (M.1 1 7).toNatClampNeg) none (
      ic (M.1 2 (M.1 1 7).toNatClampNeg < 48) (
        ic (4 < (M.1 1 7) - (M.1 1 6)) (
          some (none, sI M 1 5 0)) (
          some (none, sI M 1 5 2))) (
        ic (M.1 1 7 < 0 ∨ 1000 ≤ (M.1 1 7).toNatClampNeg) none (
          ic (57 < M.1 2 (M.1 1 7).toNatClampNeg) (
            ic (4 < (M.1 1 7) - (M.1 1 6)) (
              some (none, sI M 1 5 0)) (
              some (none, sI M 1 5 2))) (
            ic (M.1 1 7 < 0 ∨ 1000 ≤ (M.1 1 7).toNatClampNeg) none (
              lp d 13 F 5 [some (vR 7 0 1)] (sI (sI M 1 2 (((M.1 1 2) * 10) + ((M.1 2 (M.1 1 7).toNatClampNeg) - 48))) 1 7 (((sI M 1 2 (((M.1 1 2) * 10) + ((M.1 2 (M.1 1 7).toNatClampNeg) - 48))).1 1 7) + 1)))))))) (
    ic (4 < (M.1 1 7) - (M.1 1 6)) (
      some (none, sI M 1 5 0)) (
      some (none, sI M 1 5 2))) := ((evp_step (code := lkE (codT 13)) (hd := hdT 13) (call := evD d) (F := F) (pc := 5) (lv := [some (vR 7 0 1)]) (M := M) (e := (.aload_n 0, 1, 0, 0, 0, 0, 0)) rfl).trans (g13_5 (evD d) (evp (lkE (codT 13)) (hdT 13) (evD d) F)  M))
-- java/lang/String indexOf(I)I
set_option maxRecDepth 100000 in
theorem j14 (call : Nat → List AV → Mem → Res) (back : Nat → Lv → Mem → Res) (is : Nat) (p0 : Int32) (M : Mem) : evj (lkE cd_14) [] call back 4000 0 [some (vR 40 is (SB + is)), some (vI p0)] [] M =
  cIn (call 15 [vR 40 is (SB + is), vI p0, vI 0] M) fun v2 M1 =>
  some (some (vI v2), M1) := rfl
set_option maxRecDepth 100000 in
theorem e14 (d : Nat) (is : Nat) (p0 : Int32) (M : Mem) : evD (d + 1) 14 [vR 40 is (SB + is), vI p0] M =
  cIn (evD d 15 [vR 40 is (SB + is), vI p0, vI 0] M) fun v2 M1 =>
  some (some (vI v2), M1) := ((evD_step (d := d) (x := 14) (as := [vR 40 is (SB + is), vI p0]) (M := M) (md := (⟨"java/lang/String", "indexOf", "(I)I"⟩, prog_23_method_79_code, 2, (Option.some Jvm.ClassFile.FieldType.int), 13, 40)) rfl rfl).trans (j14 (evD d) (evp0 (lkE (codT 14)) (hdT 14) (evD d)) is p0 M))
-- java/lang/String indexOf(II)I
set_option maxRecDepth 100000 in
theorem j15 (call : Nat → List AV → Mem → Res) (back : Nat → Lv → Mem → Res) (is : Nat) (p0 : Int32) (p1 : Int32) (M : Mem) : evj (lkE cd_15) [] call back 4000 0 [some (vR 40 is (SB + is)), some (vI p0), some (vI p1)] [] M =
  cIn (call 16 [vR 40 is (SB + is)] M) fun v2 M1 =>
  ic (v2 = 0) (
    cIn (call 17 [vR 40 is (SB + is)] M1) fun v4 M3 =>
    cIn (call 24 [vR 41 (strL is) (SV + is), vI p0, vI p1, vI v4] M3) fun v6 M5 =>
    some (some (vI v6), M5)) (
    cIn (call 17 [vR 40 is (SB + is)] M1) fun v8 M7 =>
    cIn (call 19 [vR 41 (strL is) (SV + is), vI p0, vI p1, vI v8] M7) fun v10 M9 =>
    some (some (vI v10), M9)) := rfl
set_option maxRecDepth 100000 in
theorem e15 (d : Nat) (is : Nat) (p0 : Int32) (p1 : Int32) (M : Mem) : evD (d + 1) 15 [vR 40 is (SB + is), vI p0, vI p1] M =
  cIn (evD d 16 [vR 40 is (SB + is)] M) fun v2 M1 =>
  ic (v2 = 0) (
    cIn (evD d 17 [vR 40 is (SB + is)] M1) fun v4 M3 =>
    cIn (evD d 24 [vR 41 (strL is) (SV + is), vI p0, vI p1, vI v4] M3) fun v6 M5 =>
    some (some (vI v6), M5)) (
    cIn (evD d 17 [vR 40 is (SB + is)] M1) fun v8 M7 =>
    cIn (evD d 19 [vR 41 (strL is) (SV + is), vI p0, vI p1, vI v8] M7) fun v10 M9 =>
    some (some (vI v10), M9)) := ((evD_step (d := d) (x := 15) (as := [vR 40 is (SB + is), vI p0, vI p1]) (M := M) (md := (⟨"java/lang/String", "indexOf", "(II)I"⟩, prog_23_method_80_code, 3, (Option.some Jvm.ClassFile.FieldType.int), 13, 40)) rfl rfl).trans (j15 (evD d) (evp0 (lkE (codT 15)) (hdT 15) (evD d)) is p0 p1 M))
-- java/lang/String isLatin1()Z
set_option maxRecDepth 100000 in
theorem j16 (call : Nat → List AV → Mem → Res) (back : Nat → Lv → Mem → Res) (is : Nat) (M : Mem) : evj (lkE cd_16) [] call back 4000 0 [some (vR 40 is (SB + is))] [] M =
  ic ((1 : Int32) = 0) (
    ic ((0 : Int32) &&& 1 = 0) (
      some (some (vI 0), M)) none) (
    ic ((0 : Int32) = 0) (
      ic ((1 : Int32) &&& 1 = 1) (
        some (some (vI 1), M)) none) (
      ic ((0 : Int32) &&& 1 = 0) (
        some (some (vI 0), M)) none)) := rfl
set_option maxRecDepth 100000 in
theorem e16 (d : Nat) (is : Nat) (M : Mem) : evD (d + 1) 16 [vR 40 is (SB + is)] M =
  ic ((1 : Int32) = 0) (
    some (some (vI 0), M)) (
    ic ((0 : Int32) = 0) (
      some (some (vI 1), M)) (
      some (some (vI 0), M))) := ((evD_step (d := d) (x := 16) (as := [vR 40 is (SB + is)]) (M := M) (md := (⟨"java/lang/String", "isLatin1", "()Z"⟩, prog_23_method_154_code, 1, (Option.some Jvm.ClassFile.FieldType.boolean), 13, 40)) rfl rfl).trans (j16 (evD d) (evp0 (lkE (codT 16)) (hdT 16) (evD d)) is M)).trans (by (try simp only [ic_t (show (0 : Int32) &&& 1 = 0 by decide), ic_t (show (1 : Int32) &&& 1 = 1 by decide)]))
-- java/lang/String length()I
set_option maxRecDepth 100000 in
theorem j17 (call : Nat → List AV → Mem → Res) (back : Nat → Lv → Mem → Res) (is : Nat) (M : Mem) : evj (lkE cd_17) [] call back 4000 0 [some (vR 40 is (SB + is))] [] M =
  cIn (call 18 [vR 40 is (SB + is)] M) fun v2 M1 =>
  some (some (vI ((Int32.ofNat (strL is)) >>> (v2 &&& 31))), M1) := rfl
set_option maxRecDepth 100000 in
theorem e17 (d : Nat) (is : Nat) (M : Mem) : evD (d + 1) 17 [vR 40 is (SB + is)] M =
  cIn (evD d 18 [vR 40 is (SB + is)] M) fun v2 M1 =>
  some (some (vI ((Int32.ofNat (strL is)) >>> (v2 &&& 31))), M1) := ((evD_step (d := d) (x := 17) (as := [vR 40 is (SB + is)]) (M := M) (md := (⟨"java/lang/String", "length", "()I"⟩, prog_23_method_54_code, 1, (Option.some Jvm.ClassFile.FieldType.int), 13, 40)) rfl rfl).trans (j17 (evD d) (evp0 (lkE (codT 17)) (hdT 17) (evD d)) is M))
-- java/lang/String coder()B
set_option maxRecDepth 100000 in
theorem j18 (call : Nat → List AV → Mem → Res) (back : Nat → Lv → Mem → Res) (is : Nat) (M : Mem) : evj (lkE cd_18) [] call back 4000 0 [some (vR 40 is (SB + is))] [] M =
  ic ((1 : Int32) = 0) (
    ic (vp_nar .byte (1 : Int32) = 1) (
      some (some (vI 1), M)) none) (
    ic (vp_nar .byte (0 : Int32) = 0) (
      some (some (vI 0), M)) none) := rfl
set_option maxRecDepth 100000 in
theorem e18 (d : Nat) (is : Nat) (M : Mem) : evD (d + 1) 18 [vR 40 is (SB + is)] M =
  ic ((1 : Int32) = 0) (
    some (some (vI 1), M)) (
    some (some (vI 0), M)) := ((evD_step (d := d) (x := 18) (as := [vR 40 is (SB + is)]) (M := M) (md := (⟨"java/lang/String", "coder", "()B"⟩, prog_23_method_152_code, 1, (Option.some Jvm.ClassFile.FieldType.byte), 13, 40)) rfl rfl).trans (j18 (evD d) (evp0 (lkE (codT 18)) (hdT 18) (evD d)) is M)).trans (by (try simp only [ic_t (show vp_nar .byte (1 : Int32) = 1 by decide), ic_t (show vp_nar .byte (0 : Int32) = 0 by decide)]))
-- java/lang/StringLatin1 indexOf([BIII)I
set_option maxRecDepth 100000 in
theorem j19 (call : Nat → List AV → Mem → Res) (back : Nat → Lv → Mem → Res) (is : Nat) (p1 : Int32) (p2 : Int32) (p3 : Int32) (M : Mem) : evj (lkE cd_19) [] call back 4000 0 [some (vR 41 (strL is) (SV + is)), some (vI p1), some (vI p2), some (vI p3)] [] M =
  cIn (call 20 [vI p1] M) fun v2 M1 =>
  ic (v2 = 0) (
    some (some (vI (-1)), M1)) (
    cIn (call 21 [vI p2, vI 0] M1) fun v4 M3 =>
    cIn (call 22 [vI p3, vI (Int32.ofNat (strL is))] M3) fun v6 M5 =>
    ic (v4 < v6) (
      cIn (call 23 [vR 41 (strL is) (SV + is), vI p1, vI v4, vI v6] M5) fun v8 M7 =>
      some (some (vI v8), M7)) (
      some (some (vI (-1)), M5))) := rfl
set_option maxRecDepth 100000 in
theorem e19 (d : Nat) (is : Nat) (p1 : Int32) (p2 : Int32) (p3 : Int32) (M : Mem) : evD (d + 1) 19 [vR 41 (strL is) (SV + is), vI p1, vI p2, vI p3] M =
  cIn (evD d 20 [vI p1] M) fun v2 M1 =>
  ic (v2 = 0) (
    some (some (vI (-1)), M1)) (
    cIn (evD d 21 [vI p2, vI 0] M1) fun v4 M3 =>
    cIn (evD d 22 [vI p3, vI (Int32.ofNat (strL is))] M3) fun v6 M5 =>
    ic (v4 < v6) (
      cIn (evD d 23 [vR 41 (strL is) (SV + is), vI p1, vI v4, vI v6] M5) fun v8 M7 =>
      some (some (vI v8), M7)) (
      some (some (vI (-1)), M5))) := ((evD_step (d := d) (x := 19) (as := [vR 41 (strL is) (SV + is), vI p1, vI p2, vI p3]) (M := M) (md := (⟨"java/lang/StringLatin1", "indexOf", "([BIII)I"⟩, prog_24_method_22_code, 4, (Option.some Jvm.ClassFile.FieldType.int), 14, 99)) rfl rfl).trans (j19 (evD d) (evp0 (lkE (codT 19)) (hdT 19) (evD d)) is p1 p2 p3 M))
-- java/lang/StringLatin1 canEncode(I)Z
set_option maxRecDepth 100000 in
theorem j20 (call : Nat → List AV → Mem → Res) (back : Nat → Lv → Mem → Res) (p0 : Int32) (M : Mem) : evj (lkE cd_20) [] call back 4000 0 [some (vI p0)] [] M =
  ic (p0 < 0) (
    ic ((0 : Int32) &&& 1 = 0) (
      some (some (vI 0), M)) none) (
    ic (255 < p0) (
      ic ((0 : Int32) &&& 1 = 0) (
        some (some (vI 0), M)) none) (
      ic ((1 : Int32) &&& 1 = 1) (
        some (some (vI 1), M)) none)) := rfl
set_option maxRecDepth 100000 in
theorem e20 (d : Nat) (p0 : Int32) (M : Mem) : evD (d + 1) 20 [vI p0] M =
  ic (p0 < 0) (
    some (some (vI 0), M)) (
    ic (255 < p0) (
      some (some (vI 0), M)) (
      some (some (vI 1), M))) := ((evD_step (d := d) (x := 20) (as := [vI p0]) (M := M) (md := (⟨"java/lang/StringLatin1", "canEncode", "(I)Z"⟩, prog_24_method_4_code, 1, (Option.some Jvm.ClassFile.FieldType.boolean), 14, 99)) rfl rfl).trans (j20 (evD d) (evp0 (lkE (codT 20)) (hdT 20) (evD d)) p0 M)).trans (by (try simp only [ic_t (show (0 : Int32) &&& 1 = 0 by decide), ic_t (show (1 : Int32) &&& 1 = 1 by decide)]))
-- java/lang/Math max(II)I
set_option maxRecDepth 100000 in
theorem j21 (call : Nat → List AV → Mem → Res) (back : Nat → Lv → Mem → Res) (p0 : Int32) (p1 : Int32) (M : Mem) : evj (lkE cd_21) [] call back 4000 0 [some (vI p0), some (vI p1)] [] M =
  ic (p0 < p1) (
    some (some (vI p1), M)) (
    some (some (vI p0), M)) := rfl
set_option maxRecDepth 100000 in
theorem e21 (d : Nat) (p0 : Int32) (p1 : Int32) (M : Mem) : evD (d + 1) 21 [vI p0, vI p1] M =
  ic (p0 < p1) (
    some (some (vI p1), M)) (
    some (some (vI p0), M)) := ((evD_step (d := d) (x := 21) (as := [vI p0, vI p1]) (M := M) (md := (⟨"java/lang/Math", "max", "(II)I"⟩, prog_21_method_65_code, 2, (Option.some Jvm.ClassFile.FieldType.int), 16, 99)) rfl rfl).trans (j21 (evD d) (evp0 (lkE (codT 21)) (hdT 21) (evD d)) p0 p1 M))
-- java/lang/Math min(II)I
set_option maxRecDepth 100000 in
theorem j22 (call : Nat → List AV → Mem → Res) (back : Nat → Lv → Mem → Res) (p0 : Int32) (p1 : Int32) (M : Mem) : evj (lkE cd_22) [] call back 4000 0 [some (vI p0), some (vI p1)] [] M =
  ic (p1 < p0) (
    some (some (vI p1), M)) (
    some (some (vI p0), M)) := rfl
set_option maxRecDepth 100000 in
theorem e22 (d : Nat) (p0 : Int32) (p1 : Int32) (M : Mem) : evD (d + 1) 22 [vI p0, vI p1] M =
  ic (p1 < p0) (
    some (some (vI p1), M)) (
    some (some (vI p0), M)) := ((evD_step (d := d) (x := 22) (as := [vI p0, vI p1]) (M := M) (md := (⟨"java/lang/Math", "min", "(II)I"⟩, prog_21_method_69_code, 2, (Option.some Jvm.ClassFile.FieldType.int), 16, 99)) rfl rfl).trans (j22 (evD d) (evp0 (lkE (codT 22)) (hdT 22) (evD d)) p0 p1 M))
-- java/lang/StringLatin1 indexOfChar([BIII)I
set_option maxRecDepth 100000 in
theorem j23 (call : Nat → List AV → Mem → Res) (back : Nat → Lv → Mem → Res) (is : Nat) (p1 : Int32) (p2 : Int32) (p3 : Int32) (M : Mem) : evj (lkE cd_23) [7] call back 4000 0 [some (vR 41 (strL is) (SV + is)), some (vI p1), some (vI p2), some (vI p3), none, none] [] M =
  back 7 [some (vR 41 (strL is) (SV + is)), some (vI p1), some (vI p2), some (vI p3), some (vI p1.toInt8.toInt32), some (vI p2)] M := rfl
set_option maxRecDepth 100000 in
theorem e23 (d : Nat) (is : Nat) (p1 : Int32) (p2 : Int32) (p3 : Int32) (M : Mem) : evD (d + 1) 23 [vR 41 (strL is) (SV + is), vI p1, vI p2, vI p3] M =
  lp0 d 23 7 [some (vR 41 (strL is) (SV + is)), some (vI p1), some (vI p2), some (vI p3), some (vI p1.toInt8.toInt32), some (vI p2)] M := ((evD_step (d := d) (x := 23) (as := [vR 41 (strL is) (SV + is), vI p1, vI p2, vI p3]) (M := M) (md := (⟨"java/lang/StringLatin1", "indexOfChar", "([BIII)I"⟩, prog_24_method_23_code, 6, (Option.some Jvm.ClassFile.FieldType.int), 14, 99)) rfl rfl).trans (j23 (evD d) (evp0 (lkE (codT 23)) (hdT 23) (evD d)) is p1 p2 p3 M))
set_option maxRecDepth 100000 in
theorem g23_7 (call : Nat → List AV → Mem → Res) (back : Nat → Lv → Mem → Res) (is : Nat) (o1 : Option AV) (o2 : Option AV) (l3 : Int32) (l4 : Int32) (l5 : Int32) (M : Mem) : stepK call back (evj (lkE cd_23) [7] call back 4000) (.iload 5, 2, 5, 0, 0, 0, 0) 7 [some (vR 41 (strL is) (SV + is)), o1, o2, some (vI l3), some (vI l4), some (vI l5)] [] M =
  ic (l5 < l3) (
    ic (l5 < 0 ∨ (strL is) ≤ l5.toNatClampNeg) none (
      ic (strB ((SV + is) - SV) l5.toNatClampNeg = l4) (
        some (some (vI l5), M)) (
        back 7 [some (vR 41 (strL is) (SV + is)), o1, o2, some (vI l3), some (vI l4), some (vI (l5 + 1))] M))) (
    some (some (vI (-1)), M)) := rfl
set_option maxRecDepth 100000 in
theorem e23_7 (d F : Nat) (is : Nat) (o1 : Option AV) (o2 : Option AV) (l3 : Int32) (l4 : Int32) (l5 : Int32) (M : Mem) : lp d 23 (F + 1) 7 [some (vR 41 (strL is) (SV + is)), o1, o2, some (vI l3), some (vI l4), some (vI l5)] M =
  ic (l5 < l3) (
    ic (l5 < 0 ∨ (strL is) ≤ l5.toNatClampNeg) none (
      ic (strB ((SV + is) - SV) l5.toNatClampNeg = l4) (
        some (some (vI l5), M)) (
        lp d 23 F 7 [some (vR 41 (strL is) (SV + is)), o1, o2, some (vI l3), some (vI l4), some (vI (l5 + 1))] M))) (
    some (some (vI (-1)), M)) := ((evp_step (code := lkE (codT 23)) (hd := hdT 23) (call := evD d) (F := F) (pc := 7) (lv := [some (vR 41 (strL is) (SV + is)), o1, o2, some (vI l3), some (vI l4), some (vI l5)]) (M := M) (e := (.iload 5, 2, 5, 0, 0, 0, 0)) rfl).trans (g23_7 (evD d) (evp (lkE (codT 23)) (hdT 23) (evD d) F) is o1 o2 l3 l4 l5 M))
-- java/lang/StringUTF16 indexOf([BIII)I
set_option maxRecDepth 100000 in
theorem j24 (call : Nat → List AV → Mem → Res) (back : Nat → Lv → Mem → Res) (is : Nat) (p1 : Int32) (p2 : Int32) (p3 : Int32) (M : Mem) : evj (lkE cd_24) [] call back 4000 0 [some (vR 41 (strL is) (SV + is)), some (vI p1), some (vI p2), some (vI p3)] [] M =
  cIn (call 21 [vI p2, vI 0] M) fun v2 M1 =>
  cIn (call 22 [vI p3, vI ((Int32.ofNat (strL is)) >>> (1 &&& 31))] M1) fun v4 M3 =>
  ic (v2 < v4) (
    ic (p1 < 65536) (
      cIn (call 25 [vR 41 (strL is) (SV + is), vI p1, vI v2, vI v4] M3) fun v8 M7 =>
      some (some (vI v8), M7)) (
      cIn (call 32 [vR 41 (strL is) (SV + is), vI p1, vI v2, vI v4] M3) fun v6 M5 =>
      some (some (vI v6), M5))) (
    some (some (vI (-1)), M3)) := rfl
set_option maxRecDepth 100000 in
theorem e24 (d : Nat) (is : Nat) (p1 : Int32) (p2 : Int32) (p3 : Int32) (M : Mem) : evD (d + 1) 24 [vR 41 (strL is) (SV + is), vI p1, vI p2, vI p3] M =
  cIn (evD d 21 [vI p2, vI 0] M) fun v2 M1 =>
  cIn (evD d 22 [vI p3, vI ((Int32.ofNat (strL is)) >>> (1 &&& 31))] M1) fun v4 M3 =>
  ic (v2 < v4) (
    ic (p1 < 65536) (
      cIn (evD d 25 [vR 41 (strL is) (SV + is), vI p1, vI v2, vI v4] M3) fun v8 M7 =>
      some (some (vI v8), M7)) (
      cIn (evD d 32 [vR 41 (strL is) (SV + is), vI p1, vI v2, vI v4] M3) fun v6 M5 =>
      some (some (vI v6), M5))) (
    some (some (vI (-1)), M3)) := ((evD_step (d := d) (x := 24) (as := [vR 41 (strL is) (SV + is), vI p1, vI p2, vI p3]) (M := M) (md := (⟨"java/lang/StringUTF16", "indexOf", "([BIII)I"⟩, prog_25_method_40_code, 4, (Option.some Jvm.ClassFile.FieldType.int), 15, 99)) rfl rfl).trans (j24 (evD d) (evp0 (lkE (codT 24)) (hdT 24) (evD d)) is p1 p2 p3 M))
-- java/lang/StringUTF16 indexOfChar([BIII)I
set_option maxRecDepth 100000 in
theorem j25 (call : Nat → List AV → Mem → Res) (back : Nat → Lv → Mem → Res) (is : Nat) (p1 : Int32) (p2 : Int32) (p3 : Int32) (M : Mem) : evj (lkE cd_25) [] call back 4000 0 [some (vR 41 (strL is) (SV + is)), some (vI p1), some (vI p2), some (vI p3)] [] M =
  cVd (call 26 [vI p2, vI p3, vR 41 (strL is) (SV + is)] M) fun M1 =>
  cIn (call 30 [vR 41 (strL is) (SV + is), vI p1, vI p2, vI p3] M1) fun v3 M2 =>
  some (some (vI v3), M2) := rfl
set_option maxRecDepth 100000 in
theorem e25 (d : Nat) (is : Nat) (p1 : Int32) (p2 : Int32) (p3 : Int32) (M : Mem) : evD (d + 1) 25 [vR 41 (strL is) (SV + is), vI p1, vI p2, vI p3] M =
  cVd (evD d 26 [vI p2, vI p3, vR 41 (strL is) (SV + is)] M) fun M1 =>
  cIn (evD d 30 [vR 41 (strL is) (SV + is), vI p1, vI p2, vI p3] M1) fun v3 M2 =>
  some (some (vI v3), M2) := ((evD_step (d := d) (x := 25) (as := [vR 41 (strL is) (SV + is), vI p1, vI p2, vI p3]) (M := M) (md := (⟨"java/lang/StringUTF16", "indexOfChar", "([BIII)I"⟩, prog_25_method_47_code, 4, (Option.some Jvm.ClassFile.FieldType.int), 15, 99)) rfl rfl).trans (j25 (evD d) (evp0 (lkE (codT 25)) (hdT 25) (evD d)) is p1 p2 p3 M))
-- java/lang/StringUTF16 checkBoundsBeginEnd(II[B)V
set_option maxRecDepth 100000 in
theorem j26 (call : Nat → List AV → Mem → Res) (back : Nat → Lv → Mem → Res) (p0 : Int32) (p1 : Int32) (is : Nat) (M : Mem) : evj (lkE cd_26) [] call back 4000 0 [some (vI p0), some (vI p1), some (vR 41 (strL is) (SV + is))] [] M =
  cIn (call 27 [vR 41 (strL is) (SV + is)] M) fun v2 M1 =>
  cVd (call 28 [vI p0, vI p1, vI v2] M1) fun M3 =>
  some (none, M3) := rfl
set_option maxRecDepth 100000 in
theorem e26 (d : Nat) (p0 : Int32) (p1 : Int32) (is : Nat) (M : Mem) : evD (d + 1) 26 [vI p0, vI p1, vR 41 (strL is) (SV + is)] M =
  cIn (evD d 27 [vR 41 (strL is) (SV + is)] M) fun v2 M1 =>
  cVd (evD d 28 [vI p0, vI p1, vI v2] M1) fun M3 =>
  some (none, M3) := ((evD_step (d := d) (x := 26) (as := [vI p0, vI p1, vR 41 (strL is) (SV + is)]) (M := M) (md := (⟨"java/lang/StringUTF16", "checkBoundsBeginEnd", "(II[B)V"⟩, prog_25_method_93_code, 3, (Option.none : Option Jvm.ClassFile.FieldType), 15, 99)) rfl rfl).trans (j26 (evD d) (evp0 (lkE (codT 26)) (hdT 26) (evD d)) p0 p1 is M))
-- java/lang/StringUTF16 length([B)I
set_option maxRecDepth 100000 in
theorem j27 (call : Nat → List AV → Mem → Res) (back : Nat → Lv → Mem → Res) (is : Nat) (M : Mem) : evj (lkE cd_27) [] call back 4000 0 [some (vR 41 (strL is) (SV + is))] [] M =
  some (some (vI ((Int32.ofNat (strL is)) >>> (1 &&& 31))), M) := rfl
set_option maxRecDepth 100000 in
theorem e27 (d : Nat) (is : Nat) (M : Mem) : evD (d + 1) 27 [vR 41 (strL is) (SV + is)] M =
  some (some (vI ((Int32.ofNat (strL is)) >>> (1 &&& 31))), M) := ((evD_step (d := d) (x := 27) (as := [vR 41 (strL is) (SV + is)]) (M := M) (md := (⟨"java/lang/StringUTF16", "length", "([B)I"⟩, prog_25_method_6_code, 1, (Option.some Jvm.ClassFile.FieldType.int), 15, 99)) rfl rfl).trans (j27 (evD d) (evp0 (lkE (codT 27)) (hdT 27) (evD d)) is M))
-- java/lang/String checkBoundsBeginEnd(III)V
set_option maxRecDepth 100000 in
theorem j28 (call : Nat → List AV → Mem → Res) (back : Nat → Lv → Mem → Res) (p0 : Int32) (p1 : Int32) (p2 : Int32) (M : Mem) : evj (lkE cd_28) [] call back 4000 0 [some (vI p0), some (vI p1), some (vI p2)] [] M =
  cIn (call 29 [vI p0, vI p1, vI p2, vR 50 0 SF0] M) fun v2 M1 =>
  some (none, M1) := rfl
set_option maxRecDepth 100000 in
theorem e28 (d : Nat) (p0 : Int32) (p1 : Int32) (p2 : Int32) (M : Mem) : evD (d + 1) 28 [vI p0, vI p1, vI p2] M =
  cIn (evD d 29 [vI p0, vI p1, vI p2, vR 50 0 SF0] M) fun v2 M1 =>
  some (none, M1) := ((evD_step (d := d) (x := 28) (as := [vI p0, vI p1, vI p2]) (M := M) (md := (⟨"java/lang/String", "checkBoundsBeginEnd", "(III)V"⟩, prog_23_method_158_code, 3, (Option.none : Option Jvm.ClassFile.FieldType), 13, 99)) rfl rfl).trans (j28 (evD d) (evp0 (lkE (codT 28)) (hdT 28) (evD d)) p0 p1 p2 M))
-- jdk/internal/util/Preconditions checkFromToIndex(IIILjava/util/function/BiFunction;)I
set_option maxRecDepth 100000 in
theorem j29 (call : Nat → List AV → Mem → Res) (back : Nat → Lv → Mem → Res) (p0 : Int32) (p1 : Int32) (p2 : Int32) (M : Mem) : evj (lkE cd_29) [] call back 4000 0 [some (vI p0), some (vI p1), some (vI p2), some (vR 50 0 SF0)] [] M =
  ic (p0 < 0) none (
    ic (p1 < p0) none (
      ic (p2 < p1) none (
        some (some (vI p0), M)))) := rfl
set_option maxRecDepth 100000 in
theorem e29 (d : Nat) (p0 : Int32) (p1 : Int32) (p2 : Int32) (M : Mem) : evD (d + 1) 29 [vI p0, vI p1, vI p2, vR 50 0 SF0] M =
  ic (p0 < 0) none (
    ic (p1 < p0) none (
      ic (p2 < p1) none (
        some (some (vI p0), M)))) := ((evD_step (d := d) (x := 29) (as := [vI p0, vI p1, vI p2, vR 50 0 SF0]) (M := M) (md := (⟨"jdk/internal/util/Preconditions", "checkFromToIndex", "(IIILjava/util/function/BiFunction;)I"⟩, prog_32_method_12_code, 4, (Option.some Jvm.ClassFile.FieldType.int), 19, 99)) rfl rfl).trans (j29 (evD d) (evp0 (lkE (codT 29)) (hdT 29) (evD d)) p0 p1 p2 M))
-- java/lang/StringUTF16 indexOfCharUnsafe([BIII)I
set_option maxRecDepth 100000 in
theorem j30 (call : Nat → List AV → Mem → Res) (back : Nat → Lv → Mem → Res) (is : Nat) (p1 : Int32) (p2 : Int32) (p3 : Int32) (M : Mem) : evj (lkE cd_30) [3] call back 4000 0 [some (vR 41 (strL is) (SV + is)), some (vI p1), some (vI p2), some (vI p3), none] [] M =
  back 3 [some (vR 41 (strL is) (SV + is)), some (vI p1), some (vI p2), some (vI p3), some (vI p2)] M := rfl
set_option maxRecDepth 100000 in
theorem e30 (d : Nat) (is : Nat) (p1 : Int32) (p2 : Int32) (p3 : Int32) (M : Mem) : evD (d + 1) 30 [vR 41 (strL is) (SV + is), vI p1, vI p2, vI p3] M =
  lp0 d 30 3 [some (vR 41 (strL is) (SV + is)), some (vI p1), some (vI p2), some (vI p3), some (vI p2)] M := ((evD_step (d := d) (x := 30) (as := [vR 41 (strL is) (SV + is), vI p1, vI p2, vI p3]) (M := M) (md := (⟨"java/lang/StringUTF16", "indexOfCharUnsafe", "([BIII)I"⟩, prog_25_method_48_code, 5, (Option.some Jvm.ClassFile.FieldType.int), 15, 99)) rfl rfl).trans (j30 (evD d) (evp0 (lkE (codT 30)) (hdT 30) (evD d)) is p1 p2 p3 M))
set_option maxRecDepth 100000 in
theorem g30_3 (call : Nat → List AV → Mem → Res) (back : Nat → Lv → Mem → Res) (is : Nat) (l1 : Int32) (o2 : Option AV) (l3 : Int32) (l4 : Int32) (M : Mem) : stepK call back (evj (lkE cd_30) [3] call back 4000) (.iload 4, 2, 4, 0, 0, 0, 0) 3 [some (vR 41 (strL is) (SV + is)), some (vI l1), o2, some (vI l3), some (vI l4)] [] M =
  ic (l4 < l3) (
    cIn (call 31 [vR 41 (strL is) (SV + is), vI l4] M) fun v2 M1 =>
    ic (v2 = l1) (
      some (some (vI l4), M1)) (
      back 3 [some (vR 41 (strL is) (SV + is)), some (vI l1), o2, some (vI l3), some (vI (l4 + 1))] M1)) (
    some (some (vI (-1)), M)) := rfl
set_option maxRecDepth 100000 in
theorem e30_3 (d F : Nat) (is : Nat) (l1 : Int32) (o2 : Option AV) (l3 : Int32) (l4 : Int32) (M : Mem) : lp d 30 (F + 1) 3 [some (vR 41 (strL is) (SV + is)), some (vI l1), o2, some (vI l3), some (vI l4)] M =
  ic (l4 < l3) (
    cIn (evD d 31 [vR 41 (strL is) (SV + is), vI l4] M) fun v2 M1 =>
    ic (v2 = l1) (
      some (some (vI l4), M1)) (
      lp d 30 F 3 [some (vR 41 (strL is) (SV + is)), some (vI l1), o2, some (vI l3), some (vI (l4 + 1))] M1)) (
    some (some (vI (-1)), M)) := ((evp_step (code := lkE (codT 30)) (hd := hdT 30) (call := evD d) (F := F) (pc := 3) (lv := [some (vR 41 (strL is) (SV + is)), some (vI l1), o2, some (vI l3), some (vI l4)]) (M := M) (e := (.iload 4, 2, 4, 0, 0, 0, 0)) rfl).trans (g30_3 (evD d) (evp (lkE (codT 30)) (hdT 30) (evD d) F) is l1 o2 l3 l4 M))
-- java/lang/StringUTF16 getChar([BI)C
set_option maxRecDepth 100000 in
theorem j31 (call : Nat → List AV → Mem → Res) (back : Nat → Lv → Mem → Res) (is : Nat) (p1 : Int32) (M : Mem) : evj (lkE cd_31) [] call back 4000 0 [some (vR 41 (strL is) (SV + is)), some (vI p1)] [] M =
  none := rfl
set_option maxRecDepth 100000 in
theorem e31 (d : Nat) (is : Nat) (p1 : Int32) (M : Mem) : evD (d + 1) 31 [vR 41 (strL is) (SV + is), vI p1] M =
  none := ((evD_step (d := d) (x := 31) (as := [vR 41 (strL is) (SV + is), vI p1]) (M := M) (md := (⟨"java/lang/StringUTF16", "getChar", "([BI)C"⟩, prog_25_method_5_code, 2, (Option.some Jvm.ClassFile.FieldType.char), 15, 99)) rfl rfl).trans (j31 (evD d) (evp0 (lkE (codT 31)) (hdT 31) (evD d)) is p1 M))
-- java/lang/StringUTF16 indexOfSupplementary([BIII)I
set_option maxRecDepth 100000 in
theorem j32 (call : Nat → List AV → Mem → Res) (back : Nat → Lv → Mem → Res) (is : Nat) (p1 : Int32) (p2 : Int32) (p3 : Int32) (M : Mem) : evj (lkE cd_32) [28] call back 4000 0 [some (vR 41 (strL is) (SV + is)), some (vI p1), some (vI p2), some (vI p3), none, none, none] [] M =
  none := rfl
set_option maxRecDepth 100000 in
theorem e32 (d : Nat) (is : Nat) (p1 : Int32) (p2 : Int32) (p3 : Int32) (M : Mem) : evD (d + 1) 32 [vR 41 (strL is) (SV + is), vI p1, vI p2, vI p3] M =
  none := ((evD_step (d := d) (x := 32) (as := [vR 41 (strL is) (SV + is), vI p1, vI p2, vI p3]) (M := M) (md := (⟨"java/lang/StringUTF16", "indexOfSupplementary", "([BIII)I"⟩, prog_25_method_49_code, 7, (Option.some Jvm.ClassFile.FieldType.int), 15, 99)) rfl rfl).trans (j32 (evD d) (evp0 (lkE (codT 32)) (hdT 32) (evD d)) is p1 p2 p3 M))
-- IceParliament$Tape atEnd()Z
set_option maxRecDepth 100000 in
theorem j33 (call : Nat → List AV → Mem → Res) (back : Nat → Lv → Mem → Res)  (M : Mem) : evj (lkE cd_33) [] call back 4000 0 [some (vR 7 0 1)] [] M =
  ic (M.1 1 5 = 4) (
    ic ((1 : Int32) &&& 1 = 1) (
      some (some (vI 1), M)) none) (
    ic ((0 : Int32) &&& 1 = 0) (
      some (some (vI 0), M)) none) := rfl
set_option maxRecDepth 100000 in
theorem e33 (d : Nat)  (M : Mem) : evD (d + 1) 33 [vR 7 0 1] M =
  ic (M.1 1 5 = 4) (
    some (some (vI 1), M)) (
    some (some (vI 0), M)) := ((evD_step (d := d) (x := 33) (as := [vR 7 0 1]) (M := M) (md := (⟨"IceParliament$Tape", "atEnd", "()Z"⟩, prog_9_method_8_code, 1, (Option.some Jvm.ClassFile.FieldType.boolean), 7, 7)) rfl rfl).trans (j33 (evD d) (evp0 (lkE (codT 33)) (hdT 33) (evD d))  M)).trans (by (try simp only [ic_t (show (0 : Int32) &&& 1 = 0 by decide), ic_t (show (1 : Int32) &&& 1 = 1 by decide)]))
-- IceParliament$YardReader readLine()Z
set_option maxRecDepth 100000 in
theorem j34 (call : Nat → List AV → Mem → Res) (back : Nat → Lv → Mem → Res)  (M : Mem) : evj (lkE cd_34) [] call back 4000 0 [some (vR 10 0 49)] [] M =
  cIn (call 35 [vR 7 0 1, vR 40 1 (SB + 1)] M) fun v2 M1 =>
  ic (v2 = 0) (
    cIn (call 35 [vR 7 0 1, vR 40 4 (SB + 4)] M1) fun v4 M3 =>
    ic (v4 = 0) (
      cIn (call 35 [vR 7 0 1, vR 40 8 (SB + 8)] M3) fun v6 M5 =>
      ic (v6 = 0) (
        cIn (call 35 [vR 7 0 1, vR 40 17 (SB + 17)] M5) fun v8 M7 =>
        ic (v8 = 0) (
          cIn (call 35 [vR 7 0 1, vR 40 18 (SB + 18)] M7) fun v10 M9 =>
          ic (v10 = 0) (
            cIn (call 35 [vR 7 0 1, vR 40 19 (SB + 19)] M9) fun v12 M11 =>
            ic (v12 = 0) (
              cIn (call 35 [vR 7 0 1, vR 40 20 (SB + 20)] M11) fun v14 M13 =>
              ic (v14 = 0) (
                cIn (call 35 [vR 7 0 1, vR 40 29 (SB + 29)] M13) fun v16 M15 =>
                ic (v16 = 0) (
                  cIn (call 45 [vR 7 0 1, vI 1] M15) fun v18 M17 =>
                  ic (v18 &&& 1 = v18) (
                    some (some (vI v18), M17)) none) (
                  cIn (call 70 [vR 2 0 50, vR 1 0 46, vI 0] M15) fun v20 M19 =>
                  ic (v20 &&& 1 = v20) (
                    some (some (vI v20), M19)) none)) (
                cIn (call 70 [vR 2 0 50, vR 1 0 43, vI 1] M13) fun v22 M21 =>
                ic (v22 &&& 1 = v22) (
                  some (some (vI v22), M21)) none)) (
              cIn (call 69 [vR 10 0 49] M11) fun v24 M23 =>
              ic (v24 &&& 1 = v24) (
                some (some (vI v24), M23)) none)) (
            cIn (call 66 [vR 10 0 49] M9) fun v26 M25 =>
            ic (v26 &&& 1 = v26) (
              some (some (vI v26), M25)) none)) (
          cIn (call 62 [vR 10 0 49] M7) fun v28 M27 =>
          ic (v28 &&& 1 = v28) (
            some (some (vI v28), M27)) none)) (
        cIn (call 58 [vR 10 0 49] M5) fun v30 M29 =>
        ic (v30 &&& 1 = v30) (
          some (some (vI v30), M29)) none)) (
      cIn (call 56 [vR 10 0 49] M3) fun v32 M31 =>
      ic (v32 &&& 1 = v32) (
        some (some (vI v32), M31)) none)) (
    cIn (call 42 [vR 10 0 49] M1) fun v34 M33 =>
    ic (v34 &&& 1 = v34) (
      some (some (vI v34), M33)) none) := rfl
set_option maxRecDepth 100000 in
theorem e34 (d : Nat)  (M : Mem) : evD (d + 1) 34 [vR 10 0 49] M =
  cIn (evD d 35 [vR 7 0 1, vR 40 1 (SB + 1)] M) fun v2 M1 =>
  ic (v2 = 0) (
    cIn (evD d 35 [vR 7 0 1, vR 40 4 (SB + 4)] M1) fun v4 M3 =>
    ic (v4 = 0) (
      cIn (evD d 35 [vR 7 0 1, vR 40 8 (SB + 8)] M3) fun v6 M5 =>
      ic (v6 = 0) (
        cIn (evD d 35 [vR 7 0 1, vR 40 17 (SB + 17)] M5) fun v8 M7 =>
        ic (v8 = 0) (
          cIn (evD d 35 [vR 7 0 1, vR 40 18 (SB + 18)] M7) fun v10 M9 =>
          ic (v10 = 0) (
            cIn (evD d 35 [vR 7 0 1, vR 40 19 (SB + 19)] M9) fun v12 M11 =>
            ic (v12 = 0) (
              cIn (evD d 35 [vR 7 0 1, vR 40 20 (SB + 20)] M11) fun v14 M13 =>
              ic (v14 = 0) (
                cIn (evD d 35 [vR 7 0 1, vR 40 29 (SB + 29)] M13) fun v16 M15 =>
                ic (v16 = 0) (
                  cIn (evD d 45 [vR 7 0 1, vI 1] M15) fun v18 M17 =>
                  ic (v18 &&& 1 = v18) (
                    some (some (vI v18), M17)) none) (
                  cIn (evD d 70 [vR 2 0 50, vR 1 0 46, vI 0] M15) fun v20 M19 =>
                  ic (v20 &&& 1 = v20) (
                    some (some (vI v20), M19)) none)) (
                cIn (evD d 70 [vR 2 0 50, vR 1 0 43, vI 1] M13) fun v22 M21 =>
                ic (v22 &&& 1 = v22) (
                  some (some (vI v22), M21)) none)) (
              cIn (evD d 69 [vR 10 0 49] M11) fun v24 M23 =>
              ic (v24 &&& 1 = v24) (
                some (some (vI v24), M23)) none)) (
            cIn (evD d 66 [vR 10 0 49] M9) fun v26 M25 =>
            ic (v26 &&& 1 = v26) (
              some (some (vI v26), M25)) none)) (
          cIn (evD d 62 [vR 10 0 49] M7) fun v28 M27 =>
          ic (v28 &&& 1 = v28) (
            some (some (vI v28), M27)) none)) (
        cIn (evD d 58 [vR 10 0 49] M5) fun v30 M29 =>
        ic (v30 &&& 1 = v30) (
          some (some (vI v30), M29)) none)) (
      cIn (evD d 56 [vR 10 0 49] M3) fun v32 M31 =>
      ic (v32 &&& 1 = v32) (
        some (some (vI v32), M31)) none)) (
    cIn (evD d 42 [vR 10 0 49] M1) fun v34 M33 =>
    ic (v34 &&& 1 = v34) (
      some (some (vI v34), M33)) none) := ((evD_step (d := d) (x := 34) (as := [vR 10 0 49]) (M := M) (md := (⟨"IceParliament$YardReader", "readLine", "()Z"⟩, prog_12_method_3_code, 1, (Option.some Jvm.ClassFile.FieldType.boolean), 10, 10)) rfl rfl).trans (j34 (evD d) (evp0 (lkE (codT 34)) (hdT 34) (evD d))  M))
-- IceParliament$Tape isWord(Ljava/lang/String;)Z
set_option maxRecDepth 100000 in
theorem j35 (call : Nat → List AV → Mem → Res) (back : Nat → Lv → Mem → Res) (is : Nat) (M : Mem) : evj (lkE cd_35) [41] call back 4000 0 [some (vR 7 0 1), some (vR 40 is (SB + is)), none, none] [] M =
  cIn (call 17 [vR 40 is (SB + is)] M) fun v2 M1 =>
  ic (M1.1 1 5 = 1) (
    ic ((M1.1 1 7) - (M1.1 1 6) = v2) (
      ic (M1.1 1 0 < M1.1 1 7) (
        ic ((0 : Int32) &&& 1 = 0) (
          some (some (vI 0), M1)) none) (
        back 41 [some (vR 7 0 1), some (vR 40 is (SB + is)), some (vI v2), some (vI 0)] M1)) (
      ic ((0 : Int32) &&& 1 = 0) (
        some (some (vI 0), M1)) none)) (
    ic ((0 : Int32) &&& 1 = 0) (
      some (some (vI 0), M1)) none) := rfl
set_option maxRecDepth 100000 in
theorem e35 (d : Nat) (is : Nat) (M : Mem) : evD (d + 1) 35 [vR 7 0 1, vR 40 is (SB + is)] M =
  cIn (evD d 17 [vR 40 is (SB + is)] M) fun v2 M1 =>
  ic (M1.1 1 5 = 1) (
    ic ((M1.1 1 7) - (M1.1 1 6) = v2) (
      ic (M1.1 1 0 < M1.1 1 7) (
        some (some (vI 0), M1)) (
        lp0 d 35 41 [some (vR 7 0 1), some (vR 40 is (SB + is)), some (vI v2), some (vI 0)] M1)) (
      some (some (vI 0), M1))) (
    some (some (vI 0), M1)) := ((evD_step (d := d) (x := 35) (as := [vR 7 0 1, vR 40 is (SB + is)]) (M := M) (md := (⟨"IceParliament$Tape", "isWord", "(Ljava/lang/String;)Z"⟩, prog_9_method_11_code, 4, (Option.some Jvm.ClassFile.FieldType.boolean), 7, 7)) rfl rfl).trans (j35 (evD d) (evp0 (lkE (codT 35)) (hdT 35) (evD d)) is M)).trans (by (try simp only [ic_t (show (0 : Int32) &&& 1 = 0 by decide)]))
set_option maxRecDepth 100000 in
theorem g35_41 (call : Nat → List AV → Mem → Res) (back : Nat → Lv → Mem → Res) (is : Nat) (l2 : Int32) (l3 : Int32) (M : Mem) : stepK call back (evj (lkE cd_35) [41] call back 4000) (.iload_n 3, 1, 3, 0, 0, 0, 0) 41 [some (vR 7 0 1), some (vR 40 is (SB + is)), some (vI l2), some (vI l3)] [] M =
  ic (l3 < l2) (
    ic ((M.1 1 6) + l3 < 0 ∨ 1000 ≤ ((M.1 1 6) + l3).toNatClampNeg) none (
      cIn (call 36 [vR 40 is (SB + is), vI l3] M) fun v2 M1 =>
      ic (M.1 2 ((M.1 1 6) + l3).toNatClampNeg = v2) (
        back 41 [some (vR 7 0 1), some (vR 40 is (SB + is)), some (vI l2), some (vI (l3 + 1))] M1) (
        ic ((0 : Int32) &&& 1 = 0) (
          some (some (vI 0), M1)) none))) (
    ic ((1 : Int32) &&& 1 = 1) (
      some (some (vI 1), M)) none) := rfl
set_option maxRecDepth 100000 in
theorem e35_41 (d F : Nat) (is : Nat) (l2 : Int32) (l3 : Int32) (M : Mem) : lp d 35 (F + 1) 41 [some (vR 7 0 1), some (vR 40 is (SB + is)), some (vI l2), some (vI l3)] M =
  ic (l3 < l2) (
    ic ((M.1 1 6) + l3 < 0 ∨ 1000 ≤ ((M.1 1 6) + l3).toNatClampNeg) none (
      cIn (evD d 36 [vR 40 is (SB + is), vI l3] M) fun v2 M1 =>
      ic (M.1 2 ((M.1 1 6) + l3).toNatClampNeg = v2) (
        lp d 35 F 41 [some (vR 7 0 1), some (vR 40 is (SB + is)), some (vI l2), some (vI (l3 + 1))] M1) (
        some (some (vI 0), M1)))) (
    some (some (vI 1), M)) := ((evp_step (code := lkE (codT 35)) (hd := hdT 35) (call := evD d) (F := F) (pc := 41) (lv := [some (vR 7 0 1), some (vR 40 is (SB + is)), some (vI l2), some (vI l3)]) (M := M) (e := (.iload_n 3, 1, 3, 0, 0, 0, 0)) rfl).trans (g35_41 (evD d) (evp (lkE (codT 35)) (hdT 35) (evD d) F) is l2 l3 M)).trans (by (try simp only [ic_t (show (1 : Int32) &&& 1 = 1 by decide), ic_t (show (0 : Int32) &&& 1 = 0 by decide)]))
-- java/lang/String charAt(I)C
set_option maxRecDepth 100000 in
theorem j36 (call : Nat → List AV → Mem → Res) (back : Nat → Lv → Mem → Res) (is : Nat) (p0 : Int32) (M : Mem) : evj (lkE cd_36) [] call back 4000 0 [some (vR 40 is (SB + is)), some (vI p0)] [] M =
  cIn (call 16 [vR 40 is (SB + is)] M) fun v2 M1 =>
  ic (v2 = 0) (
    cIn (call 40 [vR 41 (strL is) (SV + is), vI p0] M1) fun v4 M3 =>
    ic (vp_nar .char v4 = v4) (
      some (some (vI v4), M3)) none) (
    cIn (call 37 [vR 41 (strL is) (SV + is), vI p0] M1) fun v6 M5 =>
    ic (vp_nar .char v6 = v6) (
      some (some (vI v6), M5)) none) := rfl
set_option maxRecDepth 100000 in
theorem e36 (d : Nat) (is : Nat) (p0 : Int32) (M : Mem) : evD (d + 1) 36 [vR 40 is (SB + is), vI p0] M =
  cIn (evD d 16 [vR 40 is (SB + is)] M) fun v2 M1 =>
  ic (v2 = 0) (
    cIn (evD d 40 [vR 41 (strL is) (SV + is), vI p0] M1) fun v4 M3 =>
    ic (vp_nar .char v4 = v4) (
      some (some (vI v4), M3)) none) (
    cIn (evD d 37 [vR 41 (strL is) (SV + is), vI p0] M1) fun v6 M5 =>
    ic (vp_nar .char v6 = v6) (
      some (some (vI v6), M5)) none) := ((evD_step (d := d) (x := 36) (as := [vR 40 is (SB + is), vI p0]) (M := M) (md := (⟨"java/lang/String", "charAt", "(I)C"⟩, prog_23_method_56_code, 2, (Option.some Jvm.ClassFile.FieldType.char), 13, 40)) rfl rfl).trans (j36 (evD d) (evp0 (lkE (codT 36)) (hdT 36) (evD d)) is p0 M))
-- java/lang/StringLatin1 charAt([BI)C
set_option maxRecDepth 100000 in
theorem j37 (call : Nat → List AV → Mem → Res) (back : Nat → Lv → Mem → Res) (is : Nat) (p1 : Int32) (M : Mem) : evj (lkE cd_37) [] call back 4000 0 [some (vR 41 (strL is) (SV + is)), some (vI p1)] [] M =
  cVd (call 38 [vI p1, vI (Int32.ofNat (strL is))] M) fun M1 =>
  ic (p1 < 0 ∨ (strL is) ≤ p1.toNatClampNeg) none (
    ic (vp_nar .char ((((strB ((SV + is) - SV) p1.toNatClampNeg) &&& 255).toUInt32 % 65536).toInt32) = (((strB ((SV + is) - SV) p1.toNatClampNeg) &&& 255).toUInt32 % 65536).toInt32) (
      some (some (vI ((((strB ((SV + is) - SV) p1.toNatClampNeg) &&& 255).toUInt32 % 65536).toInt32)), M1)) none) := rfl
set_option maxRecDepth 100000 in
theorem e37 (d : Nat) (is : Nat) (p1 : Int32) (M : Mem) : evD (d + 1) 37 [vR 41 (strL is) (SV + is), vI p1] M =
  cVd (evD d 38 [vI p1, vI (Int32.ofNat (strL is))] M) fun M1 =>
  ic (p1 < 0 ∨ (strL is) ≤ p1.toNatClampNeg) none (
    ic (vp_nar .char ((((strB ((SV + is) - SV) p1.toNatClampNeg) &&& 255).toUInt32 % 65536).toInt32) = (((strB ((SV + is) - SV) p1.toNatClampNeg) &&& 255).toUInt32 % 65536).toInt32) (
      some (some (vI ((((strB ((SV + is) - SV) p1.toNatClampNeg) &&& 255).toUInt32 % 65536).toInt32)), M1)) none) := ((evD_step (d := d) (x := 37) (as := [vR 41 (strL is) (SV + is), vI p1]) (M := M) (md := (⟨"java/lang/StringLatin1", "charAt", "([BI)C"⟩, prog_24_method_2_code, 2, (Option.some Jvm.ClassFile.FieldType.char), 14, 99)) rfl rfl).trans (j37 (evD d) (evp0 (lkE (codT 37)) (hdT 37) (evD d)) is p1 M))
-- java/lang/String checkIndex(II)V
set_option maxRecDepth 100000 in
theorem j38 (call : Nat → List AV → Mem → Res) (back : Nat → Lv → Mem → Res) (p0 : Int32) (p1 : Int32) (M : Mem) : evj (lkE cd_38) [] call back 4000 0 [some (vI p0), some (vI p1)] [] M =
  cIn (call 39 [vI p0, vI p1, vR 50 0 SF0] M) fun v2 M1 =>
  some (none, M1) := rfl
set_option maxRecDepth 100000 in
theorem e38 (d : Nat) (p0 : Int32) (p1 : Int32) (M : Mem) : evD (d + 1) 38 [vI p0, vI p1] M =
  cIn (evD d 39 [vI p0, vI p1, vR 50 0 SF0] M) fun v2 M1 =>
  some (none, M1) := ((evD_step (d := d) (x := 38) (as := [vI p0, vI p1]) (M := M) (md := (⟨"java/lang/String", "checkIndex", "(II)V"⟩, prog_23_method_155_code, 2, (Option.none : Option Jvm.ClassFile.FieldType), 13, 99)) rfl rfl).trans (j38 (evD d) (evp0 (lkE (codT 38)) (hdT 38) (evD d)) p0 p1 M))
-- jdk/internal/util/Preconditions checkIndex(IILjava/util/function/BiFunction;)I
set_option maxRecDepth 100000 in
theorem j39 (call : Nat → List AV → Mem → Res) (back : Nat → Lv → Mem → Res) (p0 : Int32) (p1 : Int32) (M : Mem) : evj (lkE cd_39) [] call back 4000 0 [some (vI p0), some (vI p1), some (vR 50 0 SF0)] [] M =
  ic (p0 < 0) none (
    ic (p0 < p1) (
      some (some (vI p0), M)) none) := rfl
set_option maxRecDepth 100000 in
theorem e39 (d : Nat) (p0 : Int32) (p1 : Int32) (M : Mem) : evD (d + 1) 39 [vI p0, vI p1, vR 50 0 SF0] M =
  ic (p0 < 0) none (
    ic (p0 < p1) (
      some (some (vI p0), M)) none) := ((evD_step (d := d) (x := 39) (as := [vI p0, vI p1, vR 50 0 SF0]) (M := M) (md := (⟨"jdk/internal/util/Preconditions", "checkIndex", "(IILjava/util/function/BiFunction;)I"⟩, prog_32_method_11_code, 3, (Option.some Jvm.ClassFile.FieldType.int), 19, 99)) rfl rfl).trans (j39 (evD d) (evp0 (lkE (codT 39)) (hdT 39) (evD d)) p0 p1 M))
-- java/lang/StringUTF16 charAt([BI)C
set_option maxRecDepth 100000 in
theorem j40 (call : Nat → List AV → Mem → Res) (back : Nat → Lv → Mem → Res) (is : Nat) (p1 : Int32) (M : Mem) : evj (lkE cd_40) [] call back 4000 0 [some (vR 41 (strL is) (SV + is)), some (vI p1)] [] M =
  cVd (call 41 [vI p1, vR 41 (strL is) (SV + is)] M) fun M1 =>
  cIn (call 31 [vR 41 (strL is) (SV + is), vI p1] M1) fun v3 M2 =>
  ic (vp_nar .char v3 = v3) (
    some (some (vI v3), M2)) none := rfl
set_option maxRecDepth 100000 in
theorem e40 (d : Nat) (is : Nat) (p1 : Int32) (M : Mem) : evD (d + 1) 40 [vR 41 (strL is) (SV + is), vI p1] M =
  cVd (evD d 41 [vI p1, vR 41 (strL is) (SV + is)] M) fun M1 =>
  cIn (evD d 31 [vR 41 (strL is) (SV + is), vI p1] M1) fun v3 M2 =>
  ic (vp_nar .char v3 = v3) (
    some (some (vI v3), M2)) none := ((evD_step (d := d) (x := 40) (as := [vR 41 (strL is) (SV + is), vI p1]) (M := M) (md := (⟨"java/lang/StringUTF16", "charAt", "([BI)C"⟩, prog_25_method_83_code, 2, (Option.some Jvm.ClassFile.FieldType.char), 15, 99)) rfl rfl).trans (j40 (evD d) (evp0 (lkE (codT 40)) (hdT 40) (evD d)) is p1 M))
-- java/lang/StringUTF16 checkIndex(I[B)V
set_option maxRecDepth 100000 in
theorem j41 (call : Nat → List AV → Mem → Res) (back : Nat → Lv → Mem → Res) (p0 : Int32) (is : Nat) (M : Mem) : evj (lkE cd_41) [] call back 4000 0 [some (vI p0), some (vR 41 (strL is) (SV + is))] [] M =
  cIn (call 27 [vR 41 (strL is) (SV + is)] M) fun v2 M1 =>
  cVd (call 38 [vI p0, vI v2] M1) fun M3 =>
  some (none, M3) := rfl
set_option maxRecDepth 100000 in
theorem e41 (d : Nat) (p0 : Int32) (is : Nat) (M : Mem) : evD (d + 1) 41 [vI p0, vR 41 (strL is) (SV + is)] M =
  cIn (evD d 27 [vR 41 (strL is) (SV + is)] M) fun v2 M1 =>
  cVd (evD d 38 [vI p0, vI v2] M1) fun M3 =>
  some (none, M3) := ((evD_step (d := d) (x := 41) (as := [vI p0, vR 41 (strL is) (SV + is)]) (M := M) (md := (⟨"java/lang/StringUTF16", "checkIndex", "(I[B)V"⟩, prog_25_method_91_code, 2, (Option.none : Option Jvm.ClassFile.FieldType), 15, 99)) rfl rfl).trans (j41 (evD d) (evp0 (lkE (codT 41)) (hdT 41) (evD d)) p0 is M))
-- IceParliament$YardReader readSpot()Z
set_option maxRecDepth 100000 in
theorem j42 (call : Nat → List AV → Mem → Res) (back : Nat → Lv → Mem → Res)  (M : Mem) : evj (lkE cd_42) [] call back 4000 0 [some (vR 10 0 49), none] [] M =
  cIn (call 43 [vR 10 0 49, vR 4 0 27] M) fun v2 M1 =>
  ic (v2 = 0) (
    ic ((0 : Int32) &&& 1 = 0) (
      some (some (vI 0), M1)) none) (
    cIn (call 51 [vR 7 0 1, vR 40 3 (SB + 3), vI 0, vI 9, vR 20 6 33, vI (M.1 27 0)] M1) fun v4 M3 =>
    ic (v4 = 0) (
      ic ((0 : Int32) &&& 1 = 0) (
        some (some (vI 0), M3)) none) (
      cIn (call 54 [vR 7 0 1, vI 59] M3) fun v6 M5 =>
      ic (v6 = 0) (
        ic ((0 : Int32) &&& 1 = 0) (
          some (some (vI 0), M5)) none) (
        ic ((1 : Int32) &&& 1 = 1) (
          some (some (vI 1), M5)) none))) := rfl
set_option maxRecDepth 100000 in
theorem e42 (d : Nat)  (M : Mem) : evD (d + 1) 42 [vR 10 0 49] M =
  cIn (evD d 43 [vR 10 0 49, vR 4 0 27] M) fun v2 M1 =>
  ic (v2 = 0) (
    some (some (vI 0), M1)) (
    cIn (evD d 51 [vR 7 0 1, vR 40 3 (SB + 3), vI 0, vI 9, vR 20 6 33, vI (M.1 27 0)] M1) fun v4 M3 =>
    ic (v4 = 0) (
      some (some (vI 0), M3)) (
      cIn (evD d 54 [vR 7 0 1, vI 59] M3) fun v6 M5 =>
      ic (v6 = 0) (
        some (some (vI 0), M5)) (
        some (some (vI 1), M5)))) := ((evD_step (d := d) (x := 42) (as := [vR 10 0 49]) (M := M) (md := (⟨"IceParliament$YardReader", "readSpot", "()Z"⟩, prog_12_method_4_code, 2, (Option.some Jvm.ClassFile.FieldType.boolean), 10, 10)) rfl rfl).trans (j42 (evD d) (evp0 (lkE (codT 42)) (hdT 42) (evD d))  M)).trans (by (try simp only [ic_t (show (0 : Int32) &&& 1 = 0 by decide), ic_t (show (1 : Int32) &&& 1 = 1 by decide)]))
-- IceParliament$YardReader takeHead(LIceParliament$Roll;)Z
set_option maxRecDepth 100000 in
theorem j43 (call : Nat → List AV → Mem → Res) (back : Nat → Lv → Mem → Res) (kR : Nat) (M : Mem) : evj (lkE cd_43) [] call back 4000 0 [some (vR 10 0 49), some (vR 4 0 kR)] [] M =
  cIn (call 44 [vR 4 0 kR] M) fun v2 M1 =>
  ic (v2 = 0) (
    cVd (call 11 [vR 7 0 1] M1) fun M3 =>
    cIn (call 46 [vR 7 0 1, vR 9 0 26, vR 4 0 kR] M3) fun v5 M4 =>
    ic (v5 &&& 1 = v5) (
      some (some (vI v5), M4)) none) (
    cIn (call 45 [vR 7 0 1, vI 5] M1) fun v7 M6 =>
    ic (v7 &&& 1 = v7) (
      some (some (vI v7), M6)) none) := rfl
set_option maxRecDepth 100000 in
theorem e43 (d : Nat) (kR : Nat) (M : Mem) : evD (d + 1) 43 [vR 10 0 49, vR 4 0 kR] M =
  cIn (evD d 44 [vR 4 0 kR] M) fun v2 M1 =>
  ic (v2 = 0) (
    cVd (evD d 11 [vR 7 0 1] M1) fun M3 =>
    cIn (evD d 46 [vR 7 0 1, vR 9 0 26, vR 4 0 kR] M3) fun v5 M4 =>
    ic (v5 &&& 1 = v5) (
      some (some (vI v5), M4)) none) (
    cIn (evD d 45 [vR 7 0 1, vI 5] M1) fun v7 M6 =>
    ic (v7 &&& 1 = v7) (
      some (some (vI v7), M6)) none) := ((evD_step (d := d) (x := 43) (as := [vR 10 0 49, vR 4 0 kR]) (M := M) (md := (⟨"IceParliament$YardReader", "takeHead", "(LIceParliament$Roll;)Z"⟩, prog_12_method_7_code, 2, (Option.some Jvm.ClassFile.FieldType.boolean), 10, 10)) rfl rfl).trans (j43 (evD d) (evp0 (lkE (codT 43)) (hdT 43) (evD d)) kR M))
-- IceParliament$Roll isFull()Z
set_option maxRecDepth 100000 in
theorem j44 (call : Nat → List AV → Mem → Res) (back : Nat → Lv → Mem → Res) (kR : Nat) (M : Mem) : evj (lkE cd_44) [] call back 4000 0 [some (vR 4 0 kR)] [] M =
  ic (M.1 kR 0 < Int32.ofNat 6) (
    ic ((0 : Int32) &&& 1 = 0) (
      some (some (vI 0), M)) none) (
    ic ((1 : Int32) &&& 1 = 1) (
      some (some (vI 1), M)) none) := rfl
set_option maxRecDepth 100000 in
theorem e44 (d : Nat) (kR : Nat) (M : Mem) : evD (d + 1) 44 [vR 4 0 kR] M =
  ic (M.1 kR 0 < Int32.ofNat 6) (
    some (some (vI 0), M)) (
    some (some (vI 1), M)) := ((evD_step (d := d) (x := 44) (as := [vR 4 0 kR]) (M := M) (md := (⟨"IceParliament$Roll", "isFull", "()Z"⟩, prog_6_method_4_code, 1, (Option.some Jvm.ClassFile.FieldType.boolean), 4, 4)) rfl rfl).trans (j44 (evD d) (evp0 (lkE (codT 44)) (hdT 44) (evD d)) kR M)).trans (by (try simp only [ic_t (show (0 : Int32) &&& 1 = 0 by decide), ic_t (show (1 : Int32) &&& 1 = 1 by decide)]))
-- IceParliament$Tape wrong(I)Z
set_option maxRecDepth 100000 in
theorem j45 (call : Nat → List AV → Mem → Res) (back : Nat → Lv → Mem → Res) (p0 : Int32) (M : Mem) : evj (lkE cd_45) [] call back 4000 0 [some (vR 7 0 1), some (vI p0)] [] M =
  ic ((0 : Int32) &&& 1 = 0) (
    some (some (vI 0), sI M 1 1 (p0 + (16 * (M.1 1 6))))) none := rfl
set_option maxRecDepth 100000 in
theorem e45 (d : Nat) (p0 : Int32) (M : Mem) : evD (d + 1) 45 [vR 7 0 1, vI p0] M =
  some (some (vI 0), sI M 1 1 (p0 + (16 * (M.1 1 6)))) := ((evD_step (d := d) (x := 45) (as := [vR 7 0 1, vI p0]) (M := M) (md := (⟨"IceParliament$Tape", "wrong", "(I)Z"⟩, prog_9_method_13_code, 2, (Option.some Jvm.ClassFile.FieldType.boolean), 7, 7)) rfl rfl).trans (j45 (evD d) (evp0 (lkE (codT 45)) (hdT 45) (evD d)) p0 M)).trans (by (try simp only [ic_t (show (0 : Int32) &&& 1 = 0 by decide)]))
-- IceParliament$Tape takeNewName(LIceParliament$Yard;LIceParliament$Roll;)Z
set_option maxRecDepth 100000 in
theorem j46 (call : Nat → List AV → Mem → Res) (back : Nat → Lv → Mem → Res) (kY : Nat) (kR : Nat) (M : Mem) : evj (lkE cd_46) [] call back 4000 0 [some (vR 7 0 1), some (vR 9 0 kY), some (vR 4 0 kR)] [] M =
  cIn (call 47 [vR 7 0 1] M) fun v2 M1 =>
  ic (v2 = 0) (
    cIn (call 45 [vR 7 0 1, vI 1] M1) fun v10 M9 =>
    ic (v10 &&& 1 = v10) (
      some (some (vI v10), M9)) none) (
    cIn (call 48 [vR 9 0 kY, vJ (M1.2.1 1 8)] M1) fun v4 M3 =>
    ic (v4 = 0) (
      cVd (call 50 [vR 4 0 kR, vJ (M3.2.1 1 8)] M3) fun M5 =>
      cVd (call 11 [vR 7 0 1] M5) fun M6 =>
      ic ((1 : Int32) &&& 1 = 1) (
        some (some (vI 1), M6)) none) (
      cIn (call 45 [vR 7 0 1, vI 3] M3) fun v8 M7 =>
      ic (v8 &&& 1 = v8) (
        some (some (vI v8), M7)) none)) := rfl
set_option maxRecDepth 100000 in
theorem e46 (d : Nat) (kY : Nat) (kR : Nat) (M : Mem) : evD (d + 1) 46 [vR 7 0 1, vR 9 0 kY, vR 4 0 kR] M =
  cIn (evD d 47 [vR 7 0 1] M) fun v2 M1 =>
  ic (v2 = 0) (
    cIn (evD d 45 [vR 7 0 1, vI 1] M1) fun v10 M9 =>
    ic (v10 &&& 1 = v10) (
      some (some (vI v10), M9)) none) (
    cIn (evD d 48 [vR 9 0 kY, vJ (M1.2.1 1 8)] M1) fun v4 M3 =>
    ic (v4 = 0) (
      cVd (evD d 50 [vR 4 0 kR, vJ (M3.2.1 1 8)] M3) fun M5 =>
      cVd (evD d 11 [vR 7 0 1] M5) fun M6 =>
      some (some (vI 1), M6)) (
      cIn (evD d 45 [vR 7 0 1, vI 3] M3) fun v8 M7 =>
      ic (v8 &&& 1 = v8) (
        some (some (vI v8), M7)) none)) := ((evD_step (d := d) (x := 46) (as := [vR 7 0 1, vR 9 0 kY, vR 4 0 kR]) (M := M) (md := (⟨"IceParliament$Tape", "takeNewName", "(LIceParliament$Yard;LIceParliament$Roll;)Z"⟩, prog_9_method_18_code, 3, (Option.some Jvm.ClassFile.FieldType.boolean), 7, 7)) rfl rfl).trans (j46 (evD d) (evp0 (lkE (codT 46)) (hdT 46) (evD d)) kY kR M)).trans (by (try simp only [ic_t (show (1 : Int32) &&& 1 = 1 by decide)]))
-- IceParliament$Tape isName()Z
set_option maxRecDepth 100000 in
theorem j47 (call : Nat → List AV → Mem → Res) (back : Nat → Lv → Mem → Res)  (M : Mem) : evj (lkE cd_47) [14] call back 4000 0 [some (vR 7 0 1), none, none, none, none] [] M =
  ic (M.1 1 5 = 1) (
    back 14 [some (vR 7 0 1), some (vJ 0), none, some (vI 0), none] M) (
    ic ((0 : Int32) &&& 1 = 0) (
      some (some (vI 0), M)) none) := rfl
set_option maxRecDepth 100000 in
theorem e47 (d : Nat)  (M : Mem) : evD (d + 1) 47 [vR 7 0 1] M =
  ic (M.1 1 5 = 1) (
    lp0 d 47 14 [some (vR 7 0 1), some (vJ 0), none, some (vI 0), none] M) (
    some (some (vI 0), M)) := ((evD_step (d := d) (x := 47) (as := [vR 7 0 1]) (M := M) (md := (⟨"IceParliament$Tape", "isName", "()Z"⟩, prog_9_method_12_code, 5, (Option.some Jvm.ClassFile.FieldType.boolean), 7, 7)) rfl rfl).trans (j47 (evD d) (evp0 (lkE (codT 47)) (hdT 47) (evD d))  M)).trans (by (try simp only [ic_t (show (0 : Int32) &&& 1 = 0 by decide)]))
set_option maxRecDepth 100000 in
theorem g47_14 (call : Nat → List AV → Mem → Res) (back : Nat → Lv → Mem → Res) (l1 : Int64) (l3 : Int32) (o4 : Option AV) (M : Mem) : stepK call back (evj (lkE cd_47) [14] call back 4000) (.iload_n 3, 1, 3, 0, 0, 0, 0) 14 [some (vR 7 0 1), some (vJ l1), none, some (vI l3), o4] [] M =
  cIn (call 17 [vR 40 2 (SB + 2)] M) fun v2 M1 =>
  ic (l3 < v2) (
    cIn (call 36 [vR 40 2 (SB + 2), vI l3] M1) fun v4 M3 =>
    ic (v4 = 32) (
      ic (lg_cmp l1 (M3.2.1 1 8) = 0) (
        ic ((0 : Int32) &&& 1 = 0) (
          some (some (vI 0), M3)) none) (
        back 14 [some (vR 7 0 1), some (vJ 0), none, some (vI (l3 + 1)), some (vI v4)] M3)) (
      back 14 [some (vR 7 0 1), some (vJ ((l1 * 32) + (((v4 - 97) + 1).toInt64))), none, some (vI (l3 + 1)), some (vI v4)] M3)) (
    ic ((1 : Int32) &&& 1 = 1) (
      some (some (vI 1), M1)) none) := rfl
set_option maxRecDepth 100000 in
theorem e47_14 (d F : Nat) (l1 : Int64) (l3 : Int32) (o4 : Option AV) (M : Mem) : lp d 47 (F + 1) 14 [some (vR 7 0 1), some (vJ l1), none, some (vI l3), o4] M =
  cIn (evD d 17 [vR 40 2 (SB + 2)] M) fun v2 M1 =>
  ic (l3 < v2) (
    cIn (evD d 36 [vR 40 2 (SB + 2), vI l3] M1) fun v4 M3 =>
    ic (v4 = 32) (
      ic (lg_cmp l1 (M3.2.1 1 8) = 0) (
        some (some (vI 0), M3)) (
        lp d 47 F 14 [some (vR 7 0 1), some (vJ 0), none, some (vI (l3 + 1)), some (vI v4)] M3)) (
      lp d 47 F 14 [some (vR 7 0 1), some (vJ ((l1 * 32) + (((v4 - 97) + 1).toInt64))), none, some (vI (l3 + 1)), some (vI v4)] M3)) (
    some (some (vI 1), M1)) := ((evp_step (code := lkE (codT 47)) (hd := hdT 47) (call := evD d) (F := F) (pc := 14) (lv := [some (vR 7 0 1), some (vJ l1), none, some (vI l3), o4]) (M := M) (e := (.iload_n 3, 1, 3, 0, 0, 0, 0)) rfl).trans (g47_14 (evD d) (evp (lkE (codT 47)) (hdT 47) (evD d) F) l1 l3 o4 M)).trans (by (try simp only [ic_t (show (1 : Int32) &&& 1 = 1 by decide), ic_t (show (0 : Int32) &&& 1 = 0 by decide)]))
-- IceParliament$Yard knows(J)Z
set_option maxRecDepth 100000 in
theorem j48 (call : Nat → List AV → Mem → Res) (back : Nat → Lv → Mem → Res) (kY : Nat) (p0 : Int64) (M : Mem) : evj (lkE cd_48) [] call back 4000 0 [some (vR 9 0 kY), some (vJ p0), none] [] M =
  cIn (call 49 [vR 4 0 (kY + 1), vJ p0] M) fun v2 M1 =>
  ic (v2 = (-1)) (
    cIn (call 49 [vR 4 0 (kY + 3), vJ p0] M1) fun v4 M3 =>
    ic (v4 = (-1)) (
      cIn (call 49 [vR 4 0 (kY + 5), vJ p0] M3) fun v6 M5 =>
      ic (v6 = (-1)) (
        ic ((0 : Int32) &&& 1 = 0) (
          some (some (vI 0), M5)) none) (
        ic ((1 : Int32) &&& 1 = 1) (
          some (some (vI 1), M5)) none)) (
      ic ((1 : Int32) &&& 1 = 1) (
        some (some (vI 1), M3)) none)) (
    ic ((1 : Int32) &&& 1 = 1) (
      some (some (vI 1), M1)) none) := rfl
set_option maxRecDepth 100000 in
theorem e48 (d : Nat) (kY : Nat) (p0 : Int64) (M : Mem) : evD (d + 1) 48 [vR 9 0 kY, vJ p0] M =
  cIn (evD d 49 [vR 4 0 (kY + 1), vJ p0] M) fun v2 M1 =>
  ic (v2 = (-1)) (
    cIn (evD d 49 [vR 4 0 (kY + 3), vJ p0] M1) fun v4 M3 =>
    ic (v4 = (-1)) (
      cIn (evD d 49 [vR 4 0 (kY + 5), vJ p0] M3) fun v6 M5 =>
      ic (v6 = (-1)) (
        some (some (vI 0), M5)) (
        some (some (vI 1), M5))) (
      some (some (vI 1), M3))) (
    some (some (vI 1), M1)) := ((evD_step (d := d) (x := 48) (as := [vR 9 0 kY, vJ p0]) (M := M) (md := (⟨"IceParliament$Yard", "knows", "(J)Z"⟩, prog_11_method_4_code, 3, (Option.some Jvm.ClassFile.FieldType.boolean), 9, 9)) rfl rfl).trans (j48 (evD d) (evp0 (lkE (codT 48)) (hdT 48) (evD d)) kY p0 M)).trans (by (try simp only [ic_t (show (1 : Int32) &&& 1 = 1 by decide), ic_t (show (0 : Int32) &&& 1 = 0 by decide)]))
-- IceParliament$Roll find(J)I
set_option maxRecDepth 100000 in
theorem j49 (call : Nat → List AV → Mem → Res) (back : Nat → Lv → Mem → Res) (kR : Nat) (p0 : Int64) (M : Mem) : evj (lkE cd_49) [2] call back 4000 0 [some (vR 4 0 kR), some (vJ p0), none, none] [] M =
  back 2 [some (vR 4 0 kR), some (vJ p0), none, some (vI 0)] M := rfl
set_option maxRecDepth 100000 in
theorem e49 (d : Nat) (kR : Nat) (p0 : Int64) (M : Mem) : evD (d + 1) 49 [vR 4 0 kR, vJ p0] M =
  lp0 d 49 2 [some (vR 4 0 kR), some (vJ p0), none, some (vI 0)] M := ((evD_step (d := d) (x := 49) (as := [vR 4 0 kR, vJ p0]) (M := M) (md := (⟨"IceParliament$Roll", "find", "(J)I"⟩, prog_6_method_6_code, 4, (Option.some Jvm.ClassFile.FieldType.int), 4, 4)) rfl rfl).trans (j49 (evD d) (evp0 (lkE (codT 49)) (hdT 49) (evD d)) kR p0 M))
set_option maxRecDepth 100000 in
theorem g49_2 (call : Nat → List AV → Mem → Res) (back : Nat → Lv → Mem → Res) (kR : Nat) (l1 : Int64) (l3 : Int32) (M : Mem) : stepK call back (evj (lkE cd_49) [2] call back 4000) (.iload_n 3, 1, 3, 0, 0, 0, 0) 2 [some (vR 4 0 kR), some (vJ l1), none, some (vI l3)] [] M =
  ic (l3 < M.1 kR 0) (
    ic (l3 < 0 ∨ 6 ≤ l3.toNatClampNeg) none (
      ic (lg_cmp (M.2.1 (kR + 1) l3.toNatClampNeg) l1 = 0) (
        some (some (vI l3), M)) (
        back 2 [some (vR 4 0 kR), some (vJ l1), none, some (vI (l3 + 1))] M))) (
    some (some (vI (-1)), M)) := rfl
set_option maxRecDepth 100000 in
theorem e49_2 (d F : Nat) (kR : Nat) (l1 : Int64) (l3 : Int32) (M : Mem) : lp d 49 (F + 1) 2 [some (vR 4 0 kR), some (vJ l1), none, some (vI l3)] M =
  ic (l3 < M.1 kR 0) (
    ic (l3 < 0 ∨ 6 ≤ l3.toNatClampNeg) none (
      ic (lg_cmp (M.2.1 (kR + 1) l3.toNatClampNeg) l1 = 0) (
        some (some (vI l3), M)) (
        lp d 49 F 2 [some (vR 4 0 kR), some (vJ l1), none, some (vI (l3 + 1))] M))) (
    some (some (vI (-1)), M)) := ((evp_step (code := lkE (codT 49)) (hd := hdT 49) (call := evD d) (F := F) (pc := 2) (lv := [some (vR 4 0 kR), some (vJ l1), none, some (vI l3)]) (M := M) (e := (.iload_n 3, 1, 3, 0, 0, 0, 0)) rfl).trans (g49_2 (evD d) (evp (lkE (codT 49)) (hdT 49) (evD d) F) kR l1 l3 M))
-- IceParliament$Roll add(J)V
set_option maxRecDepth 100000 in
theorem j50 (call : Nat → List AV → Mem → Res) (back : Nat → Lv → Mem → Res) (kR : Nat) (p0 : Int64) (M : Mem) : evj (lkE cd_50) [] call back 4000 0 [some (vR 4 0 kR), some (vJ p0), none] [] M =
  ic (M.1 kR 0 < Int32.ofNat 6) (
    ic (M.1 kR 0 < 0 ∨ 6 ≤ (M.1 kR 0).toNatClampNeg) none (
      some (none, sI (sJ M (kR + 1) ((M.1 kR 0).toNatClampNeg) p0) kR 0 (((sJ M (kR + 1) ((M.1 kR 0).toNatClampNeg) p0).1 kR 0) + 1)))) (
    some (none, M)) := rfl
set_option maxRecDepth 100000 in
theorem e50 (d : Nat) (kR : Nat) (p0 : Int64) (M : Mem) : evD (d + 1) 50 [vR 4 0 kR, vJ p0] M =
  ic (M.1 kR 0 < Int32.ofNat 6) (
    ic (M.1 kR 0 < 0 ∨ 6 ≤ (M.1 kR 0).toNatClampNeg) none (
      some (none, sI (sJ M (kR + 1) ((M.1 kR 0).toNatClampNeg) p0) kR 0 (((sJ M (kR + 1) ((M.1 kR 0).toNatClampNeg) p0).1 kR 0) + 1)))) (
    some (none, M)) := ((evD_step (d := d) (x := 50) (as := [vR 4 0 kR, vJ p0]) (M := M) (md := (⟨"IceParliament$Roll", "add", "(J)V"⟩, prog_6_method_5_code, 3, (Option.none : Option Jvm.ClassFile.FieldType), 4, 4)) rfl rfl).trans (j50 (evD d) (evp0 (lkE (codT 50)) (hdT 50) (evD d)) kR p0 M))
-- IceParliament$Tape takeNumber(Ljava/lang/String;II[II)Z
set_option maxRecDepth 100000 in
theorem j51 (call : Nat → List AV → Mem → Res) (back : Nat → Lv → Mem → Res) (is : Nat) (p1 : Int32) (p2 : Int32) (n3 : Nat) (k3 : Nat) (p4 : Int32) (M : Mem) : evj (lkE cd_51) [] call back 4000 0 [some (vR 7 0 1), some (vR 40 is (SB + is)), some (vI p1), some (vI p2), some (vR 20 n3 k3), some (vI p4)] [] M =
  cIn (call 52 [vR 7 0 1, vR 40 is (SB + is)] M) fun v2 M1 =>
  ic (v2 = 0) (
    ic ((0 : Int32) &&& 1 = 0) (
      some (some (vI 0), M1)) none) (
    cIn (call 53 [vR 7 0 1, vI p1, vI p2] M1) fun v4 M3 =>
    ic (v4 = 0) (
      ic ((0 : Int32) &&& 1 = 0) (
        some (some (vI 0), M3)) none) (
      ic (p4 < 0) (
        cVd (call 11 [vR 7 0 1] M3) fun M5 =>
        ic ((1 : Int32) &&& 1 = 1) (
          some (some (vI 1), M5)) none) (
        ic (p4 < Int32.ofNat n3) (
          ic (p4 < 0 ∨ n3 ≤ p4.toNatClampNeg) none (
            cVd (call 11 [vR 7 0 1] (sI M3 k3 p4.toNatClampNeg (M3.1 1 2))) fun M7 =>
            ic ((1 : Int32) &&& 1 = 1) (
              some (some (vI 1), M7)) none)) (
          cVd (call 11 [vR 7 0 1] M3) fun M6 =>
          ic ((1 : Int32) &&& 1 = 1) (
            some (some (vI 1), M6)) none)))) := rfl
set_option maxRecDepth 100000 in
theorem e51 (d : Nat) (is : Nat) (p1 : Int32) (p2 : Int32) (n3 : Nat) (k3 : Nat) (p4 : Int32) (M : Mem) : evD (d + 1) 51 [vR 7 0 1, vR 40 is (SB + is), vI p1, vI p2, vR 20 n3 k3, vI p4] M =
  cIn (evD d 52 [vR 7 0 1, vR 40 is (SB + is)] M) fun v2 M1 =>
  ic (v2 = 0) (
    some (some (vI 0), M1)) (
    cIn (evD d 53 [vR 7 0 1, vI p1, vI p2] M1) fun v4 M3 =>
    ic (v4 = 0) (
      some (some (vI 0), M3)) (
      ic (p4 < 0) (
        cVd (evD d 11 [vR 7 0 1] M3) fun M5 =>
        some (some (vI 1), M5)) (
        ic (p4 < Int32.ofNat n3) (
          ic (p4 < 0 ∨ n3 ≤ p4.toNatClampNeg) none (
            cVd (evD d 11 [vR 7 0 1] (sI M3 k3 p4.toNatClampNeg (M3.1 1 2))) fun M7 =>
            some (some (vI 1), M7))) (
          cVd (evD d 11 [vR 7 0 1] M3) fun M6 =>
          some (some (vI 1), M6))))) := ((evD_step (d := d) (x := 51) (as := [vR 7 0 1, vR 40 is (SB + is), vI p1, vI p2, vR 20 n3 k3, vI p4]) (M := M) (md := (⟨"IceParliament$Tape", "takeNumber", "(Ljava/lang/String;II[II)Z"⟩, prog_9_method_17_code, 6, (Option.some Jvm.ClassFile.FieldType.boolean), 7, 7)) rfl rfl).trans (j51 (evD d) (evp0 (lkE (codT 51)) (hdT 51) (evD d)) is p1 p2 n3 k3 p4 M)).trans (by (try simp only [ic_t (show (0 : Int32) &&& 1 = 0 by decide), ic_t (show (1 : Int32) &&& 1 = 1 by decide)]))
-- IceParliament$Tape takeWord(Ljava/lang/String;)Z
set_option maxRecDepth 100000 in
theorem j52 (call : Nat → List AV → Mem → Res) (back : Nat → Lv → Mem → Res) (is : Nat) (M : Mem) : evj (lkE cd_52) [] call back 4000 0 [some (vR 7 0 1), some (vR 40 is (SB + is))] [] M =
  cIn (call 35 [vR 7 0 1, vR 40 is (SB + is)] M) fun v2 M1 =>
  ic (v2 = 0) (
    cIn (call 45 [vR 7 0 1, vI 1] M1) fun v5 M4 =>
    ic (v5 &&& 1 = v5) (
      some (some (vI v5), M4)) none) (
    cVd (call 11 [vR 7 0 1] M1) fun M3 =>
    ic ((1 : Int32) &&& 1 = 1) (
      some (some (vI 1), M3)) none) := rfl
set_option maxRecDepth 100000 in
theorem e52 (d : Nat) (is : Nat) (M : Mem) : evD (d + 1) 52 [vR 7 0 1, vR 40 is (SB + is)] M =
  cIn (evD d 35 [vR 7 0 1, vR 40 is (SB + is)] M) fun v2 M1 =>
  ic (v2 = 0) (
    cIn (evD d 45 [vR 7 0 1, vI 1] M1) fun v5 M4 =>
    ic (v5 &&& 1 = v5) (
      some (some (vI v5), M4)) none) (
    cVd (evD d 11 [vR 7 0 1] M1) fun M3 =>
    some (some (vI 1), M3)) := ((evD_step (d := d) (x := 52) (as := [vR 7 0 1, vR 40 is (SB + is)]) (M := M) (md := (⟨"IceParliament$Tape", "takeWord", "(Ljava/lang/String;)Z"⟩, prog_9_method_14_code, 2, (Option.some Jvm.ClassFile.FieldType.boolean), 7, 7)) rfl rfl).trans (j52 (evD d) (evp0 (lkE (codT 52)) (hdT 52) (evD d)) is M)).trans (by (try simp only [ic_t (show (1 : Int32) &&& 1 = 1 by decide)]))
-- IceParliament$Tape seeNumber(II)Z
set_option maxRecDepth 100000 in
theorem j53 (call : Nat → List AV → Mem → Res) (back : Nat → Lv → Mem → Res) (p0 : Int32) (p1 : Int32) (M : Mem) : evj (lkE cd_53) [] call back 4000 0 [some (vR 7 0 1), some (vI p0), some (vI p1)] [] M =
  ic (M.1 1 5 = 2) (
    ic (M.1 1 2 < p0) (
      cIn (call 45 [vR 7 0 1, vI 4] M) fun v2 M1 =>
      ic (v2 = 0) (
        ic ((0 : Int32) &&& 1 = 0) (
          some (some (vI 0), M1)) none) (
        ic ((1 : Int32) &&& 1 = 1) (
          some (some (vI 1), M1)) none)) (
      ic (p1 < M.1 1 2) (
        cIn (call 45 [vR 7 0 1, vI 4] M) fun v4 M3 =>
        ic (v4 = 0) (
          ic ((0 : Int32) &&& 1 = 0) (
            some (some (vI 0), M3)) none) (
          ic ((1 : Int32) &&& 1 = 1) (
            some (some (vI 1), M3)) none)) (
        ic ((1 : Int32) &&& 1 = 1) (
          some (some (vI 1), M)) none))) (
    cIn (call 45 [vR 7 0 1, vI 1] M) fun v6 M5 =>
    ic (v6 &&& 1 = v6) (
      some (some (vI v6), M5)) none) := rfl
set_option maxRecDepth 100000 in
theorem e53 (d : Nat) (p0 : Int32) (p1 : Int32) (M : Mem) : evD (d + 1) 53 [vR 7 0 1, vI p0, vI p1] M =
  ic (M.1 1 5 = 2) (
    ic (M.1 1 2 < p0) (
      cIn (evD d 45 [vR 7 0 1, vI 4] M) fun v2 M1 =>
      ic (v2 = 0) (
        some (some (vI 0), M1)) (
        some (some (vI 1), M1))) (
      ic (p1 < M.1 1 2) (
        cIn (evD d 45 [vR 7 0 1, vI 4] M) fun v4 M3 =>
        ic (v4 = 0) (
          some (some (vI 0), M3)) (
          some (some (vI 1), M3))) (
        some (some (vI 1), M)))) (
    cIn (evD d 45 [vR 7 0 1, vI 1] M) fun v6 M5 =>
    ic (v6 &&& 1 = v6) (
      some (some (vI v6), M5)) none) := ((evD_step (d := d) (x := 53) (as := [vR 7 0 1, vI p0, vI p1]) (M := M) (md := (⟨"IceParliament$Tape", "seeNumber", "(II)Z"⟩, prog_9_method_16_code, 3, (Option.some Jvm.ClassFile.FieldType.boolean), 7, 7)) rfl rfl).trans (j53 (evD d) (evp0 (lkE (codT 53)) (hdT 53) (evD d)) p0 p1 M)).trans (by (try simp only [ic_t (show (0 : Int32) &&& 1 = 0 by decide), ic_t (show (1 : Int32) &&& 1 = 1 by decide)]))
-- IceParliament$Tape takeSign(C)Z
set_option maxRecDepth 100000 in
theorem j54 (call : Nat → List AV → Mem → Res) (back : Nat → Lv → Mem → Res) (p0 : Int32) (M : Mem) : evj (lkE cd_54) [] call back 4000 0 [some (vR 7 0 1), some (vI p0)] [] M =
  cIn (call 55 [vR 7 0 1, vI p0] M) fun v2 M1 =>
  ic (v2 = 0) (
    cIn (call 45 [vR 7 0 1, vI 1] M1) fun v5 M4 =>
    ic (v5 &&& 1 = v5) (
      some (some (vI v5), M4)) none) (
    cVd (call 11 [vR 7 0 1] M1) fun M3 =>
    ic ((1 : Int32) &&& 1 = 1) (
      some (some (vI 1), M3)) none) := rfl
set_option maxRecDepth 100000 in
theorem e54 (d : Nat) (p0 : Int32) (M : Mem) : evD (d + 1) 54 [vR 7 0 1, vI p0] M =
  cIn (evD d 55 [vR 7 0 1, vI p0] M) fun v2 M1 =>
  ic (v2 = 0) (
    cIn (evD d 45 [vR 7 0 1, vI 1] M1) fun v5 M4 =>
    ic (v5 &&& 1 = v5) (
      some (some (vI v5), M4)) none) (
    cVd (evD d 11 [vR 7 0 1] M1) fun M3 =>
    some (some (vI 1), M3)) := ((evD_step (d := d) (x := 54) (as := [vR 7 0 1, vI p0]) (M := M) (md := (⟨"IceParliament$Tape", "takeSign", "(C)Z"⟩, prog_9_method_15_code, 2, (Option.some Jvm.ClassFile.FieldType.boolean), 7, 7)) rfl rfl).trans (j54 (evD d) (evp0 (lkE (codT 54)) (hdT 54) (evD d)) p0 M)).trans (by (try simp only [ic_t (show (1 : Int32) &&& 1 = 1 by decide)]))
-- IceParliament$Tape isSign(C)Z
set_option maxRecDepth 100000 in
theorem j55 (call : Nat → List AV → Mem → Res) (back : Nat → Lv → Mem → Res) (p0 : Int32) (M : Mem) : evj (lkE cd_55) [] call back 4000 0 [some (vR 7 0 1), some (vI p0)] [] M =
  ic (M.1 1 5 = 3) (
    ic (M.1 1 6 < M.1 1 0) (
      ic (M.1 1 6 < 0 ∨ 1000 ≤ (M.1 1 6).toNatClampNeg) none (
        ic (M.1 2 (M.1 1 6).toNatClampNeg = p0) (
          ic ((1 : Int32) &&& 1 = 1) (
            some (some (vI 1), M)) none) (
          ic ((0 : Int32) &&& 1 = 0) (
            some (some (vI 0), M)) none))) (
      ic ((0 : Int32) &&& 1 = 0) (
        some (some (vI 0), M)) none)) (
    ic ((0 : Int32) &&& 1 = 0) (
      some (some (vI 0), M)) none) := rfl
set_option maxRecDepth 100000 in
theorem e55 (d : Nat) (p0 : Int32) (M : Mem) : evD (d + 1) 55 [vR 7 0 1, vI p0] M =
  ic (M.1 1 5 = 3) (
    ic (M.1 1 6 < M.1 1 0) (
      ic (M.1 1 6 < 0 ∨ 1000 ≤ (M.1 1 6).toNatClampNeg) none (
        ic (M.1 2 (M.1 1 6).toNatClampNeg = p0) (
          some (some (vI 1), M)) (
          some (some (vI 0), M)))) (
      some (some (vI 0), M))) (
    some (some (vI 0), M)) := ((evD_step (d := d) (x := 55) (as := [vR 7 0 1, vI p0]) (M := M) (md := (⟨"IceParliament$Tape", "isSign", "(C)Z"⟩, prog_9_method_10_code, 2, (Option.some Jvm.ClassFile.FieldType.boolean), 7, 7)) rfl rfl).trans (j55 (evD d) (evp0 (lkE (codT 55)) (hdT 55) (evD d)) p0 M)).trans (by (try simp only [ic_t (show (0 : Int32) &&& 1 = 0 by decide), ic_t (show (1 : Int32) &&& 1 = 1 by decide)]))
-- IceParliament$YardReader readCarver()Z
set_option maxRecDepth 100000 in
theorem j56 (call : Nat → List AV → Mem → Res) (back : Nat → Lv → Mem → Res)  (M : Mem) : evj (lkE cd_56) [] call back 4000 0 [some (vR 10 0 49), none] [] M =
  cIn (call 43 [vR 10 0 49, vR 4 0 29] M) fun v2 M1 =>
  ic (v2 = 0) (
    ic ((0 : Int32) &&& 1 = 0) (
      some (some (vI 0), M1)) none) (
    cIn (call 57 [vR 10 0 49, vI (M.1 29 0)] M1) fun v4 M3 =>
    ic (v4 = 0) (
      ic ((0 : Int32) &&& 1 = 0) (
        some (some (vI 0), M3)) none) (
      cIn (call 51 [vR 7 0 1, vR 40 7 (SB + 7), vI 0, vI 9, vR 20 6 35, vI (M.1 29 0)] M3) fun v6 M5 =>
      ic (v6 = 0) (
        ic ((0 : Int32) &&& 1 = 0) (
          some (some (vI 0), M5)) none) (
        cIn (call 54 [vR 7 0 1, vI 59] M5) fun v8 M7 =>
        ic (v8 = 0) (
          ic ((0 : Int32) &&& 1 = 0) (
            some (some (vI 0), M7)) none) (
          ic ((1 : Int32) &&& 1 = 1) (
            some (some (vI 1), M7)) none)))) := rfl
set_option maxRecDepth 100000 in
theorem e56 (d : Nat)  (M : Mem) : evD (d + 1) 56 [vR 10 0 49] M =
  cIn (evD d 43 [vR 10 0 49, vR 4 0 29] M) fun v2 M1 =>
  ic (v2 = 0) (
    some (some (vI 0), M1)) (
    cIn (evD d 57 [vR 10 0 49, vI (M.1 29 0)] M1) fun v4 M3 =>
    ic (v4 = 0) (
      some (some (vI 0), M3)) (
      cIn (evD d 51 [vR 7 0 1, vR 40 7 (SB + 7), vI 0, vI 9, vR 20 6 35, vI (M.1 29 0)] M3) fun v6 M5 =>
      ic (v6 = 0) (
        some (some (vI 0), M5)) (
        cIn (evD d 54 [vR 7 0 1, vI 59] M5) fun v8 M7 =>
        ic (v8 = 0) (
          some (some (vI 0), M7)) (
          some (some (vI 1), M7))))) := ((evD_step (d := d) (x := 56) (as := [vR 10 0 49]) (M := M) (md := (⟨"IceParliament$YardReader", "readCarver", "()Z"⟩, prog_12_method_5_code, 2, (Option.some Jvm.ClassFile.FieldType.boolean), 10, 10)) rfl rfl).trans (j56 (evD d) (evp0 (lkE (codT 56)) (hdT 56) (evD d))  M)).trans (by (try simp only [ic_t (show (0 : Int32) &&& 1 = 0 by decide), ic_t (show (1 : Int32) &&& 1 = 1 by decide)]))
-- IceParliament$YardReader takeSide(I)Z
set_option maxRecDepth 100000 in
theorem j57 (call : Nat → List AV → Mem → Res) (back : Nat → Lv → Mem → Res) (p0 : Int32) (M : Mem) : evj (lkE cd_57) [] call back 4000 0 [some (vR 10 0 49), some (vI p0), none] [] M =
  cIn (call 35 [vR 7 0 1, vR 40 5 (SB + 5)] M) fun v2 M1 =>
  ic (v2 = 0) (
    cIn (call 35 [vR 7 0 1, vR 40 6 (SB + 6)] M1) fun v6 M5 =>
    ic (v6 = 0) (
      cIn (call 45 [vR 7 0 1, vI 1] M5) fun v10 M9 =>
      ic (v10 &&& 1 = v10) (
        some (some (vI v10), M9)) none) (
      ic (v2 = 0) (
        ic (p0 < 0 ∨ 6 ≤ p0.toNatClampNeg) none (
          cVd (call 11 [vR 7 0 1] (sI M5 34 p0.toNatClampNeg 0)) fun M7 =>
          ic ((1 : Int32) &&& 1 = 1) (
            some (some (vI 1), M7)) none)) (
        ic (p0 < 0 ∨ 6 ≤ p0.toNatClampNeg) none (
          cVd (call 11 [vR 7 0 1] (sI M5 34 p0.toNatClampNeg 1)) fun M8 =>
          ic ((1 : Int32) &&& 1 = 1) (
            some (some (vI 1), M8)) none)))) (
    ic (v2 = 0) (
      ic (p0 < 0 ∨ 6 ≤ p0.toNatClampNeg) none (
        cVd (call 11 [vR 7 0 1] (sI M1 34 p0.toNatClampNeg 0)) fun M3 =>
        ic ((1 : Int32) &&& 1 = 1) (
          some (some (vI 1), M3)) none)) (
      ic (p0 < 0 ∨ 6 ≤ p0.toNatClampNeg) none (
        cVd (call 11 [vR 7 0 1] (sI M1 34 p0.toNatClampNeg 1)) fun M4 =>
        ic ((1 : Int32) &&& 1 = 1) (
          some (some (vI 1), M4)) none))) := rfl
set_option maxRecDepth 100000 in
theorem e57 (d : Nat) (p0 : Int32) (M : Mem) : evD (d + 1) 57 [vR 10 0 49, vI p0] M =
  cIn (evD d 35 [vR 7 0 1, vR 40 5 (SB + 5)] M) fun v2 M1 =>
  ic (v2 = 0) (
    cIn (evD d 35 [vR 7 0 1, vR 40 6 (SB + 6)] M1) fun v6 M5 =>
    ic (v6 = 0) (
      cIn (evD d 45 [vR 7 0 1, vI 1] M5) fun v10 M9 =>
      ic (v10 &&& 1 = v10) (
        some (some (vI v10), M9)) none) (
      ic (v2 = 0) (
        ic (p0 < 0 ∨ 6 ≤ p0.toNatClampNeg) none (
          cVd (evD d 11 [vR 7 0 1] (sI M5 34 p0.toNatClampNeg 0)) fun M7 =>
          some (some (vI 1), M7))) (
        ic (p0 < 0 ∨ 6 ≤ p0.toNatClampNeg) none (
          cVd (evD d 11 [vR 7 0 1] (sI M5 34 p0.toNatClampNeg 1)) fun M8 =>
          some (some (vI 1), M8))))) (
    ic (v2 = 0) (
      ic (p0 < 0 ∨ 6 ≤ p0.toNatClampNeg) none (
        cVd (evD d 11 [vR 7 0 1] (sI M1 34 p0.toNatClampNeg 0)) fun M3 =>
        some (some (vI 1), M3))) (
      ic (p0 < 0 ∨ 6 ≤ p0.toNatClampNeg) none (
        cVd (evD d 11 [vR 7 0 1] (sI M1 34 p0.toNatClampNeg 1)) fun M4 =>
        some (some (vI 1), M4)))) := ((evD_step (d := d) (x := 57) (as := [vR 10 0 49, vI p0]) (M := M) (md := (⟨"IceParliament$YardReader", "takeSide", "(I)Z"⟩, prog_12_method_8_code, 3, (Option.some Jvm.ClassFile.FieldType.boolean), 10, 10)) rfl rfl).trans (j57 (evD d) (evp0 (lkE (codT 57)) (hdT 57) (evD d)) p0 M)).trans (by (try simp only [ic_t (show (1 : Int32) &&& 1 = 1 by decide)]))
-- IceParliament$YardReader readAct()Z
set_option maxRecDepth 100000 in
theorem j58 (call : Nat → List AV → Mem → Res) (back : Nat → Lv → Mem → Res)  (M : Mem) : evj (lkE cd_58) [] call back 4000 0 [some (vR 10 0 49), none] [] M =
  cIn (call 43 [vR 10 0 49, vR 4 0 31] M) fun v2 M1 =>
  ic (v2 = 0) (
    ic ((0 : Int32) &&& 1 = 0) (
      some (some (vI 0), M1)) none) (
    cIn (call 59 [vR 10 0 49, vI (M.1 31 0)] M1) fun v4 M3 =>
    ic (v4 = 0) (
      ic ((0 : Int32) &&& 1 = 0) (
        some (some (vI 0), M3)) none) (
      cIn (call 51 [vR 7 0 1, vR 40 13 (SB + 13), vI 1, vI 20, vR 20 6 37, vI (M.1 31 0)] M3) fun v6 M5 =>
      ic (v6 = 0) (
        ic ((0 : Int32) &&& 1 = 0) (
          some (some (vI 0), M5)) none) (
        cIn (call 51 [vR 7 0 1, vR 40 14 (SB + 14), vI 1, vI 99, vR 20 6 38, vI (M.1 31 0)] M5) fun v8 M7 =>
        ic (v8 = 0) (
          ic ((0 : Int32) &&& 1 = 0) (
            some (some (vI 0), M7)) none) (
          cIn (call 51 [vR 7 0 1, vR 40 15 (SB + 15), vI 0, vI 99, vR 20 6 39, vI (M.1 31 0)] M7) fun v10 M9 =>
          ic (v10 = 0) (
            ic ((0 : Int32) &&& 1 = 0) (
              some (some (vI 0), M9)) none) (
            cIn (call 52 [vR 7 0 1, vR 40 16 (SB + 16)] M9) fun v12 M11 =>
            ic (v12 = 0) (
              ic ((0 : Int32) &&& 1 = 0) (
                some (some (vI 0), M11)) none) (
              cIn (call 60 [vR 10 0 49, vI (M.1 31 0)] M11) fun v14 M13 =>
              ic (v14 = 0) (
                ic ((0 : Int32) &&& 1 = 0) (
                  some (some (vI 0), M13)) none) (
                cIn (call 54 [vR 7 0 1, vI 59] M13) fun v16 M15 =>
                ic (v16 = 0) (
                  ic ((0 : Int32) &&& 1 = 0) (
                    some (some (vI 0), M15)) none) (
                  ic ((1 : Int32) &&& 1 = 1) (
                    some (some (vI 1), M15)) none)))))))) := rfl
set_option maxRecDepth 100000 in
theorem e58 (d : Nat)  (M : Mem) : evD (d + 1) 58 [vR 10 0 49] M =
  cIn (evD d 43 [vR 10 0 49, vR 4 0 31] M) fun v2 M1 =>
  ic (v2 = 0) (
    some (some (vI 0), M1)) (
    cIn (evD d 59 [vR 10 0 49, vI (M.1 31 0)] M1) fun v4 M3 =>
    ic (v4 = 0) (
      some (some (vI 0), M3)) (
      cIn (evD d 51 [vR 7 0 1, vR 40 13 (SB + 13), vI 1, vI 20, vR 20 6 37, vI (M.1 31 0)] M3) fun v6 M5 =>
      ic (v6 = 0) (
        some (some (vI 0), M5)) (
        cIn (evD d 51 [vR 7 0 1, vR 40 14 (SB + 14), vI 1, vI 99, vR 20 6 38, vI (M.1 31 0)] M5) fun v8 M7 =>
        ic (v8 = 0) (
          some (some (vI 0), M7)) (
          cIn (evD d 51 [vR 7 0 1, vR 40 15 (SB + 15), vI 0, vI 99, vR 20 6 39, vI (M.1 31 0)] M7) fun v10 M9 =>
          ic (v10 = 0) (
            some (some (vI 0), M9)) (
            cIn (evD d 52 [vR 7 0 1, vR 40 16 (SB + 16)] M9) fun v12 M11 =>
            ic (v12 = 0) (
              some (some (vI 0), M11)) (
              cIn (evD d 60 [vR 10 0 49, vI (M.1 31 0)] M11) fun v14 M13 =>
              ic (v14 = 0) (
                some (some (vI 0), M13)) (
                cIn (evD d 54 [vR 7 0 1, vI 59] M13) fun v16 M15 =>
                ic (v16 = 0) (
                  some (some (vI 0), M15)) (
                  some (some (vI 1), M15))))))))) := ((evD_step (d := d) (x := 58) (as := [vR 10 0 49]) (M := M) (md := (⟨"IceParliament$YardReader", "readAct", "()Z"⟩, prog_12_method_6_code, 2, (Option.some Jvm.ClassFile.FieldType.boolean), 10, 10)) rfl rfl).trans (j58 (evD d) (evp0 (lkE (codT 58)) (hdT 58) (evD d))  M)).trans (by (try simp only [ic_t (show (0 : Int32) &&& 1 = 0 by decide), ic_t (show (1 : Int32) &&& 1 = 1 by decide)]))
-- IceParliament$YardReader takeKind(I)Z
set_option maxRecDepth 100000 in
theorem j59 (call : Nat → List AV → Mem → Res) (back : Nat → Lv → Mem → Res) (p0 : Int32) (M : Mem) : evj (lkE cd_59) [] call back 4000 0 [some (vR 10 0 49), some (vI p0)] [] M =
  cIn (call 35 [vR 7 0 1, vR 40 9 (SB + 9)] M) fun v2 M1 =>
  ic (v2 = 0) (
    cIn (call 35 [vR 7 0 1, vR 40 10 (SB + 10)] M1) fun v4 M3 =>
    ic (v4 = 0) (
      cIn (call 35 [vR 7 0 1, vR 40 11 (SB + 11)] M3) fun v6 M5 =>
      ic (v6 = 0) (
        cIn (call 35 [vR 7 0 1, vR 40 12 (SB + 12)] M5) fun v8 M7 =>
        ic (v8 = 0) (
          cIn (call 45 [vR 7 0 1, vI 1] M7) fun v10 M9 =>
          ic (v10 &&& 1 = v10) (
            some (some (vI v10), M9)) none) (
          ic (p0 < 0 ∨ 6 ≤ p0.toNatClampNeg) none (
            cVd (call 11 [vR 7 0 1] (sI M7 36 p0.toNatClampNeg 3)) fun M11 =>
            ic ((1 : Int32) &&& 1 = 1) (
              some (some (vI 1), M11)) none))) (
        ic (p0 < 0 ∨ 6 ≤ p0.toNatClampNeg) none (
          cVd (call 11 [vR 7 0 1] (sI M5 36 p0.toNatClampNeg 2)) fun M12 =>
          ic ((1 : Int32) &&& 1 = 1) (
            some (some (vI 1), M12)) none))) (
      ic (p0 < 0 ∨ 6 ≤ p0.toNatClampNeg) none (
        cVd (call 11 [vR 7 0 1] (sI M3 36 p0.toNatClampNeg 1)) fun M13 =>
        ic ((1 : Int32) &&& 1 = 1) (
          some (some (vI 1), M13)) none))) (
    ic (p0 < 0 ∨ 6 ≤ p0.toNatClampNeg) none (
      cVd (call 11 [vR 7 0 1] (sI M1 36 p0.toNatClampNeg 0)) fun M14 =>
      ic ((1 : Int32) &&& 1 = 1) (
        some (some (vI 1), M14)) none)) := rfl
set_option maxRecDepth 100000 in
theorem e59 (d : Nat) (p0 : Int32) (M : Mem) : evD (d + 1) 59 [vR 10 0 49, vI p0] M =
  cIn (evD d 35 [vR 7 0 1, vR 40 9 (SB + 9)] M) fun v2 M1 =>
  ic (v2 = 0) (
    cIn (evD d 35 [vR 7 0 1, vR 40 10 (SB + 10)] M1) fun v4 M3 =>
    ic (v4 = 0) (
      cIn (evD d 35 [vR 7 0 1, vR 40 11 (SB + 11)] M3) fun v6 M5 =>
      ic (v6 = 0) (
        cIn (evD d 35 [vR 7 0 1, vR 40 12 (SB + 12)] M5) fun v8 M7 =>
        ic (v8 = 0) (
          cIn (evD d 45 [vR 7 0 1, vI 1] M7) fun v10 M9 =>
          ic (v10 &&& 1 = v10) (
            some (some (vI v10), M9)) none) (
          ic (p0 < 0 ∨ 6 ≤ p0.toNatClampNeg) none (
            cVd (evD d 11 [vR 7 0 1] (sI M7 36 p0.toNatClampNeg 3)) fun M11 =>
            some (some (vI 1), M11)))) (
        ic (p0 < 0 ∨ 6 ≤ p0.toNatClampNeg) none (
          cVd (evD d 11 [vR 7 0 1] (sI M5 36 p0.toNatClampNeg 2)) fun M12 =>
          some (some (vI 1), M12)))) (
      ic (p0 < 0 ∨ 6 ≤ p0.toNatClampNeg) none (
        cVd (evD d 11 [vR 7 0 1] (sI M3 36 p0.toNatClampNeg 1)) fun M13 =>
        some (some (vI 1), M13)))) (
    ic (p0 < 0 ∨ 6 ≤ p0.toNatClampNeg) none (
      cVd (evD d 11 [vR 7 0 1] (sI M1 36 p0.toNatClampNeg 0)) fun M14 =>
      some (some (vI 1), M14))) := ((evD_step (d := d) (x := 59) (as := [vR 10 0 49, vI p0]) (M := M) (md := (⟨"IceParliament$YardReader", "takeKind", "(I)Z"⟩, prog_12_method_9_code, 2, (Option.some Jvm.ClassFile.FieldType.boolean), 10, 10)) rfl rfl).trans (j59 (evD d) (evp0 (lkE (codT 59)) (hdT 59) (evD d)) p0 M)).trans (by (try simp only [ic_t (show (1 : Int32) &&& 1 = 1 by decide)]))
-- IceParliament$YardReader takeMover(I)Z
set_option maxRecDepth 100000 in
theorem j60 (call : Nat → List AV → Mem → Res) (back : Nat → Lv → Mem → Res) (p0 : Int32) (M : Mem) : evj (lkE cd_60) [] call back 4000 0 [some (vR 10 0 49), some (vI p0)] [] M =
  cIn (call 61 [vR 7 0 1, vR 4 0 29] M) fun v2 M1 =>
  ic (v2 = 0) (
    ic ((0 : Int32) &&& 1 = 0) (
      some (some (vI 0), M1)) none) (
    ic (p0 < 0 ∨ 6 ≤ p0.toNatClampNeg) none (
      cVd (call 11 [vR 7 0 1] (sI M1 40 p0.toNatClampNeg (M1.1 1 3))) fun M3 =>
      ic ((1 : Int32) &&& 1 = 1) (
        some (some (vI 1), M3)) none)) := rfl
set_option maxRecDepth 100000 in
theorem e60 (d : Nat) (p0 : Int32) (M : Mem) : evD (d + 1) 60 [vR 10 0 49, vI p0] M =
  cIn (evD d 61 [vR 7 0 1, vR 4 0 29] M) fun v2 M1 =>
  ic (v2 = 0) (
    some (some (vI 0), M1)) (
    ic (p0 < 0 ∨ 6 ≤ p0.toNatClampNeg) none (
      cVd (evD d 11 [vR 7 0 1] (sI M1 40 p0.toNatClampNeg (M1.1 1 3))) fun M3 =>
      some (some (vI 1), M3))) := ((evD_step (d := d) (x := 60) (as := [vR 10 0 49, vI p0]) (M := M) (md := (⟨"IceParliament$YardReader", "takeMover", "(I)Z"⟩, prog_12_method_10_code, 2, (Option.some Jvm.ClassFile.FieldType.boolean), 10, 10)) rfl rfl).trans (j60 (evD d) (evp0 (lkE (codT 60)) (hdT 60) (evD d)) p0 M)).trans (by (try simp only [ic_t (show (1 : Int32) &&& 1 = 1 by decide), ic_t (show (0 : Int32) &&& 1 = 0 by decide)]))
-- IceParliament$Tape seeName(LIceParliament$Roll;)Z
set_option maxRecDepth 100000 in
theorem j61 (call : Nat → List AV → Mem → Res) (back : Nat → Lv → Mem → Res) (kR : Nat) (M : Mem) : evj (lkE cd_61) [] call back 4000 0 [some (vR 7 0 1), some (vR 4 0 kR)] [] M =
  cIn (call 47 [vR 7 0 1] M) fun v2 M1 =>
  ic (v2 = 0) (
    cIn (call 45 [vR 7 0 1, vI 1] M1) fun v8 M7 =>
    ic (v8 &&& 1 = v8) (
      some (some (vI v8), M7)) none) (
    cIn (call 49 [vR 4 0 kR, vJ (M1.2.1 1 8)] M1) fun v4 M3 =>
    ic ((sI M3 1 3 v4).1 1 3 = (-1)) (
      cIn (call 45 [vR 7 0 1, vI 2] (sI M3 1 3 v4)) fun v6 M5 =>
      ic (v6 = 0) (
        ic ((0 : Int32) &&& 1 = 0) (
          some (some (vI 0), M5)) none) (
        ic ((1 : Int32) &&& 1 = 1) (
          some (some (vI 1), M5)) none)) (
      ic ((1 : Int32) &&& 1 = 1) (
        some (some (vI 1), sI M3 1 3 v4)) none)) := rfl
set_option maxRecDepth 100000 in
theorem e61 (d : Nat) (kR : Nat) (M : Mem) : evD (d + 1) 61 [vR 7 0 1, vR 4 0 kR] M =
  cIn (evD d 47 [vR 7 0 1] M) fun v2 M1 =>
  ic (v2 = 0) (
    cIn (evD d 45 [vR 7 0 1, vI 1] M1) fun v8 M7 =>
    ic (v8 &&& 1 = v8) (
      some (some (vI v8), M7)) none) (
    cIn (evD d 49 [vR 4 0 kR, vJ (M1.2.1 1 8)] M1) fun v4 M3 =>
    ic ((sI M3 1 3 v4).1 1 3 = (-1)) (
      cIn (evD d 45 [vR 7 0 1, vI 2] (sI M3 1 3 v4)) fun v6 M5 =>
      ic (v6 = 0) (
        some (some (vI 0), M5)) (
        some (some (vI 1), M5))) (
      some (some (vI 1), sI M3 1 3 v4))) := ((evD_step (d := d) (x := 61) (as := [vR 7 0 1, vR 4 0 kR]) (M := M) (md := (⟨"IceParliament$Tape", "seeName", "(LIceParliament$Roll;)Z"⟩, prog_9_method_19_code, 2, (Option.some Jvm.ClassFile.FieldType.boolean), 7, 7)) rfl rfl).trans (j61 (evD d) (evp0 (lkE (codT 61)) (hdT 61) (evD d)) kR M)).trans (by (try simp only [ic_t (show (1 : Int32) &&& 1 = 1 by decide), ic_t (show (0 : Int32) &&& 1 = 0 by decide)]))
-- IceParliament$YardReader readClash()Z
set_option maxRecDepth 100000 in
theorem j62 (call : Nat → List AV → Mem → Res) (back : Nat → Lv → Mem → Res)  (M : Mem) : evj (lkE cd_62) [] call back 4000 0 [some (vR 10 0 49), none, none] [] M =
  cVd (call 11 [vR 7 0 1] M) fun M1 =>
  cIn (call 63 [vR 7 0 1, vR 4 0 31] M1) fun v3 M2 =>
  ic (v3 = 0) (
    ic ((0 : Int32) &&& 1 = 0) (
      some (some (vI 0), M2)) none) (
    cIn (call 61 [vR 7 0 1, vR 4 0 31] M2) fun v5 M4 =>
    ic (v5 = 0) (
      ic ((0 : Int32) &&& 1 = 0) (
        some (some (vI 0), M4)) none) (
      ic (M4.1 1 3 = M2.1 1 3) (
        cIn (call 45 [vR 7 0 1, vI 3] M4) fun v7 M6 =>
        ic (v7 &&& 1 = v7) (
          some (some (vI v7), M6)) none) (
        ic (M2.1 1 3 < 0 ∨ 6 ≤ (M2.1 1 3).toNatClampNeg) none (
          cIn (call 64 [vI (M4.1 41 (M2.1 1 3).toNatClampNeg), vI (M4.1 1 3)] M4) fun v9 M8 =>
          ic (v9 = 0) (
            cVd (call 65 [vR 9 0 26, vI (M2.1 1 3), vI (M4.1 1 3)] M8) fun M10 =>
            cVd (call 11 [vR 7 0 1] M10) fun M11 =>
            cIn (call 54 [vR 7 0 1, vI 59] M11) fun v13 M12 =>
            ic (v13 &&& 1 = v13) (
              some (some (vI v13), M12)) none) (
            cIn (call 45 [vR 7 0 1, vI 3] M8) fun v15 M14 =>
            ic (v15 &&& 1 = v15) (
              some (some (vI v15), M14)) none))))) := rfl
set_option maxRecDepth 100000 in
theorem e62 (d : Nat)  (M : Mem) : evD (d + 1) 62 [vR 10 0 49] M =
  cVd (evD d 11 [vR 7 0 1] M) fun M1 =>
  cIn (evD d 63 [vR 7 0 1, vR 4 0 31] M1) fun v3 M2 =>
  ic (v3 = 0) (
    some (some (vI 0), M2)) (
    cIn (evD d 61 [vR 7 0 1, vR 4 0 31] M2) fun v5 M4 =>
    ic (v5 = 0) (
      some (some (vI 0), M4)) (
      ic (M4.1 1 3 = M2.1 1 3) (
        cIn (evD d 45 [vR 7 0 1, vI 3] M4) fun v7 M6 =>
        ic (v7 &&& 1 = v7) (
          some (some (vI v7), M6)) none) (
        ic (M2.1 1 3 < 0 ∨ 6 ≤ (M2.1 1 3).toNatClampNeg) none (
          cIn (evD d 64 [vI (M4.1 41 (M2.1 1 3).toNatClampNeg), vI (M4.1 1 3)] M4) fun v9 M8 =>
          ic (v9 = 0) (
            cVd (evD d 65 [vR 9 0 26, vI (M2.1 1 3), vI (M4.1 1 3)] M8) fun M10 =>
            cVd (evD d 11 [vR 7 0 1] M10) fun M11 =>
            cIn (evD d 54 [vR 7 0 1, vI 59] M11) fun v13 M12 =>
            ic (v13 &&& 1 = v13) (
              some (some (vI v13), M12)) none) (
            cIn (evD d 45 [vR 7 0 1, vI 3] M8) fun v15 M14 =>
            ic (v15 &&& 1 = v15) (
              some (some (vI v15), M14)) none))))) := ((evD_step (d := d) (x := 62) (as := [vR 10 0 49]) (M := M) (md := (⟨"IceParliament$YardReader", "readClash", "()Z"⟩, prog_12_method_11_code, 3, (Option.some Jvm.ClassFile.FieldType.boolean), 10, 10)) rfl rfl).trans (j62 (evD d) (evp0 (lkE (codT 62)) (hdT 62) (evD d))  M)).trans (by (try simp only [ic_t (show (0 : Int32) &&& 1 = 0 by decide)]))
-- IceParliament$Tape takeName(LIceParliament$Roll;)Z
set_option maxRecDepth 100000 in
theorem j63 (call : Nat → List AV → Mem → Res) (back : Nat → Lv → Mem → Res) (kR : Nat) (M : Mem) : evj (lkE cd_63) [] call back 4000 0 [some (vR 7 0 1), some (vR 4 0 kR)] [] M =
  cIn (call 61 [vR 7 0 1, vR 4 0 kR] M) fun v2 M1 =>
  ic (v2 = 0) (
    ic ((0 : Int32) &&& 1 = 0) (
      some (some (vI 0), M1)) none) (
    cVd (call 11 [vR 7 0 1] M1) fun M3 =>
    ic ((1 : Int32) &&& 1 = 1) (
      some (some (vI 1), M3)) none) := rfl
set_option maxRecDepth 100000 in
theorem e63 (d : Nat) (kR : Nat) (M : Mem) : evD (d + 1) 63 [vR 7 0 1, vR 4 0 kR] M =
  cIn (evD d 61 [vR 7 0 1, vR 4 0 kR] M) fun v2 M1 =>
  ic (v2 = 0) (
    some (some (vI 0), M1)) (
    cVd (evD d 11 [vR 7 0 1] M1) fun M3 =>
    some (some (vI 1), M3)) := ((evD_step (d := d) (x := 63) (as := [vR 7 0 1, vR 4 0 kR]) (M := M) (md := (⟨"IceParliament$Tape", "takeName", "(LIceParliament$Roll;)Z"⟩, prog_9_method_20_code, 2, (Option.some Jvm.ClassFile.FieldType.boolean), 7, 7)) rfl rfl).trans (j63 (evD d) (evp0 (lkE (codT 63)) (hdT 63) (evD d)) kR M)).trans (by (try simp only [ic_t (show (1 : Int32) &&& 1 = 1 by decide), ic_t (show (0 : Int32) &&& 1 = 0 by decide)]))
-- IceParliament has(II)Z
set_option maxRecDepth 100000 in
theorem j64 (call : Nat → List AV → Mem → Res) (back : Nat → Lv → Mem → Res) (p0 : Int32) (p1 : Int32) (M : Mem) : evj (lkE cd_64) [] call back 4000 0 [some (vI p0), some (vI p1)] [] M =
  ic ((p0 >>> (p1 &&& 31)) &&& 1 = 1) (
    ic ((1 : Int32) &&& 1 = 1) (
      some (some (vI 1), M)) none) (
    ic ((0 : Int32) &&& 1 = 0) (
      some (some (vI 0), M)) none) := rfl
set_option maxRecDepth 100000 in
theorem e64 (d : Nat) (p0 : Int32) (p1 : Int32) (M : Mem) : evD (d + 1) 64 [vI p0, vI p1] M =
  ic ((p0 >>> (p1 &&& 31)) &&& 1 = 1) (
    some (some (vI 1), M)) (
    some (some (vI 0), M)) := ((evD_step (d := d) (x := 64) (as := [vI p0, vI p1]) (M := M) (md := (⟨"IceParliament", "has", "(II)Z"⟩, prog_1_method_38_code, 2, (Option.some Jvm.ClassFile.FieldType.boolean), 11, 99)) rfl rfl).trans (j64 (evD d) (evp0 (lkE (codT 64)) (hdT 64) (evD d)) p0 p1 M)).trans (by (try simp only [ic_t (show (0 : Int32) &&& 1 = 0 by decide), ic_t (show (1 : Int32) &&& 1 = 1 by decide)]))
-- IceParliament$Yard addClash(II)V
set_option maxRecDepth 100000 in
theorem j65 (call : Nat → List AV → Mem → Res) (back : Nat → Lv → Mem → Res) (kY : Nat) (p0 : Int32) (p1 : Int32) (M : Mem) : evj (lkE cd_65) [] call back 4000 0 [some (vR 9 0 kY), some (vI p0), some (vI p1)] [] M =
  ic (p0 < 0 ∨ 6 ≤ p0.toNatClampNeg) none (
    ic (p0 < 0 ∨ 6 ≤ p0.toNatClampNeg) none (
      ic (p1 < 0 ∨ 6 ≤ p1.toNatClampNeg) none (
        ic (p1 < 0 ∨ 6 ≤ p1.toNatClampNeg) none (
          some (none, sI (sI (sI M (kY + 15) p0.toNatClampNeg ((M.1 (kY + 15) p0.toNatClampNeg) ||| (1 <<< (p1 &&& 31)))) (kY + 15) p1.toNatClampNeg (((sI M (kY + 15) p0.toNatClampNeg ((M.1 (kY + 15) p0.toNatClampNeg) ||| (1 <<< (p1 &&& 31)))).1 (kY + 15) p1.toNatClampNeg) ||| (1 <<< (p0 &&& 31)))) kY 12 (((sI (sI M (kY + 15) p0.toNatClampNeg ((M.1 (kY + 15) p0.toNatClampNeg) ||| (1 <<< (p1 &&& 31)))) (kY + 15) p1.toNatClampNeg (((sI M (kY + 15) p0.toNatClampNeg ((M.1 (kY + 15) p0.toNatClampNeg) ||| (1 <<< (p1 &&& 31)))).1 (kY + 15) p1.toNatClampNeg) ||| (1 <<< (p0 &&& 31)))).1 kY 12) + 1)))))) := rfl
set_option maxRecDepth 100000 in
theorem e65 (d : Nat) (kY : Nat) (p0 : Int32) (p1 : Int32) (M : Mem) : evD (d + 1) 65 [vR 9 0 kY, vI p0, vI p1] M =
  ic (p0 < 0 ∨ 6 ≤ p0.toNatClampNeg) none (
    ic (p0 < 0 ∨ 6 ≤ p0.toNatClampNeg) none (
      ic (p1 < 0 ∨ 6 ≤ p1.toNatClampNeg) none (
        ic (p1 < 0 ∨ 6 ≤ p1.toNatClampNeg) none (
          some (none, sI (sI (sI M (kY + 15) p0.toNatClampNeg ((M.1 (kY + 15) p0.toNatClampNeg) ||| (1 <<< (p1 &&& 31)))) (kY + 15) p1.toNatClampNeg (((sI M (kY + 15) p0.toNatClampNeg ((M.1 (kY + 15) p0.toNatClampNeg) ||| (1 <<< (p1 &&& 31)))).1 (kY + 15) p1.toNatClampNeg) ||| (1 <<< (p0 &&& 31)))) kY 12 (((sI (sI M (kY + 15) p0.toNatClampNeg ((M.1 (kY + 15) p0.toNatClampNeg) ||| (1 <<< (p1 &&& 31)))) (kY + 15) p1.toNatClampNeg (((sI M (kY + 15) p0.toNatClampNeg ((M.1 (kY + 15) p0.toNatClampNeg) ||| (1 <<< (p1 &&& 31)))).1 (kY + 15) p1.toNatClampNeg) ||| (1 <<< (p0 &&& 31)))).1 kY 12) + 1)))))) := ((evD_step (d := d) (x := 65) (as := [vR 9 0 kY, vI p0, vI p1]) (M := M) (md := (⟨"IceParliament$Yard", "addClash", "(II)V"⟩, prog_11_method_5_code, 3, (Option.none : Option Jvm.ClassFile.FieldType), 9, 9)) rfl rfl).trans (j65 (evD d) (evp0 (lkE (codT 65)) (hdT 65) (evD d)) kY p0 p1 M))
-- IceParliament$YardReader readNights()Z
set_option maxRecDepth 100000 in
theorem j66 (call : Nat → List AV → Mem → Res) (back : Nat → Lv → Mem → Res)  (M : Mem) : evj (lkE cd_66) [28] call back 4000 0 [some (vR 10 0 49), none] [] M =
  ic (0 < M.1 26 14) (
    cIn (call 45 [vR 7 0 1, vI 3] M) fun v3 M2 =>
    ic (v3 &&& 1 = v3) (
      some (some (vI v3), M2)) none) (
    cVd (call 11 [vR 7 0 1] M) fun M1 =>
    back 28 [some (vR 10 0 49), some (vI 0)] M1) := rfl
set_option maxRecDepth 100000 in
theorem e66 (d : Nat)  (M : Mem) : evD (d + 1) 66 [vR 10 0 49] M =
  ic (0 < M.1 26 14) (
    cIn (evD d 45 [vR 7 0 1, vI 3] M) fun v3 M2 =>
    ic (v3 &&& 1 = v3) (
      some (some (vI v3), M2)) none) (
    cVd (evD d 11 [vR 7 0 1] M) fun M1 =>
    lp0 d 66 28 [some (vR 10 0 49), some (vI 0)] M1) := ((evD_step (d := d) (x := 66) (as := [vR 10 0 49]) (M := M) (md := (⟨"IceParliament$YardReader", "readNights", "()Z"⟩, prog_12_method_12_code, 2, (Option.some Jvm.ClassFile.FieldType.boolean), 10, 10)) rfl rfl).trans (j66 (evD d) (evp0 (lkE (codT 66)) (hdT 66) (evD d))  M))
set_option maxRecDepth 100000 in
theorem g66_28 (call : Nat → List AV → Mem → Res) (back : Nat → Lv → Mem → Res) (l1 : Int32) (M : Mem) : stepK call back (evj (lkE cd_66) [28] call back 4000) (.iload_n 1, 1, 1, 0, 0, 0, 0) 28 [some (vR 10 0 49), some (vI l1)] [] M =
  ic (14 < l1) (
    cIn (call 54 [vR 7 0 1, vI 59] M) fun v2 M1 =>
    ic (v2 &&& 1 = v2) (
      some (some (vI v2), M1)) none) (
    ic (l1 = 0) (
      cIn (call 53 [vR 7 0 1, vI 0, vI 9] M) fun v4 M3 =>
      ic (v4 = 0) (
        ic ((0 : Int32) &&& 1 = 0) (
          some (some (vI 0), M3)) none) (
        ic (l1 = 14) (
          cIn (call 45 [vR 7 0 1, vI 5] M3) fun v8 M7 =>
          ic (v8 &&& 1 = v8) (
            some (some (vI v8), M7)) none) (
          cVd (call 68 [vR 9 0 26, vI (M3.1 1 2)] M3) fun M5 =>
          cVd (call 11 [vR 7 0 1] M5) fun M6 =>
          back 28 [some (vR 10 0 49), some (vI (l1 + 1))] M6))) (
      cIn (call 67 [vR 7 0 1] M) fun v10 M9 =>
      ic (v10 = 0) (
        cIn (call 54 [vR 7 0 1, vI 59] M9) fun v12 M11 =>
        ic (v12 &&& 1 = v12) (
          some (some (vI v12), M11)) none) (
        cIn (call 53 [vR 7 0 1, vI 0, vI 9] M9) fun v14 M13 =>
        ic (v14 = 0) (
          ic ((0 : Int32) &&& 1 = 0) (
            some (some (vI 0), M13)) none) (
          ic (l1 = 14) (
            cIn (call 45 [vR 7 0 1, vI 5] M13) fun v18 M17 =>
            ic (v18 &&& 1 = v18) (
              some (some (vI v18), M17)) none) (
            cVd (call 68 [vR 9 0 26, vI (M13.1 1 2)] M13) fun M15 =>
            cVd (call 11 [vR 7 0 1] M15) fun M16 =>
            back 28 [some (vR 10 0 49), some (vI (l1 + 1))] M16))))) := rfl
set_option maxRecDepth 100000 in
theorem e66_28 (d F : Nat) (l1 : Int32) (M : Mem) : lp d 66 (F + 1) 28 [some (vR 10 0 49), some (vI l1)] M =
  ic (14 < l1) (
    cIn (evD d 54 [vR 7 0 1, vI 59] M) fun v2 M1 =>
    ic (v2 &&& 1 = v2) (
      some (some (vI v2), M1)) none) (
    ic (l1 = 0) (
      cIn (evD d 53 [vR 7 0 1, vI 0, vI 9] M) fun v4 M3 =>
      ic (v4 = 0) (
        some (some (vI 0), M3)) (
        ic (l1 = 14) (
          cIn (evD d 45 [vR 7 0 1, vI 5] M3) fun v8 M7 =>
          ic (v8 &&& 1 = v8) (
            some (some (vI v8), M7)) none) (
          cVd (evD d 68 [vR 9 0 26, vI (M3.1 1 2)] M3) fun M5 =>
          cVd (evD d 11 [vR 7 0 1] M5) fun M6 =>
          lp d 66 F 28 [some (vR 10 0 49), some (vI (l1 + 1))] M6))) (
      cIn (evD d 67 [vR 7 0 1] M) fun v10 M9 =>
      ic (v10 = 0) (
        cIn (evD d 54 [vR 7 0 1, vI 59] M9) fun v12 M11 =>
        ic (v12 &&& 1 = v12) (
          some (some (vI v12), M11)) none) (
        cIn (evD d 53 [vR 7 0 1, vI 0, vI 9] M9) fun v14 M13 =>
        ic (v14 = 0) (
          some (some (vI 0), M13)) (
          ic (l1 = 14) (
            cIn (evD d 45 [vR 7 0 1, vI 5] M13) fun v18 M17 =>
            ic (v18 &&& 1 = v18) (
              some (some (vI v18), M17)) none) (
            cVd (evD d 68 [vR 9 0 26, vI (M13.1 1 2)] M13) fun M15 =>
            cVd (evD d 11 [vR 7 0 1] M15) fun M16 =>
            lp d 66 F 28 [some (vR 10 0 49), some (vI (l1 + 1))] M16))))) := ((evp_step (code := lkE (codT 66)) (hd := hdT 66) (call := evD d) (F := F) (pc := 28) (lv := [some (vR 10 0 49), some (vI l1)]) (M := M) (e := (.iload_n 1, 1, 1, 0, 0, 0, 0)) rfl).trans (g66_28 (evD d) (evp (lkE (codT 66)) (hdT 66) (evD d) F) l1 M)).trans (by (try simp only [ic_t (show (0 : Int32) &&& 1 = 0 by decide)]))
-- IceParliament$Tape isNumber()Z
set_option maxRecDepth 100000 in
theorem j67 (call : Nat → List AV → Mem → Res) (back : Nat → Lv → Mem → Res)  (M : Mem) : evj (lkE cd_67) [] call back 4000 0 [some (vR 7 0 1)] [] M =
  ic (M.1 1 5 = 2) (
    ic ((1 : Int32) &&& 1 = 1) (
      some (some (vI 1), M)) none) (
    ic ((0 : Int32) &&& 1 = 0) (
      some (some (vI 0), M)) none) := rfl
set_option maxRecDepth 100000 in
theorem e67 (d : Nat)  (M : Mem) : evD (d + 1) 67 [vR 7 0 1] M =
  ic (M.1 1 5 = 2) (
    some (some (vI 1), M)) (
    some (some (vI 0), M)) := ((evD_step (d := d) (x := 67) (as := [vR 7 0 1]) (M := M) (md := (⟨"IceParliament$Tape", "isNumber", "()Z"⟩, prog_9_method_9_code, 1, (Option.some Jvm.ClassFile.FieldType.boolean), 7, 7)) rfl rfl).trans (j67 (evD d) (evp0 (lkE (codT 67)) (hdT 67) (evD d))  M)).trans (by (try simp only [ic_t (show (0 : Int32) &&& 1 = 0 by decide), ic_t (show (1 : Int32) &&& 1 = 1 by decide)]))
-- IceParliament$Yard addNight(I)V
set_option maxRecDepth 100000 in
theorem j68 (call : Nat → List AV → Mem → Res) (back : Nat → Lv → Mem → Res) (kY : Nat) (p0 : Int32) (M : Mem) : evj (lkE cd_68) [] call back 4000 0 [some (vR 9 0 kY), some (vI p0)] [] M =
  ic (M.1 kY 14 < Int32.ofNat 14) (
    ic (M.1 kY 14 < 0 ∨ 14 ≤ (M.1 kY 14).toNatClampNeg) none (
      some (none, sI (sI M (kY + 16) ((M.1 kY 14).toNatClampNeg) p0) kY 14 (((sI M (kY + 16) ((M.1 kY 14).toNatClampNeg) p0).1 kY 14) + 1)))) (
    some (none, M)) := rfl
set_option maxRecDepth 100000 in
theorem e68 (d : Nat) (kY : Nat) (p0 : Int32) (M : Mem) : evD (d + 1) 68 [vR 9 0 kY, vI p0] M =
  ic (M.1 kY 14 < Int32.ofNat 14) (
    ic (M.1 kY 14 < 0 ∨ 14 ≤ (M.1 kY 14).toNatClampNeg) none (
      some (none, sI (sI M (kY + 16) ((M.1 kY 14).toNatClampNeg) p0) kY 14 (((sI M (kY + 16) ((M.1 kY 14).toNatClampNeg) p0).1 kY 14) + 1)))) (
    some (none, M)) := ((evD_step (d := d) (x := 68) (as := [vR 9 0 kY, vI p0]) (M := M) (md := (⟨"IceParliament$Yard", "addNight", "(I)V"⟩, prog_11_method_6_code, 2, (Option.none : Option Jvm.ClassFile.FieldType), 9, 9)) rfl rfl).trans (j68 (evD d) (evp0 (lkE (codT 68)) (hdT 68) (evD d)) kY p0 M))
-- IceParliament$YardReader readMild()Z
set_option maxRecDepth 100000 in
theorem j69 (call : Nat → List AV → Mem → Res) (back : Nat → Lv → Mem → Res)  (M : Mem) : evj (lkE cd_69) [] call back 4000 0 [some (vR 10 0 49)] [] M =
  ic (M.1 49 3 = 0) (
    ic ((1 : Int32) &&& 1 = 1) (
      cVd (call 11 [vR 7 0 1] (sI M 49 3 1)) fun M1 =>
      cIn (call 53 [vR 7 0 1, vI 0, vI 10] M1) fun v3 M2 =>
      ic (v3 = 0) (
        ic ((0 : Int32) &&& 1 = 0) (
          some (some (vI 0), M2)) none) (
        cVd (call 11 [vR 7 0 1] (sI M2 26 15 (M2.1 1 2))) fun M4 =>
        cIn (call 54 [vR 7 0 1, vI 59] M4) fun v6 M5 =>
        ic (v6 &&& 1 = v6) (
          some (some (vI v6), M5)) none)) none) (
    cIn (call 45 [vR 7 0 1, vI 3] M) fun v8 M7 =>
    ic (v8 &&& 1 = v8) (
      some (some (vI v8), M7)) none) := rfl
set_option maxRecDepth 100000 in
theorem e69 (d : Nat)  (M : Mem) : evD (d + 1) 69 [vR 10 0 49] M =
  ic (M.1 49 3 = 0) (
    cVd (evD d 11 [vR 7 0 1] (sI M 49 3 1)) fun M1 =>
    cIn (evD d 53 [vR 7 0 1, vI 0, vI 10] M1) fun v3 M2 =>
    ic (v3 = 0) (
      some (some (vI 0), M2)) (
      cVd (evD d 11 [vR 7 0 1] (sI M2 26 15 (M2.1 1 2))) fun M4 =>
      cIn (evD d 54 [vR 7 0 1, vI 59] M4) fun v6 M5 =>
      ic (v6 &&& 1 = v6) (
        some (some (vI v6), M5)) none)) (
    cIn (evD d 45 [vR 7 0 1, vI 3] M) fun v8 M7 =>
    ic (v8 &&& 1 = v8) (
      some (some (vI v8), M7)) none) := ((evD_step (d := d) (x := 69) (as := [vR 10 0 49]) (M := M) (md := (⟨"IceParliament$YardReader", "readMild", "()Z"⟩, prog_12_method_13_code, 1, (Option.some Jvm.ClassFile.FieldType.boolean), 10, 10)) rfl rfl).trans (j69 (evD d) (evp0 (lkE (codT 69)) (hdT 69) (evD d))  M)).trans (by (try simp only [ic_t (show (1 : Int32) &&& 1 = 1 by decide), ic_t (show (0 : Int32) &&& 1 = 0 by decide)]))
-- IceParliament$LawReader readInto(LIceParliament$Law;Z)Z
set_option maxRecDepth 100000 in
theorem j70 (call : Nat → List AV → Mem → Res) (back : Nat → Lv → Mem → Res) (kL : Nat) (p1 : Int32) (M : Mem) : evj (lkE cd_70) [54] call back 4000 0 [some (vR 2 0 50), some (vR 1 0 kL), some (vI p1), none, none] [] M =
  ic (M.1 kL 0 = 0) (
    ic (p1 &&& 1 = p1) (
      cVd (call 3 [vR 1 0 kL] (sI (sR M 50 4 kL) 50 5 p1)) fun M1 =>
      ic ((1 : Int32) &&& 1 = 1) (
        cVd (call 11 [vR 7 0 1] (sI M1 kL 0 1)) fun M2 =>
        back 54 [some (vR 2 0 50), some (vR 1 0 kL), some (vI p1), some (vI 0), none] (sI (sI M2 50 2 0) 50 3 0)) none) none) (
    cIn (call 45 [vR 7 0 1, vI 3] M) fun v4 M3 =>
    ic (v4 &&& 1 = v4) (
      some (some (vI v4), M3)) none) := rfl
set_option maxRecDepth 100000 in
theorem e70 (d : Nat) (kL : Nat) (p1 : Int32) (M : Mem) : evD (d + 1) 70 [vR 2 0 50, vR 1 0 kL, vI p1] M =
  ic (M.1 kL 0 = 0) (
    ic (p1 &&& 1 = p1) (
      cVd (evD d 3 [vR 1 0 kL] (sI (sR M 50 4 kL) 50 5 p1)) fun M1 =>
      cVd (evD d 11 [vR 7 0 1] (sI M1 kL 0 1)) fun M2 =>
      lp0 d 70 54 [some (vR 2 0 50), some (vR 1 0 kL), some (vI p1), some (vI 0), none] (sI (sI M2 50 2 0) 50 3 0)) none) (
    cIn (evD d 45 [vR 7 0 1, vI 3] M) fun v4 M3 =>
    ic (v4 &&& 1 = v4) (
      some (some (vI v4), M3)) none) := ((evD_step (d := d) (x := 70) (as := [vR 2 0 50, vR 1 0 kL, vI p1]) (M := M) (md := (⟨"IceParliament$LawReader", "readInto", "(LIceParliament$Law;Z)Z"⟩, prog_4_method_2_code, 5, (Option.some Jvm.ClassFile.FieldType.boolean), 2, 2)) rfl rfl).trans (j70 (evD d) (evp0 (lkE (codT 70)) (hdT 70) (evD d)) kL p1 M)).trans (by (try simp only [ic_t (show (1 : Int32) &&& 1 = 1 by decide)]))
set_option maxRecDepth 100000 in
theorem g70_54a (call : Nat → List AV → Mem → Res) (back : Nat → Lv → Mem → Res) (o1 : Option AV) (l3 : Int32) (o4 : Option AV) (M : Mem) : stepK call back (evj (lkE cd_70) [54] call back 4000) (.iload_n 3, 1, 3, 0, 0, 0, 0) 54 [some (vR 2 0 50), o1, none, some (vI l3), o4] [] M =
  ic (l3 < 1000) (
    cIn (call 71 [vR 2 0 50] M) fun v4 M3 =>
    ic (v4 = 0) (
      ic ((0 : Int32) &&& 1 = 0) (
        some (some (vI 0), M3)) none) (
      cIn (call 73 [vR 2 0 50] M3) fun v6 M5 =>
      ic (v6 = 0) (
        ic ((0 : Int32) &&& 1 = 0) (
          some (some (vI 0), M5)) none) (
        cVd (call 76 [vR 2 0 50] M5) fun M7 =>
        cIn (call 79 [vR 2 0 50] M7) fun v9 M8 =>
        ic (v9 = (-1)) (
          cIn (call 80 [vR 2 0 50] M8) fun v13 M12 =>
          ic (v13 &&& 1 = v13) (
            some (some (vI v13), M12)) none) (
          cIn (call 81 [vR 2 0 50, vI v9] M8) fun v11 M10 =>
          ic (v11 = 0) (
            ic ((0 : Int32) &&& 1 = 0) (
              some (some (vI 0), M10)) none) (
            back 54 [some (vR 2 0 50), o1, none, some (vI (l3 + 1)), some (vI v9)] M10))))) (
    cIn (call 45 [vR 7 0 1, vI 1] M) fun v2 M1 =>
    ic (v2 &&& 1 = v2) (
      some (some (vI v2), M1)) none) := rfl
set_option maxRecDepth 100000 in
theorem e70_54a (d F : Nat) (o1 : Option AV) (l3 : Int32) (o4 : Option AV) (M : Mem) : lp d 70 (F + 1) 54 [some (vR 2 0 50), o1, none, some (vI l3), o4] M =
  ic (l3 < 1000) (
    cIn (evD d 71 [vR 2 0 50] M) fun v4 M3 =>
    ic (v4 = 0) (
      some (some (vI 0), M3)) (
      cIn (evD d 73 [vR 2 0 50] M3) fun v6 M5 =>
      ic (v6 = 0) (
        some (some (vI 0), M5)) (
        cVd (evD d 76 [vR 2 0 50] M5) fun M7 =>
        cIn (evD d 79 [vR 2 0 50] M7) fun v9 M8 =>
        ic (v9 = (-1)) (
          cIn (evD d 80 [vR 2 0 50] M8) fun v13 M12 =>
          ic (v13 &&& 1 = v13) (
            some (some (vI v13), M12)) none) (
          cIn (evD d 81 [vR 2 0 50, vI v9] M8) fun v11 M10 =>
          ic (v11 = 0) (
            some (some (vI 0), M10)) (
            lp d 70 F 54 [some (vR 2 0 50), o1, none, some (vI (l3 + 1)), some (vI v9)] M10))))) (
    cIn (evD d 45 [vR 7 0 1, vI 1] M) fun v2 M1 =>
    ic (v2 &&& 1 = v2) (
      some (some (vI v2), M1)) none) := ((evp_step (code := lkE (codT 70)) (hd := hdT 70) (call := evD d) (F := F) (pc := 54) (lv := [some (vR 2 0 50), o1, none, some (vI l3), o4]) (M := M) (e := (.iload_n 3, 1, 3, 0, 0, 0, 0)) rfl).trans (g70_54a (evD d) (evp (lkE (codT 70)) (hdT 70) (evD d) F) o1 l3 o4 M)).trans (by (try simp only [ic_t (show (0 : Int32) &&& 1 = 0 by decide)]))
set_option maxRecDepth 100000 in
theorem g70_54b (call : Nat → List AV → Mem → Res) (back : Nat → Lv → Mem → Res) (o1 : Option AV) (o2 : Int32) (l3 : Int32) (o4 : Option AV) (M : Mem) : stepK call back (evj (lkE cd_70) [54] call back 4000) (.iload_n 3, 1, 3, 0, 0, 0, 0) 54 [some (vR 2 0 50), o1, some (vI o2), some (vI l3), o4] [] M =
  ic (l3 < 1000) (
    cIn (call 71 [vR 2 0 50] M) fun v4 M3 =>
    ic (v4 = 0) (
      ic ((0 : Int32) &&& 1 = 0) (
        some (some (vI 0), M3)) none) (
      cIn (call 73 [vR 2 0 50] M3) fun v6 M5 =>
      ic (v6 = 0) (
        ic ((0 : Int32) &&& 1 = 0) (
          some (some (vI 0), M5)) none) (
        cVd (call 76 [vR 2 0 50] M5) fun M7 =>
        cIn (call 79 [vR 2 0 50] M7) fun v9 M8 =>
        ic (v9 = (-1)) (
          cIn (call 80 [vR 2 0 50] M8) fun v13 M12 =>
          ic (v13 &&& 1 = v13) (
            some (some (vI v13), M12)) none) (
          cIn (call 81 [vR 2 0 50, vI v9] M8) fun v11 M10 =>
          ic (v11 = 0) (
            ic ((0 : Int32) &&& 1 = 0) (
              some (some (vI 0), M10)) none) (
            back 54 [some (vR 2 0 50), o1, some (vI o2), some (vI (l3 + 1)), some (vI v9)] M10))))) (
    cIn (call 45 [vR 7 0 1, vI 1] M) fun v2 M1 =>
    ic (v2 &&& 1 = v2) (
      some (some (vI v2), M1)) none) := rfl
set_option maxRecDepth 100000 in
theorem e70_54b (d F : Nat) (o1 : Option AV) (o2 : Int32) (l3 : Int32) (o4 : Option AV) (M : Mem) : lp d 70 (F + 1) 54 [some (vR 2 0 50), o1, some (vI o2), some (vI l3), o4] M =
  ic (l3 < 1000) (
    cIn (evD d 71 [vR 2 0 50] M) fun v4 M3 =>
    ic (v4 = 0) (
      some (some (vI 0), M3)) (
      cIn (evD d 73 [vR 2 0 50] M3) fun v6 M5 =>
      ic (v6 = 0) (
        some (some (vI 0), M5)) (
        cVd (evD d 76 [vR 2 0 50] M5) fun M7 =>
        cIn (evD d 79 [vR 2 0 50] M7) fun v9 M8 =>
        ic (v9 = (-1)) (
          cIn (evD d 80 [vR 2 0 50] M8) fun v13 M12 =>
          ic (v13 &&& 1 = v13) (
            some (some (vI v13), M12)) none) (
          cIn (evD d 81 [vR 2 0 50, vI v9] M8) fun v11 M10 =>
          ic (v11 = 0) (
            some (some (vI 0), M10)) (
            lp d 70 F 54 [some (vR 2 0 50), o1, some (vI o2), some (vI (l3 + 1)), some (vI v9)] M10))))) (
    cIn (evD d 45 [vR 7 0 1, vI 1] M) fun v2 M1 =>
    ic (v2 &&& 1 = v2) (
      some (some (vI v2), M1)) none) := ((evp_step (code := lkE (codT 70)) (hd := hdT 70) (call := evD d) (F := F) (pc := 54) (lv := [some (vR 2 0 50), o1, some (vI o2), some (vI l3), o4]) (M := M) (e := (.iload_n 3, 1, 3, 0, 0, 0, 0)) rfl).trans (g70_54b (evD d) (evp (lkE (codT 70)) (hdT 70) (evD d) F) o1 o2 l3 o4 M)).trans (by (try simp only [ic_t (show (0 : Int32) &&& 1 = 0 by decide)]))
-- IceParliament$LawReader takeOpenings()Z
set_option maxRecDepth 100000 in
theorem j71 (call : Nat → List AV → Mem → Res) (back : Nat → Lv → Mem → Res)  (M : Mem) : evj (lkE cd_71) [2] call back 4000 0 [some (vR 2 0 50), none, none] [] M =
  back 2 [some (vR 2 0 50), some (vI 0), none] M := rfl
set_option maxRecDepth 100000 in
theorem e71 (d : Nat)  (M : Mem) : evD (d + 1) 71 [vR 2 0 50] M =
  lp0 d 71 2 [some (vR 2 0 50), some (vI 0), none] M := ((evD_step (d := d) (x := 71) (as := [vR 2 0 50]) (M := M) (md := (⟨"IceParliament$LawReader", "takeOpenings", "()Z"⟩, prog_4_method_3_code, 3, (Option.some Jvm.ClassFile.FieldType.boolean), 2, 2)) rfl rfl).trans (j71 (evD d) (evp0 (lkE (codT 71)) (hdT 71) (evD d))  M))
set_option maxRecDepth 100000 in
theorem g71_2 (call : Nat → List AV → Mem → Res) (back : Nat → Lv → Mem → Res) (l1 : Int32) (o2 : Option AV) (M : Mem) : stepK call back (evj (lkE cd_71) [2] call back 4000) (.iload_n 1, 1, 1, 0, 0, 0, 0) 2 [some (vR 2 0 50), some (vI l1), o2] [] M =
  ic (5 < l1) (
    ic ((1 : Int32) &&& 1 = 1) (
      some (some (vI 1), M)) none) (
    cIn (call 35 [vR 7 0 1, vR 40 21 (SB + 21)] M) fun v2 M1 =>
    ic (v2 = 0) (
      cIn (call 55 [vR 7 0 1, vI 40] M1) fun v10 M9 =>
      ic (v10 = 0) (
        ic ((1 : Int32) &&& 1 = 1) (
          some (some (vI 1), M9)) none) (
        ic (M9.1 50 3 < 5) (
          ic (v2 = 0) (
            cVd (call 72 [vR 2 0 50, vI 10011] (sI M9 50 3 ((M9.1 50 3) + 1))) fun M11 =>
            cVd (call 11 [vR 7 0 1] M11) fun M12 =>
            back 2 [some (vR 2 0 50), some (vI (l1 + 1)), some (vI v2)] M12) (
            cVd (call 72 [vR 2 0 50, vI 10003] (sI M9 50 3 ((M9.1 50 3) + 1))) fun M13 =>
            cVd (call 11 [vR 7 0 1] M13) fun M14 =>
            back 2 [some (vR 2 0 50), some (vI (l1 + 1)), some (vI v2)] M14)) (
          cIn (call 45 [vR 7 0 1, vI 5] M9) fun v16 M15 =>
          ic (v16 &&& 1 = v16) (
            some (some (vI v16), M15)) none))) (
      ic (M1.1 50 3 < 5) (
        ic (v2 = 0) (
          cVd (call 72 [vR 2 0 50, vI 10011] (sI M1 50 3 ((M1.1 50 3) + 1))) fun M3 =>
          cVd (call 11 [vR 7 0 1] M3) fun M4 =>
          back 2 [some (vR 2 0 50), some (vI (l1 + 1)), some (vI v2)] M4) (
          cVd (call 72 [vR 2 0 50, vI 10003] (sI M1 50 3 ((M1.1 50 3) + 1))) fun M5 =>
          cVd (call 11 [vR 7 0 1] M5) fun M6 =>
          back 2 [some (vR 2 0 50), some (vI (l1 + 1)), some (vI v2)] M6)) (
        cIn (call 45 [vR 7 0 1, vI 5] M1) fun v8 M7 =>
        ic (v8 &&& 1 = v8) (
          some (some (vI v8), M7)) none))) := rfl
set_option maxRecDepth 100000 in
theorem e71_2 (d F : Nat) (l1 : Int32) (o2 : Option AV) (M : Mem) : lp d 71 (F + 1) 2 [some (vR 2 0 50), some (vI l1), o2] M =
  ic (5 < l1) (
    some (some (vI 1), M)) (
    cIn (evD d 35 [vR 7 0 1, vR 40 21 (SB + 21)] M) fun v2 M1 =>
    ic (v2 = 0) (
      cIn (evD d 55 [vR 7 0 1, vI 40] M1) fun v10 M9 =>
      ic (v10 = 0) (
        some (some (vI 1), M9)) (
        ic (M9.1 50 3 < 5) (
          ic (v2 = 0) (
            cVd (evD d 72 [vR 2 0 50, vI 10011] (sI M9 50 3 ((M9.1 50 3) + 1))) fun M11 =>
            cVd (evD d 11 [vR 7 0 1] M11) fun M12 =>
            lp d 71 F 2 [some (vR 2 0 50), some (vI (l1 + 1)), some (vI v2)] M12) (
            cVd (evD d 72 [vR 2 0 50, vI 10003] (sI M9 50 3 ((M9.1 50 3) + 1))) fun M13 =>
            cVd (evD d 11 [vR 7 0 1] M13) fun M14 =>
            lp d 71 F 2 [some (vR 2 0 50), some (vI (l1 + 1)), some (vI v2)] M14)) (
          cIn (evD d 45 [vR 7 0 1, vI 5] M9) fun v16 M15 =>
          ic (v16 &&& 1 = v16) (
            some (some (vI v16), M15)) none))) (
      ic (M1.1 50 3 < 5) (
        ic (v2 = 0) (
          cVd (evD d 72 [vR 2 0 50, vI 10011] (sI M1 50 3 ((M1.1 50 3) + 1))) fun M3 =>
          cVd (evD d 11 [vR 7 0 1] M3) fun M4 =>
          lp d 71 F 2 [some (vR 2 0 50), some (vI (l1 + 1)), some (vI v2)] M4) (
          cVd (evD d 72 [vR 2 0 50, vI 10003] (sI M1 50 3 ((M1.1 50 3) + 1))) fun M5 =>
          cVd (evD d 11 [vR 7 0 1] M5) fun M6 =>
          lp d 71 F 2 [some (vR 2 0 50), some (vI (l1 + 1)), some (vI v2)] M6)) (
        cIn (evD d 45 [vR 7 0 1, vI 5] M1) fun v8 M7 =>
        ic (v8 &&& 1 = v8) (
          some (some (vI v8), M7)) none))) := ((evp_step (code := lkE (codT 71)) (hd := hdT 71) (call := evD d) (F := F) (pc := 2) (lv := [some (vR 2 0 50), some (vI l1), o2]) (M := M) (e := (.iload_n 1, 1, 1, 0, 0, 0, 0)) rfl).trans (g71_2 (evD d) (evp (lkE (codT 71)) (hdT 71) (evD d) F) l1 o2 M)).trans (by (try simp only [ic_t (show (1 : Int32) &&& 1 = 1 by decide)]))
-- IceParliament$LawReader push(I)V
set_option maxRecDepth 100000 in
theorem j72 (call : Nat → List AV → Mem → Res) (back : Nat → Lv → Mem → Res) (p0 : Int32) (M : Mem) : evj (lkE cd_72) [] call back 4000 0 [some (vR 2 0 50), some (vI p0)] [] M =
  ic (M.1 50 2 < Int32.ofNat 48) (
    ic (M.1 50 2 < 0 ∨ 48 ≤ (M.1 50 2).toNatClampNeg) none (
      some (none, sI (sI M 51 ((M.1 50 2).toNatClampNeg) p0) 50 2 (((sI M 51 ((M.1 50 2).toNatClampNeg) p0).1 50 2) + 1)))) (
    some (none, M)) := rfl
set_option maxRecDepth 100000 in
theorem e72 (d : Nat) (p0 : Int32) (M : Mem) : evD (d + 1) 72 [vR 2 0 50, vI p0] M =
  ic (M.1 50 2 < Int32.ofNat 48) (
    ic (M.1 50 2 < 0 ∨ 48 ≤ (M.1 50 2).toNatClampNeg) none (
      some (none, sI (sI M 51 ((M.1 50 2).toNatClampNeg) p0) 50 2 (((sI M 51 ((M.1 50 2).toNatClampNeg) p0).1 50 2) + 1)))) (
    some (none, M)) := ((evD_step (d := d) (x := 72) (as := [vR 2 0 50, vI p0]) (M := M) (md := (⟨"IceParliament$LawReader", "push", "(I)V"⟩, prog_4_method_11_code, 2, (Option.none : Option Jvm.ClassFile.FieldType), 2, 2)) rfl rfl).trans (j72 (evD d) (evp0 (lkE (codT 72)) (hdT 72) (evD d)) p0 M))
-- IceParliament$LawReader takeLeaf()Z
set_option maxRecDepth 100000 in
theorem j73 (call : Nat → List AV → Mem → Res) (back : Nat → Lv → Mem → Res)  (M : Mem) : evj (lkE cd_73) [] call back 4000 0 [some (vR 2 0 50), none] [] M =
  cIn (call 67 [vR 7 0 1] M) fun v2 M1 =>
  ic (v2 = 0) (
    cIn (call 74 [vR 2 0 50] M1) fun v4 M3 =>
    ic (v4 = (-1)) (
      cIn (call 45 [vR 7 0 1, vI 1] M3) fun v11 M10 =>
      ic (v11 &&& 1 = v11) (
        some (some (vI v11), M10)) none) (
      ic (M3.1 50 3 < 5) (
        cVd (call 4 [vR 1 0 (M3.2.2 50 4), vI v4] M3) fun M5 =>
        cVd (call 11 [vR 7 0 1] M5) fun M6 =>
        cVd (call 75 [vR 2 0 50] M6) fun M7 =>
        ic ((1 : Int32) &&& 1 = 1) (
          some (some (vI 1), M7)) none) (
        cIn (call 45 [vR 7 0 1, vI 5] M3) fun v9 M8 =>
        ic (v9 &&& 1 = v9) (
          some (some (vI v9), M8)) none))) (
    ic (M1.1 1 2 = (-1)) (
      cIn (call 45 [vR 7 0 1, vI 1] M1) fun v18 M17 =>
      ic (v18 &&& 1 = v18) (
        some (some (vI v18), M17)) none) (
      ic (M1.1 50 3 < 5) (
        cVd (call 4 [vR 1 0 (M1.2.2 50 4), vI (M1.1 1 2)] M1) fun M12 =>
        cVd (call 11 [vR 7 0 1] M12) fun M13 =>
        cVd (call 75 [vR 2 0 50] M13) fun M14 =>
        ic ((1 : Int32) &&& 1 = 1) (
          some (some (vI 1), M14)) none) (
        cIn (call 45 [vR 7 0 1, vI 5] M1) fun v16 M15 =>
        ic (v16 &&& 1 = v16) (
          some (some (vI v16), M15)) none))) := rfl
set_option maxRecDepth 100000 in
theorem e73 (d : Nat)  (M : Mem) : evD (d + 1) 73 [vR 2 0 50] M =
  cIn (evD d 67 [vR 7 0 1] M) fun v2 M1 =>
  ic (v2 = 0) (
    cIn (evD d 74 [vR 2 0 50] M1) fun v4 M3 =>
    ic (v4 = (-1)) (
      cIn (evD d 45 [vR 7 0 1, vI 1] M3) fun v11 M10 =>
      ic (v11 &&& 1 = v11) (
        some (some (vI v11), M10)) none) (
      ic (M3.1 50 3 < 5) (
        cVd (evD d 4 [vR 1 0 (M3.2.2 50 4), vI v4] M3) fun M5 =>
        cVd (evD d 11 [vR 7 0 1] M5) fun M6 =>
        cVd (evD d 75 [vR 2 0 50] M6) fun M7 =>
        some (some (vI 1), M7)) (
        cIn (evD d 45 [vR 7 0 1, vI 5] M3) fun v9 M8 =>
        ic (v9 &&& 1 = v9) (
          some (some (vI v9), M8)) none))) (
    ic (M1.1 1 2 = (-1)) (
      cIn (evD d 45 [vR 7 0 1, vI 1] M1) fun v18 M17 =>
      ic (v18 &&& 1 = v18) (
        some (some (vI v18), M17)) none) (
      ic (M1.1 50 3 < 5) (
        cVd (evD d 4 [vR 1 0 (M1.2.2 50 4), vI (M1.1 1 2)] M1) fun M12 =>
        cVd (evD d 11 [vR 7 0 1] M12) fun M13 =>
        cVd (evD d 75 [vR 2 0 50] M13) fun M14 =>
        some (some (vI 1), M14)) (
        cIn (evD d 45 [vR 7 0 1, vI 5] M1) fun v16 M15 =>
        ic (v16 &&& 1 = v16) (
          some (some (vI v16), M15)) none))) := ((evD_step (d := d) (x := 73) (as := [vR 2 0 50]) (M := M) (md := (⟨"IceParliament$LawReader", "takeLeaf", "()Z"⟩, prog_4_method_4_code, 2, (Option.some Jvm.ClassFile.FieldType.boolean), 2, 2)) rfl rfl).trans (j73 (evD d) (evp0 (lkE (codT 73)) (hdT 73) (evD d))  M)).trans (by (try simp only [ic_t (show (1 : Int32) &&& 1 = 1 by decide)]))
-- IceParliament$LawReader factHere()I
set_option maxRecDepth 100000 in
theorem j74 (call : Nat → List AV → Mem → Res) (back : Nat → Lv → Mem → Res)  (M : Mem) : evj (lkE cd_74) [24, 52, 80] call back 4000 0 [some (vR 2 0 50)] [] M =
  ic (M.1 50 5 = 0) (
    cIn (call 35 [vR 7 0 1, vR 40 23 (SB + 23)] M) fun v2 M1 =>
    ic (v2 = 0) (
      ic (M1.1 50 5 = 0) (
        cIn (call 35 [vR 7 0 1, vR 40 25 (SB + 25)] M1) fun v4 M3 =>
        ic (v4 = 0) (
          ic (M3.1 50 5 = 0) (
            cIn (call 35 [vR 7 0 1, vR 40 26 (SB + 26)] M3) fun v6 M5 =>
            ic (v6 = 0) (
              some (some (vI (-1)), M5)) (
              back 80 [some (vR 2 0 50)] M5)) (
            cIn (call 35 [vR 7 0 1, vR 40 25 (SB + 25)] M3) fun v8 M7 =>
            ic (v8 = 0) (
              some (some (vI (-1)), M7)) (
              back 80 [some (vR 2 0 50)] M7))) (
          back 52 [some (vR 2 0 50)] M3)) (
        cIn (call 35 [vR 7 0 1, vR 40 24 (SB + 24)] M1) fun v10 M9 =>
        ic (v10 = 0) (
          ic (M9.1 50 5 = 0) (
            cIn (call 35 [vR 7 0 1, vR 40 26 (SB + 26)] M9) fun v12 M11 =>
            ic (v12 = 0) (
              some (some (vI (-1)), M11)) (
              back 80 [some (vR 2 0 50)] M11)) (
            cIn (call 35 [vR 7 0 1, vR 40 25 (SB + 25)] M9) fun v14 M13 =>
            ic (v14 = 0) (
              some (some (vI (-1)), M13)) (
              back 80 [some (vR 2 0 50)] M13))) (
          back 52 [some (vR 2 0 50)] M9))) (
      back 24 [some (vR 2 0 50)] M1)) (
    cIn (call 35 [vR 7 0 1, vR 40 22 (SB + 22)] M) fun v16 M15 =>
    ic (v16 = 0) (
      ic (M15.1 50 5 = 0) (
        cIn (call 35 [vR 7 0 1, vR 40 25 (SB + 25)] M15) fun v18 M17 =>
        ic (v18 = 0) (
          ic (M17.1 50 5 = 0) (
            cIn (call 35 [vR 7 0 1, vR 40 26 (SB + 26)] M17) fun v20 M19 =>
            ic (v20 = 0) (
              some (some (vI (-1)), M19)) (
              back 80 [some (vR 2 0 50)] M19)) (
            cIn (call 35 [vR 7 0 1, vR 40 25 (SB + 25)] M17) fun v22 M21 =>
            ic (v22 = 0) (
              some (some (vI (-1)), M21)) (
              back 80 [some (vR 2 0 50)] M21))) (
          back 52 [some (vR 2 0 50)] M17)) (
        cIn (call 35 [vR 7 0 1, vR 40 24 (SB + 24)] M15) fun v24 M23 =>
        ic (v24 = 0) (
          ic (M23.1 50 5 = 0) (
            cIn (call 35 [vR 7 0 1, vR 40 26 (SB + 26)] M23) fun v26 M25 =>
            ic (v26 = 0) (
              some (some (vI (-1)), M25)) (
              back 80 [some (vR 2 0 50)] M25)) (
            cIn (call 35 [vR 7 0 1, vR 40 25 (SB + 25)] M23) fun v28 M27 =>
            ic (v28 = 0) (
              some (some (vI (-1)), M27)) (
              back 80 [some (vR 2 0 50)] M27))) (
          back 52 [some (vR 2 0 50)] M23))) (
      back 24 [some (vR 2 0 50)] M15)) := rfl
set_option maxRecDepth 100000 in
theorem e74 (d : Nat)  (M : Mem) : evD (d + 1) 74 [vR 2 0 50] M =
  ic (M.1 50 5 = 0) (
    cIn (evD d 35 [vR 7 0 1, vR 40 23 (SB + 23)] M) fun v2 M1 =>
    ic (v2 = 0) (
      ic (M1.1 50 5 = 0) (
        cIn (evD d 35 [vR 7 0 1, vR 40 25 (SB + 25)] M1) fun v4 M3 =>
        ic (v4 = 0) (
          ic (M3.1 50 5 = 0) (
            cIn (evD d 35 [vR 7 0 1, vR 40 26 (SB + 26)] M3) fun v6 M5 =>
            ic (v6 = 0) (
              some (some (vI (-1)), M5)) (
              lp0 d 74 80 [some (vR 2 0 50)] M5)) (
            cIn (evD d 35 [vR 7 0 1, vR 40 25 (SB + 25)] M3) fun v8 M7 =>
            ic (v8 = 0) (
              some (some (vI (-1)), M7)) (
              lp0 d 74 80 [some (vR 2 0 50)] M7))) (
          lp0 d 74 52 [some (vR 2 0 50)] M3)) (
        cIn (evD d 35 [vR 7 0 1, vR 40 24 (SB + 24)] M1) fun v10 M9 =>
        ic (v10 = 0) (
          ic (M9.1 50 5 = 0) (
            cIn (evD d 35 [vR 7 0 1, vR 40 26 (SB + 26)] M9) fun v12 M11 =>
            ic (v12 = 0) (
              some (some (vI (-1)), M11)) (
              lp0 d 74 80 [some (vR 2 0 50)] M11)) (
            cIn (evD d 35 [vR 7 0 1, vR 40 25 (SB + 25)] M9) fun v14 M13 =>
            ic (v14 = 0) (
              some (some (vI (-1)), M13)) (
              lp0 d 74 80 [some (vR 2 0 50)] M13))) (
          lp0 d 74 52 [some (vR 2 0 50)] M9))) (
      lp0 d 74 24 [some (vR 2 0 50)] M1)) (
    cIn (evD d 35 [vR 7 0 1, vR 40 22 (SB + 22)] M) fun v16 M15 =>
    ic (v16 = 0) (
      ic (M15.1 50 5 = 0) (
        cIn (evD d 35 [vR 7 0 1, vR 40 25 (SB + 25)] M15) fun v18 M17 =>
        ic (v18 = 0) (
          ic (M17.1 50 5 = 0) (
            cIn (evD d 35 [vR 7 0 1, vR 40 26 (SB + 26)] M17) fun v20 M19 =>
            ic (v20 = 0) (
              some (some (vI (-1)), M19)) (
              lp0 d 74 80 [some (vR 2 0 50)] M19)) (
            cIn (evD d 35 [vR 7 0 1, vR 40 25 (SB + 25)] M17) fun v22 M21 =>
            ic (v22 = 0) (
              some (some (vI (-1)), M21)) (
              lp0 d 74 80 [some (vR 2 0 50)] M21))) (
          lp0 d 74 52 [some (vR 2 0 50)] M17)) (
        cIn (evD d 35 [vR 7 0 1, vR 40 24 (SB + 24)] M15) fun v24 M23 =>
        ic (v24 = 0) (
          ic (M23.1 50 5 = 0) (
            cIn (evD d 35 [vR 7 0 1, vR 40 26 (SB + 26)] M23) fun v26 M25 =>
            ic (v26 = 0) (
              some (some (vI (-1)), M25)) (
              lp0 d 74 80 [some (vR 2 0 50)] M25)) (
            cIn (evD d 35 [vR 7 0 1, vR 40 25 (SB + 25)] M23) fun v28 M27 =>
            ic (v28 = 0) (
              some (some (vI (-1)), M27)) (
              lp0 d 74 80 [some (vR 2 0 50)] M27))) (
          lp0 d 74 52 [some (vR 2 0 50)] M23))) (
      lp0 d 74 24 [some (vR 2 0 50)] M15)) := ((evD_step (d := d) (x := 74) (as := [vR 2 0 50]) (M := M) (md := (⟨"IceParliament$LawReader", "factHere", "()I"⟩, prog_4_method_5_code, 1, (Option.some Jvm.ClassFile.FieldType.int), 2, 2)) rfl rfl).trans (j74 (evD d) (evp0 (lkE (codT 74)) (hdT 74) (evD d))  M))
set_option maxRecDepth 100000 in
theorem g74_80 (call : Nat → List AV → Mem → Res) (back : Nat → Lv → Mem → Res) (o0 : Option AV) (M : Mem) : stepK call back (evj (lkE cd_74) [24, 52, 80] call back 4000) (.sipush (10002), 3, 0, 0, 0, 10002, 0) 80 [o0] [] M =
  some (some (vI 10002), M) := rfl
set_option maxRecDepth 100000 in
theorem e74_80 (d F : Nat) (o0 : Option AV) (M : Mem) : lp d 74 (F + 1) 80 [o0] M =
  some (some (vI 10002), M) := ((evp_step (code := lkE (codT 74)) (hd := hdT 74) (call := evD d) (F := F) (pc := 80) (lv := [o0]) (M := M) (e := (.sipush (10002), 3, 0, 0, 0, 10002, 0)) rfl).trans (g74_80 (evD d) (evp (lkE (codT 74)) (hdT 74) (evD d) F) o0 M))
set_option maxRecDepth 100000 in
theorem g74_52 (call : Nat → List AV → Mem → Res) (back : Nat → Lv → Mem → Res) (o0 : Option AV) (M : Mem) : stepK call back (evj (lkE cd_74) [24, 52, 80] call back 4000) (.sipush (10001), 3, 0, 0, 0, 10001, 0) 52 [o0] [] M =
  some (some (vI 10001), M) := rfl
set_option maxRecDepth 100000 in
theorem e74_52 (d F : Nat) (o0 : Option AV) (M : Mem) : lp d 74 (F + 1) 52 [o0] M =
  some (some (vI 10001), M) := ((evp_step (code := lkE (codT 74)) (hd := hdT 74) (call := evD d) (F := F) (pc := 52) (lv := [o0]) (M := M) (e := (.sipush (10001), 3, 0, 0, 0, 10001, 0)) rfl).trans (g74_52 (evD d) (evp (lkE (codT 74)) (hdT 74) (evD d) F) o0 M))
set_option maxRecDepth 100000 in
theorem g74_24 (call : Nat → List AV → Mem → Res) (back : Nat → Lv → Mem → Res) (o0 : Option AV) (M : Mem) : stepK call back (evj (lkE cd_74) [24, 52, 80] call back 4000) (.sipush (10000), 3, 0, 0, 0, 10000, 0) 24 [o0] [] M =
  some (some (vI 10000), M) := rfl
set_option maxRecDepth 100000 in
theorem e74_24 (d F : Nat) (o0 : Option AV) (M : Mem) : lp d 74 (F + 1) 24 [o0] M =
  some (some (vI 10000), M) := ((evp_step (code := lkE (codT 74)) (hd := hdT 74) (call := evD d) (F := F) (pc := 24) (lv := [o0]) (M := M) (e := (.sipush (10000), 3, 0, 0, 0, 10000, 0)) rfl).trans (g74_24 (evD d) (evp (lkE (codT 74)) (hdT 74) (evD d) F) o0 M))
-- IceParliament$LawReader closeNots()V
set_option maxRecDepth 100000 in
theorem j75 (call : Nat → List AV → Mem → Res) (back : Nat → Lv → Mem → Res)  (M : Mem) : evj (lkE cd_75) [0] call back 4000 0 [some (vR 2 0 50)] [] M =
  back 0 [some (vR 2 0 50)] M := rfl
set_option maxRecDepth 100000 in
theorem e75 (d : Nat)  (M : Mem) : evD (d + 1) 75 [vR 2 0 50] M =
  lp0 d 75 0 [some (vR 2 0 50)] M := ((evD_step (d := d) (x := 75) (as := [vR 2 0 50]) (M := M) (md := (⟨"IceParliament$LawReader", "closeNots", "()V"⟩, prog_4_method_13_code, 1, (Option.none : Option Jvm.ClassFile.FieldType), 2, 2)) rfl rfl).trans (j75 (evD d) (evp0 (lkE (codT 75)) (hdT 75) (evD d))  M))
set_option maxRecDepth 100000 in
theorem g75_0 (call : Nat → List AV → Mem → Res) (back : Nat → Lv → Mem → Res)  (M : Mem) : stepK call back (evj (lkE cd_75) [0] call back 4000) (.aload_n 0, 1, 0, 0, 0, 0, 0) 0 [some (vR 2 0 50)] [] M =
  ic (0 < M.1 50 2) (
    ic ((M.1 50 2) - 1 < 0 ∨ 48 ≤ ((M.1 50 2) - 1).toNatClampNeg) none (
      ic (M.1 51 ((M.1 50 2) - 1).toNatClampNeg = 10003) (
        cVd (call 4 [vR 1 0 ((sI (sI M 50 2 ((M.1 50 2) - 1)) 50 3 (((sI M 50 2 ((M.1 50 2) - 1)).1 50 3) - 1)).2.2 50 4), vI 10003] (sI (sI M 50 2 ((M.1 50 2) - 1)) 50 3 (((sI M 50 2 ((M.1 50 2) - 1)).1 50 3) - 1))) fun M1 =>
        back 0 [some (vR 2 0 50)] M1) (
        some (none, M)))) (
    some (none, M)) := rfl
set_option maxRecDepth 100000 in
theorem e75_0 (d F : Nat)  (M : Mem) : lp d 75 (F + 1) 0 [some (vR 2 0 50)] M =
  ic (0 < M.1 50 2) (
    ic ((M.1 50 2) - 1 < 0 ∨ 48 ≤ ((M.1 50 2) - 1).toNatClampNeg) none (
      ic (M.1 51 ((M.1 50 2) - 1).toNatClampNeg = 10003) (
        cVd (evD d 4 [vR 1 0 ((sI (sI M 50 2 ((M.1 50 2) - 1)) 50 3 (((sI M 50 2 ((M.1 50 2) - 1)).1 50 3) - 1)).2.2 50 4), vI 10003] (sI (sI M 50 2 ((M.1 50 2) - 1)) 50 3 (((sI M 50 2 ((M.1 50 2) - 1)).1 50 3) - 1))) fun M1 =>
        lp d 75 F 0 [some (vR 2 0 50)] M1) (
        some (none, M)))) (
    some (none, M)) := ((evp_step (code := lkE (codT 75)) (hd := hdT 75) (call := evD d) (F := F) (pc := 0) (lv := [some (vR 2 0 50)]) (M := M) (e := (.aload_n 0, 1, 0, 0, 0, 0, 0)) rfl).trans (g75_0 (evD d) (evp (lkE (codT 75)) (hdT 75) (evD d) F)  M))
-- IceParliament$LawReader takeClosings()V
set_option maxRecDepth 100000 in
theorem j76 (call : Nat → List AV → Mem → Res) (back : Nat → Lv → Mem → Res)  (M : Mem) : evj (lkE cd_76) [2] call back 4000 0 [some (vR 2 0 50), none] [] M =
  back 2 [some (vR 2 0 50), some (vI 0)] M := rfl
set_option maxRecDepth 100000 in
theorem e76 (d : Nat)  (M : Mem) : evD (d + 1) 76 [vR 2 0 50] M =
  lp0 d 76 2 [some (vR 2 0 50), some (vI 0)] M := ((evD_step (d := d) (x := 76) (as := [vR 2 0 50]) (M := M) (md := (⟨"IceParliament$LawReader", "takeClosings", "()V"⟩, prog_4_method_6_code, 2, (Option.none : Option Jvm.ClassFile.FieldType), 2, 2)) rfl rfl).trans (j76 (evD d) (evp0 (lkE (codT 76)) (hdT 76) (evD d))  M))
set_option maxRecDepth 100000 in
theorem g76_2 (call : Nat → List AV → Mem → Res) (back : Nat → Lv → Mem → Res) (l1 : Int32) (M : Mem) : stepK call back (evj (lkE cd_76) [2] call back 4000) (.iload_n 1, 1, 1, 0, 0, 0, 0) 2 [some (vR 2 0 50), some (vI l1)] [] M =
  ic (l1 < 5) (
    cIn (call 55 [vR 7 0 1, vI 41] M) fun v2 M1 =>
    ic (v2 = 0) (
      some (none, M1)) (
      cVd (call 77 [vR 2 0 50, vI 1] M1) fun M3 =>
      ic (M3.1 50 2 = 0) (
        some (none, M3)) (
        cVd (call 11 [vR 7 0 1] (sI (sI M3 50 2 ((M3.1 50 2) - 1)) 50 3 (((sI M3 50 2 ((M3.1 50 2) - 1)).1 50 3) - 1))) fun M4 =>
        cVd (call 75 [vR 2 0 50] M4) fun M5 =>
        back 2 [some (vR 2 0 50), some (vI (l1 + 1))] M5))) (
    some (none, M)) := rfl
set_option maxRecDepth 100000 in
theorem e76_2 (d F : Nat) (l1 : Int32) (M : Mem) : lp d 76 (F + 1) 2 [some (vR 2 0 50), some (vI l1)] M =
  ic (l1 < 5) (
    cIn (evD d 55 [vR 7 0 1, vI 41] M) fun v2 M1 =>
    ic (v2 = 0) (
      some (none, M1)) (
      cVd (evD d 77 [vR 2 0 50, vI 1] M1) fun M3 =>
      ic (M3.1 50 2 = 0) (
        some (none, M3)) (
        cVd (evD d 11 [vR 7 0 1] (sI (sI M3 50 2 ((M3.1 50 2) - 1)) 50 3 (((sI M3 50 2 ((M3.1 50 2) - 1)).1 50 3) - 1))) fun M4 =>
        cVd (evD d 75 [vR 2 0 50] M4) fun M5 =>
        lp d 76 F 2 [some (vR 2 0 50), some (vI (l1 + 1))] M5))) (
    some (none, M)) := ((evp_step (code := lkE (codT 76)) (hd := hdT 76) (call := evD d) (F := F) (pc := 2) (lv := [some (vR 2 0 50), some (vI l1)]) (M := M) (e := (.iload_n 1, 1, 1, 0, 0, 0, 0)) rfl).trans (g76_2 (evD d) (evp (lkE (codT 76)) (hdT 76) (evD d) F) l1 M))
-- IceParliament$LawReader settle(I)V
set_option maxRecDepth 100000 in
theorem j77 (call : Nat → List AV → Mem → Res) (back : Nat → Lv → Mem → Res) (p0 : Int32) (M : Mem) : evj (lkE cd_77) [0] call back 4000 0 [some (vR 2 0 50), some (vI p0)] [] M =
  back 0 [some (vR 2 0 50), some (vI p0)] M := rfl
set_option maxRecDepth 100000 in
theorem e77 (d : Nat) (p0 : Int32) (M : Mem) : evD (d + 1) 77 [vR 2 0 50, vI p0] M =
  lp0 d 77 0 [some (vR 2 0 50), some (vI p0)] M := ((evD_step (d := d) (x := 77) (as := [vR 2 0 50, vI p0]) (M := M) (md := (⟨"IceParliament$LawReader", "settle", "(I)V"⟩, prog_4_method_12_code, 2, (Option.none : Option Jvm.ClassFile.FieldType), 2, 2)) rfl rfl).trans (j77 (evD d) (evp0 (lkE (codT 77)) (hdT 77) (evD d)) p0 M))
set_option maxRecDepth 100000 in
theorem g77_0 (call : Nat → List AV → Mem → Res) (back : Nat → Lv → Mem → Res) (l1 : Int32) (M : Mem) : stepK call back (evj (lkE cd_77) [0] call back 4000) (.aload_n 0, 1, 0, 0, 0, 0, 0) 0 [some (vR 2 0 50), some (vI l1)] [] M =
  ic (0 < M.1 50 2) (
    ic ((M.1 50 2) - 1 < 0 ∨ 48 ≤ ((M.1 50 2) - 1).toNatClampNeg) none (
      cIn (call 78 [vI (M.1 51 ((M.1 50 2) - 1).toNatClampNeg)] M) fun v2 M1 =>
      ic (v2 < l1) (
        some (none, M1)) (
        ic ((sI M1 50 2 ((M1.1 50 2) - 1)).1 50 2 < 0 ∨ 48 ≤ ((sI M1 50 2 ((M1.1 50 2) - 1)).1 50 2).toNatClampNeg) none (
          cVd (call 4 [vR 1 0 ((sI M1 50 2 ((M1.1 50 2) - 1)).2.2 50 4), vI ((sI M1 50 2 ((M1.1 50 2) - 1)).1 51 ((sI M1 50 2 ((M1.1 50 2) - 1)).1 50 2).toNatClampNeg)] (sI M1 50 2 ((M1.1 50 2) - 1))) fun M3 =>
          back 0 [some (vR 2 0 50), some (vI l1)] M3)))) (
    some (none, M)) := rfl
set_option maxRecDepth 100000 in
theorem e77_0 (d F : Nat) (l1 : Int32) (M : Mem) : lp d 77 (F + 1) 0 [some (vR 2 0 50), some (vI l1)] M =
  ic (0 < M.1 50 2) (
    ic ((M.1 50 2) - 1 < 0 ∨ 48 ≤ ((M.1 50 2) - 1).toNatClampNeg) none (
      cIn (evD d 78 [vI (M.1 51 ((M.1 50 2) - 1).toNatClampNeg)] M) fun v2 M1 =>
      ic (v2 < l1) (
        some (none, M1)) (
        ic ((sI M1 50 2 ((M1.1 50 2) - 1)).1 50 2 < 0 ∨ 48 ≤ ((sI M1 50 2 ((M1.1 50 2) - 1)).1 50 2).toNatClampNeg) none (
          cVd (evD d 4 [vR 1 0 ((sI M1 50 2 ((M1.1 50 2) - 1)).2.2 50 4), vI ((sI M1 50 2 ((M1.1 50 2) - 1)).1 51 ((sI M1 50 2 ((M1.1 50 2) - 1)).1 50 2).toNatClampNeg)] (sI M1 50 2 ((M1.1 50 2) - 1))) fun M3 =>
          lp d 77 F 0 [some (vR 2 0 50), some (vI l1)] M3)))) (
    some (none, M)) := ((evp_step (code := lkE (codT 77)) (hd := hdT 77) (call := evD d) (F := F) (pc := 0) (lv := [some (vR 2 0 50), some (vI l1)]) (M := M) (e := (.aload_n 0, 1, 0, 0, 0, 0, 0)) rfl).trans (g77_0 (evD d) (evp (lkE (codT 77)) (hdT 77) (evD d) F) l1 M))
-- IceParliament$LawReader rankOf(I)I
set_option maxRecDepth 100000 in
theorem j78 (call : Nat → List AV → Mem → Res) (back : Nat → Lv → Mem → Res) (p0 : Int32) (M : Mem) : evj (lkE cd_78) [] call back 4000 0 [some (vI p0)] [] M =
  ic (p0 = Int32.ofInt (10004)) (
    some (some (vI 4), M)) (
    ic (p0 = Int32.ofInt (10005)) (
      some (some (vI 3), M)) (
      ic (p0 = Int32.ofInt (10006)) (
        some (some (vI 3), M)) (
        ic (p0 = Int32.ofInt (10007)) (
          some (some (vI 2), M)) (
          ic (p0 = Int32.ofInt (10008)) (
            some (some (vI 2), M)) (
            ic (p0 = Int32.ofInt (10009)) (
              some (some (vI 1), M)) (
              ic (p0 = Int32.ofInt (10010)) (
                some (some (vI 1), M)) (
                some (some (vI 0), M)))))))) := rfl
set_option maxRecDepth 100000 in
theorem e78 (d : Nat) (p0 : Int32) (M : Mem) : evD (d + 1) 78 [vI p0] M =
  ic (p0 = Int32.ofInt (10004)) (
    some (some (vI 4), M)) (
    ic (p0 = Int32.ofInt (10005)) (
      some (some (vI 3), M)) (
      ic (p0 = Int32.ofInt (10006)) (
        some (some (vI 3), M)) (
        ic (p0 = Int32.ofInt (10007)) (
          some (some (vI 2), M)) (
          ic (p0 = Int32.ofInt (10008)) (
            some (some (vI 2), M)) (
            ic (p0 = Int32.ofInt (10009)) (
              some (some (vI 1), M)) (
              ic (p0 = Int32.ofInt (10010)) (
                some (some (vI 1), M)) (
                some (some (vI 0), M)))))))) := ((evD_step (d := d) (x := 78) (as := [vI p0]) (M := M) (md := (⟨"IceParliament$LawReader", "rankOf", "(I)I"⟩, prog_4_method_10_code, 1, (Option.some Jvm.ClassFile.FieldType.int), 2, 99)) rfl rfl).trans (j78 (evD d) (evp0 (lkE (codT 78)) (hdT 78) (evD d)) p0 M))
-- IceParliament$LawReader joinHere()I
set_option maxRecDepth 100000 in
theorem j79 (call : Nat → List AV → Mem → Res) (back : Nat → Lv → Mem → Res)  (M : Mem) : evj (lkE cd_79) [] call back 4000 0 [some (vR 2 0 50)] [] M =
  cIn (call 55 [vR 7 0 1, vI 42] M) fun v2 M1 =>
  ic (v2 = 0) (
    cIn (call 55 [vR 7 0 1, vI 43] M1) fun v4 M3 =>
    ic (v4 = 0) (
      cIn (call 55 [vR 7 0 1, vI 45] M3) fun v6 M5 =>
      ic (v6 = 0) (
        cIn (call 55 [vR 7 0 1, vI 60] M5) fun v8 M7 =>
        ic (v8 = 0) (
          cIn (call 55 [vR 7 0 1, vI 61] M7) fun v10 M9 =>
          ic (v10 = 0) (
            cIn (call 35 [vR 7 0 1, vR 40 27 (SB + 27)] M9) fun v12 M11 =>
            ic (v12 = 0) (
              cIn (call 35 [vR 7 0 1, vR 40 28 (SB + 28)] M11) fun v14 M13 =>
              ic (v14 = 0) (
                some (some (vI (-1)), M13)) (
                some (some (vI 10010), M13))) (
              some (some (vI 10009), M11))) (
            some (some (vI 10008), M9))) (
          some (some (vI 10007), M7))) (
        some (some (vI 10006), M5))) (
      some (some (vI 10005), M3))) (
    some (some (vI 10004), M1)) := rfl
set_option maxRecDepth 100000 in
theorem e79 (d : Nat)  (M : Mem) : evD (d + 1) 79 [vR 2 0 50] M =
  cIn (evD d 55 [vR 7 0 1, vI 42] M) fun v2 M1 =>
  ic (v2 = 0) (
    cIn (evD d 55 [vR 7 0 1, vI 43] M1) fun v4 M3 =>
    ic (v4 = 0) (
      cIn (evD d 55 [vR 7 0 1, vI 45] M3) fun v6 M5 =>
      ic (v6 = 0) (
        cIn (evD d 55 [vR 7 0 1, vI 60] M5) fun v8 M7 =>
        ic (v8 = 0) (
          cIn (evD d 55 [vR 7 0 1, vI 61] M7) fun v10 M9 =>
          ic (v10 = 0) (
            cIn (evD d 35 [vR 7 0 1, vR 40 27 (SB + 27)] M9) fun v12 M11 =>
            ic (v12 = 0) (
              cIn (evD d 35 [vR 7 0 1, vR 40 28 (SB + 28)] M11) fun v14 M13 =>
              ic (v14 = 0) (
                some (some (vI (-1)), M13)) (
                some (some (vI 10010), M13))) (
              some (some (vI 10009), M11))) (
            some (some (vI 10008), M9))) (
          some (some (vI 10007), M7))) (
        some (some (vI 10006), M5))) (
      some (some (vI 10005), M3))) (
    some (some (vI 10004), M1)) := ((evD_step (d := d) (x := 79) (as := [vR 2 0 50]) (M := M) (md := (⟨"IceParliament$LawReader", "joinHere", "()I"⟩, prog_4_method_7_code, 1, (Option.some Jvm.ClassFile.FieldType.int), 2, 2)) rfl rfl).trans (j79 (evD d) (evp0 (lkE (codT 79)) (hdT 79) (evD d))  M))
-- IceParliament$LawReader takeEnd()Z
set_option maxRecDepth 100000 in
theorem j80 (call : Nat → List AV → Mem → Res) (back : Nat → Lv → Mem → Res)  (M : Mem) : evj (lkE cd_80) [] call back 4000 0 [some (vR 2 0 50)] [] M =
  cVd (call 77 [vR 2 0 50, vI 1] M) fun M1 =>
  ic (0 < M1.1 50 2) (
    cIn (call 45 [vR 7 0 1, vI 1] M1) fun v5 M4 =>
    ic (v5 &&& 1 = v5) (
      some (some (vI v5), M4)) none) (
    cIn (call 54 [vR 7 0 1, vI 59] M1) fun v3 M2 =>
    ic (v3 &&& 1 = v3) (
      some (some (vI v3), M2)) none) := rfl
set_option maxRecDepth 100000 in
theorem e80 (d : Nat)  (M : Mem) : evD (d + 1) 80 [vR 2 0 50] M =
  cVd (evD d 77 [vR 2 0 50, vI 1] M) fun M1 =>
  ic (0 < M1.1 50 2) (
    cIn (evD d 45 [vR 7 0 1, vI 1] M1) fun v5 M4 =>
    ic (v5 &&& 1 = v5) (
      some (some (vI v5), M4)) none) (
    cIn (evD d 54 [vR 7 0 1, vI 59] M1) fun v3 M2 =>
    ic (v3 &&& 1 = v3) (
      some (some (vI v3), M2)) none) := ((evD_step (d := d) (x := 80) (as := [vR 2 0 50]) (M := M) (md := (⟨"IceParliament$LawReader", "takeEnd", "()Z"⟩, prog_4_method_9_code, 1, (Option.some Jvm.ClassFile.FieldType.boolean), 2, 2)) rfl rfl).trans (j80 (evD d) (evp0 (lkE (codT 80)) (hdT 80) (evD d))  M))
-- IceParliament$LawReader takeJoin(I)Z
set_option maxRecDepth 100000 in
theorem j81 (call : Nat → List AV → Mem → Res) (back : Nat → Lv → Mem → Res) (p0 : Int32) (M : Mem) : evj (lkE cd_81) [21, 36, 74] call back 4000 0 [some (vR 2 0 50), some (vI p0), none, none] [] M =
  cIn (call 78 [vI p0] M) fun v2 M1 =>
  cIn (call 78 [vI 10007] M1) fun v4 M3 =>
  ic (v2 = v4) (
    back 21 [some (vR 2 0 50), some (vI p0), some (vI v2), some (vI 1)] M3) (
    back 21 [some (vR 2 0 50), some (vI p0), some (vI v2), some (vI 0)] M3) := rfl
set_option maxRecDepth 100000 in
theorem e81 (d : Nat) (p0 : Int32) (M : Mem) : evD (d + 1) 81 [vR 2 0 50, vI p0] M =
  cIn (evD d 78 [vI p0] M) fun v2 M1 =>
  cIn (evD d 78 [vI 10007] M1) fun v4 M3 =>
  ic (v2 = v4) (
    lp0 d 81 21 [some (vR 2 0 50), some (vI p0), some (vI v2), some (vI 1)] M3) (
    lp0 d 81 21 [some (vR 2 0 50), some (vI p0), some (vI v2), some (vI 0)] M3) := ((evD_step (d := d) (x := 81) (as := [vR 2 0 50, vI p0]) (M := M) (md := (⟨"IceParliament$LawReader", "takeJoin", "(I)Z"⟩, prog_4_method_8_code, 4, (Option.some Jvm.ClassFile.FieldType.boolean), 2, 2)) rfl rfl).trans (j81 (evD d) (evp0 (lkE (codT 81)) (hdT 81) (evD d)) p0 M))
set_option maxRecDepth 100000 in
theorem g81_21 (call : Nat → List AV → Mem → Res) (back : Nat → Lv → Mem → Res) (l1 : Int32) (l2 : Int32) (l3 : Int32) (M : Mem) : stepK call back (evj (lkE cd_81) [21, 36, 74] call back 4000) (.aload_n 0, 1, 0, 0, 0, 0, 0) 21 [some (vR 2 0 50), some (vI l1), some (vI l2), some (vI l3)] [] M =
  ic (l3 = 0) (
    cVd (call 77 [vR 2 0 50, vI l2] M) fun M1 =>
    back 36 [some (vR 2 0 50), some (vI l1), some (vI l2), some (vI l3)] M1) (
    cVd (call 77 [vR 2 0 50, vI (l2 + 1)] M) fun M2 =>
    back 36 [some (vR 2 0 50), some (vI l1), some (vI l2), some (vI l3)] M2) := rfl
set_option maxRecDepth 100000 in
theorem e81_21 (d F : Nat) (l1 : Int32) (l2 : Int32) (l3 : Int32) (M : Mem) : lp d 81 (F + 1) 21 [some (vR 2 0 50), some (vI l1), some (vI l2), some (vI l3)] M =
  ic (l3 = 0) (
    cVd (evD d 77 [vR 2 0 50, vI l2] M) fun M1 =>
    lp d 81 F 36 [some (vR 2 0 50), some (vI l1), some (vI l2), some (vI l3)] M1) (
    cVd (evD d 77 [vR 2 0 50, vI (l2 + 1)] M) fun M2 =>
    lp d 81 F 36 [some (vR 2 0 50), some (vI l1), some (vI l2), some (vI l3)] M2) := ((evp_step (code := lkE (codT 81)) (hd := hdT 81) (call := evD d) (F := F) (pc := 21) (lv := [some (vR 2 0 50), some (vI l1), some (vI l2), some (vI l3)]) (M := M) (e := (.aload_n 0, 1, 0, 0, 0, 0, 0)) rfl).trans (g81_21 (evD d) (evp (lkE (codT 81)) (hdT 81) (evD d) F) l1 l2 l3 M))
set_option maxRecDepth 100000 in
theorem g81_36 (call : Nat → List AV → Mem → Res) (back : Nat → Lv → Mem → Res) (l1 : Int32) (l2 : Int32) (l3 : Int32) (M : Mem) : stepK call back (evj (lkE cd_81) [21, 36, 74] call back 4000) (.iload_n 3, 1, 3, 0, 0, 0, 0) 36 [some (vR 2 0 50), some (vI l1), some (vI l2), some (vI l3)] [] M =
  ic (l3 = 0) (
    back 74 [some (vR 2 0 50), some (vI l1), some (vI l2), some (vI l3)] M) (
    ic (0 < M.1 50 2) (
      ic ((M.1 50 2) - 1 < 0 ∨ 48 ≤ ((M.1 50 2) - 1).toNatClampNeg) none (
        cIn (call 78 [vI (M.1 51 ((M.1 50 2) - 1).toNatClampNeg)] M) fun v2 M1 =>
        ic (v2 = l2) (
          cIn (call 45 [vR 7 0 1, vI 1] M1) fun v4 M3 =>
          ic (v4 &&& 1 = v4) (
            some (some (vI v4), M3)) none) (
          back 74 [some (vR 2 0 50), some (vI l1), some (vI l2), some (vI l3)] M1))) (
      back 74 [some (vR 2 0 50), some (vI l1), some (vI l2), some (vI l3)] M)) := rfl
set_option maxRecDepth 100000 in
theorem e81_36 (d F : Nat) (l1 : Int32) (l2 : Int32) (l3 : Int32) (M : Mem) : lp d 81 (F + 1) 36 [some (vR 2 0 50), some (vI l1), some (vI l2), some (vI l3)] M =
  ic (l3 = 0) (
    lp d 81 F 74 [some (vR 2 0 50), some (vI l1), some (vI l2), some (vI l3)] M) (
    ic (0 < M.1 50 2) (
      ic ((M.1 50 2) - 1 < 0 ∨ 48 ≤ ((M.1 50 2) - 1).toNatClampNeg) none (
        cIn (evD d 78 [vI (M.1 51 ((M.1 50 2) - 1).toNatClampNeg)] M) fun v2 M1 =>
        ic (v2 = l2) (
          cIn (evD d 45 [vR 7 0 1, vI 1] M1) fun v4 M3 =>
          ic (v4 &&& 1 = v4) (
            some (some (vI v4), M3)) none) (
          lp d 81 F 74 [some (vR 2 0 50), some (vI l1), some (vI l2), some (vI l3)] M1))) (
      lp d 81 F 74 [some (vR 2 0 50), some (vI l1), some (vI l2), some (vI l3)] M)) := ((evp_step (code := lkE (codT 81)) (hd := hdT 81) (call := evD d) (F := F) (pc := 36) (lv := [some (vR 2 0 50), some (vI l1), some (vI l2), some (vI l3)]) (M := M) (e := (.iload_n 3, 1, 3, 0, 0, 0, 0)) rfl).trans (g81_36 (evD d) (evp (lkE (codT 81)) (hdT 81) (evD d) F) l1 l2 l3 M))
set_option maxRecDepth 100000 in
theorem g81_74 (call : Nat → List AV → Mem → Res) (back : Nat → Lv → Mem → Res) (l1 : Int32) (o2 : Option AV) (o3 : Option AV) (M : Mem) : stepK call back (evj (lkE cd_81) [21, 36, 74] call back 4000) (.aload_n 0, 1, 0, 0, 0, 0, 0) 74 [some (vR 2 0 50), some (vI l1), o2, o3] [] M =
  cVd (call 72 [vR 2 0 50, vI l1] M) fun M1 =>
  cVd (call 11 [vR 7 0 1] M1) fun M2 =>
  ic ((1 : Int32) &&& 1 = 1) (
    some (some (vI 1), M2)) none := rfl
set_option maxRecDepth 100000 in
theorem e81_74 (d F : Nat) (l1 : Int32) (o2 : Option AV) (o3 : Option AV) (M : Mem) : lp d 81 (F + 1) 74 [some (vR 2 0 50), some (vI l1), o2, o3] M =
  cVd (evD d 72 [vR 2 0 50, vI l1] M) fun M1 =>
  cVd (evD d 11 [vR 7 0 1] M1) fun M2 =>
  some (some (vI 1), M2) := ((evp_step (code := lkE (codT 81)) (hd := hdT 81) (call := evD d) (F := F) (pc := 74) (lv := [some (vR 2 0 50), some (vI l1), o2, o3]) (M := M) (e := (.aload_n 0, 1, 0, 0, 0, 0, 0)) rfl).trans (g81_74 (evD d) (evp (lkE (codT 81)) (hdT 81) (evD d) F) l1 o2 o3 M)).trans (by (try simp only [ic_t (show (1 : Int32) &&& 1 = 1 by decide)]))
-- IceParliament$Tape clear()V
set_option maxRecDepth 100000 in
theorem j82 (call : Nat → List AV → Mem → Res) (back : Nat → Lv → Mem → Res)  (M : Mem) : evj (lkE cd_82) [] call back 4000 0 [some (vR 7 0 1)] [] M =
  some (none, sI M 1 0 0) := rfl
set_option maxRecDepth 100000 in
theorem e82 (d : Nat)  (M : Mem) : evD (d + 1) 82 [vR 7 0 1] M =
  some (none, sI M 1 0 0) := ((evD_step (d := d) (x := 82) (as := [vR 7 0 1]) (M := M) (md := (⟨"IceParliament$Tape", "clear", "()V"⟩, prog_9_method_3_code, 1, (Option.none : Option Jvm.ClassFile.FieldType), 7, 7)) rfl rfl).trans (j82 (evD d) (evp0 (lkE (codT 82)) (hdT 82) (evD d))  M))
-- IceParliament$Yard copyFrom(LIceParliament$Yard;)V
set_option maxRecDepth 100000 in
theorem j83 (call : Nat → List AV → Mem → Res) (back : Nat → Lv → Mem → Res) (kY : Nat) (kY' : Nat) (M : Mem) : evj (lkE cd_83) [78, 123, 168, 199] call back 4000 0 [some (vR 9 0 kY), some (vR 9 0 kY')] [] M =
  cVd (call 84 [vR 4 0 (kY + 1), vR 4 0 (kY' + 1)] M) fun M1 =>
  cVd (call 84 [vR 4 0 (kY + 3), vR 4 0 (kY' + 3)] M1) fun M2 =>
  cVd (call 84 [vR 4 0 (kY + 5), vR 4 0 (kY' + 5)] M2) fun M3 =>
  ic ((0 : Int32) < 0 ∨ (0 : Int32) < 0 ∨ (6 : Int32) < 0 ∨ 6 < (0 : Int32).toNatClampNeg + (6 : Int32).toNatClampNeg ∨ 6 < (0 : Int32).toNatClampNeg + (6 : Int32).toNatClampNeg) none (
    ic ((0 : Int32) < 0 ∨ (0 : Int32) < 0 ∨ (6 : Int32) < 0 ∨ 6 < (0 : Int32).toNatClampNeg + (6 : Int32).toNatClampNeg ∨ 6 < (0 : Int32).toNatClampNeg + (6 : Int32).toNatClampNeg) none (
      ic ((0 : Int32) < 0 ∨ (0 : Int32) < 0 ∨ (6 : Int32) < 0 ∨ 6 < (0 : Int32).toNatClampNeg + (6 : Int32).toNatClampNeg ∨ 6 < (0 : Int32).toNatClampNeg + (6 : Int32).toNatClampNeg) none (
        back 78 [some (vR 9 0 kY), some (vR 9 0 kY')] (cpI (cpI (cpI M3 (kY' + 7) ((0 : Int32).toNatClampNeg) (kY + 7) ((0 : Int32).toNatClampNeg) ((6 : Int32).toNatClampNeg)) (kY' + 8) ((0 : Int32).toNatClampNeg) (kY + 8) ((0 : Int32).toNatClampNeg) ((6 : Int32).toNatClampNeg)) (kY' + 9) ((0 : Int32).toNatClampNeg) (kY + 9) ((0 : Int32).toNatClampNeg) ((6 : Int32).toNatClampNeg))))) := rfl
set_option maxRecDepth 100000 in
theorem e83 (d : Nat) (kY : Nat) (kY' : Nat) (M : Mem) : evD (d + 1) 83 [vR 9 0 kY, vR 9 0 kY'] M =
  cVd (evD d 84 [vR 4 0 (kY + 1), vR 4 0 (kY' + 1)] M) fun M1 =>
  cVd (evD d 84 [vR 4 0 (kY + 3), vR 4 0 (kY' + 3)] M1) fun M2 =>
  cVd (evD d 84 [vR 4 0 (kY + 5), vR 4 0 (kY' + 5)] M2) fun M3 =>
  lp0 d 83 78 [some (vR 9 0 kY), some (vR 9 0 kY')] (cpI (cpI (cpI M3 (kY' + 7) 0 (kY + 7) 0 6) (kY' + 8) 0 (kY + 8) 0 6) (kY' + 9) 0 (kY + 9) 0 6) := ((evD_step (d := d) (x := 83) (as := [vR 9 0 kY, vR 9 0 kY']) (M := M) (md := (⟨"IceParliament$Yard", "copyFrom", "(LIceParliament$Yard;)V"⟩, prog_11_method_3_code, 2, (Option.none : Option Jvm.ClassFile.FieldType), 9, 9)) rfl rfl).trans (j83 (evD d) (evp0 (lkE (codT 83)) (hdT 83) (evD d)) kY kY' M)).trans (by (try simp only [ic_f (show ¬ ((0 : Int32) < 0 ∨ (0 : Int32) < 0 ∨ (6 : Int32) < 0 ∨ 6 < (0 : Int32).toNatClampNeg + (6 : Int32).toNatClampNeg ∨ 6 < (0 : Int32).toNatClampNeg + (6 : Int32).toNatClampNeg) by decide)]); (try simp only [show (0 : Int32).toNatClampNeg = 0 from rfl, show (6 : Int32).toNatClampNeg = 6 from rfl]))
set_option maxRecDepth 100000 in
theorem g83_78 (call : Nat → List AV → Mem → Res) (back : Nat → Lv → Mem → Res) (kY : Nat) (kY' : Nat) (M : Mem) : stepK call back (evj (lkE cd_83) [78, 123, 168, 199] call back 4000) (.aload_n 1, 1, 1, 0, 0, 0, 0) 78 [some (vR 9 0 kY), some (vR 9 0 kY')] [] M =
  ic ((0 : Int32) < 0 ∨ (0 : Int32) < 0 ∨ (6 : Int32) < 0 ∨ 6 < (0 : Int32).toNatClampNeg + (6 : Int32).toNatClampNeg ∨ 6 < (0 : Int32).toNatClampNeg + (6 : Int32).toNatClampNeg) none (
    ic ((0 : Int32) < 0 ∨ (0 : Int32) < 0 ∨ (6 : Int32) < 0 ∨ 6 < (0 : Int32).toNatClampNeg + (6 : Int32).toNatClampNeg ∨ 6 < (0 : Int32).toNatClampNeg + (6 : Int32).toNatClampNeg) none (
      ic ((0 : Int32) < 0 ∨ (0 : Int32) < 0 ∨ (6 : Int32) < 0 ∨ 6 < (0 : Int32).toNatClampNeg + (6 : Int32).toNatClampNeg ∨ 6 < (0 : Int32).toNatClampNeg + (6 : Int32).toNatClampNeg) none (
        back 123 [some (vR 9 0 kY), some (vR 9 0 kY')] (cpI (cpI (cpI M (kY' + 10) ((0 : Int32).toNatClampNeg) (kY + 10) ((0 : Int32).toNatClampNeg) ((6 : Int32).toNatClampNeg)) (kY' + 11) ((0 : Int32).toNatClampNeg) (kY + 11) ((0 : Int32).toNatClampNeg) ((6 : Int32).toNatClampNeg)) (kY' + 12) ((0 : Int32).toNatClampNeg) (kY + 12) ((0 : Int32).toNatClampNeg) ((6 : Int32).toNatClampNeg))))) := rfl
set_option maxRecDepth 100000 in
theorem e83_78 (d F : Nat) (kY : Nat) (kY' : Nat) (M : Mem) : lp d 83 (F + 1) 78 [some (vR 9 0 kY), some (vR 9 0 kY')] M =
  lp d 83 F 123 [some (vR 9 0 kY), some (vR 9 0 kY')] (cpI (cpI (cpI M (kY' + 10) 0 (kY + 10) 0 6) (kY' + 11) 0 (kY + 11) 0 6) (kY' + 12) 0 (kY + 12) 0 6) := ((evp_step (code := lkE (codT 83)) (hd := hdT 83) (call := evD d) (F := F) (pc := 78) (lv := [some (vR 9 0 kY), some (vR 9 0 kY')]) (M := M) (e := (.aload_n 1, 1, 1, 0, 0, 0, 0)) rfl).trans (g83_78 (evD d) (evp (lkE (codT 83)) (hdT 83) (evD d) F) kY kY' M)).trans (by (try simp only [ic_f (show ¬ ((0 : Int32) < 0 ∨ (0 : Int32) < 0 ∨ (6 : Int32) < 0 ∨ 6 < (0 : Int32).toNatClampNeg + (6 : Int32).toNatClampNeg ∨ 6 < (0 : Int32).toNatClampNeg + (6 : Int32).toNatClampNeg) by decide)]); (try simp only [show (0 : Int32).toNatClampNeg = 0 from rfl, show (6 : Int32).toNatClampNeg = 6 from rfl]))
set_option maxRecDepth 100000 in
theorem g83_123 (call : Nat → List AV → Mem → Res) (back : Nat → Lv → Mem → Res) (kY : Nat) (kY' : Nat) (M : Mem) : stepK call back (evj (lkE cd_83) [78, 123, 168, 199] call back 4000) (.aload_n 1, 1, 1, 0, 0, 0, 0) 123 [some (vR 9 0 kY), some (vR 9 0 kY')] [] M =
  ic ((0 : Int32) < 0 ∨ (0 : Int32) < 0 ∨ (6 : Int32) < 0 ∨ 6 < (0 : Int32).toNatClampNeg + (6 : Int32).toNatClampNeg ∨ 6 < (0 : Int32).toNatClampNeg + (6 : Int32).toNatClampNeg) none (
    ic ((0 : Int32) < 0 ∨ (0 : Int32) < 0 ∨ (6 : Int32) < 0 ∨ 6 < (0 : Int32).toNatClampNeg + (6 : Int32).toNatClampNeg ∨ 6 < (0 : Int32).toNatClampNeg + (6 : Int32).toNatClampNeg) none (
      ic ((0 : Int32) < 0 ∨ (0 : Int32) < 0 ∨ (6 : Int32) < 0 ∨ 6 < (0 : Int32).toNatClampNeg + (6 : Int32).toNatClampNeg ∨ 6 < (0 : Int32).toNatClampNeg + (6 : Int32).toNatClampNeg) none (
        back 168 [some (vR 9 0 kY), some (vR 9 0 kY')] (cpI (cpI (cpI M (kY' + 13) ((0 : Int32).toNatClampNeg) (kY + 13) ((0 : Int32).toNatClampNeg) ((6 : Int32).toNatClampNeg)) (kY' + 14) ((0 : Int32).toNatClampNeg) (kY + 14) ((0 : Int32).toNatClampNeg) ((6 : Int32).toNatClampNeg)) (kY' + 15) ((0 : Int32).toNatClampNeg) (kY + 15) ((0 : Int32).toNatClampNeg) ((6 : Int32).toNatClampNeg))))) := rfl
set_option maxRecDepth 100000 in
theorem e83_123 (d F : Nat) (kY : Nat) (kY' : Nat) (M : Mem) : lp d 83 (F + 1) 123 [some (vR 9 0 kY), some (vR 9 0 kY')] M =
  lp d 83 F 168 [some (vR 9 0 kY), some (vR 9 0 kY')] (cpI (cpI (cpI M (kY' + 13) 0 (kY + 13) 0 6) (kY' + 14) 0 (kY + 14) 0 6) (kY' + 15) 0 (kY + 15) 0 6) := ((evp_step (code := lkE (codT 83)) (hd := hdT 83) (call := evD d) (F := F) (pc := 123) (lv := [some (vR 9 0 kY), some (vR 9 0 kY')]) (M := M) (e := (.aload_n 1, 1, 1, 0, 0, 0, 0)) rfl).trans (g83_123 (evD d) (evp (lkE (codT 83)) (hdT 83) (evD d) F) kY kY' M)).trans (by (try simp only [ic_f (show ¬ ((0 : Int32) < 0 ∨ (0 : Int32) < 0 ∨ (6 : Int32) < 0 ∨ 6 < (0 : Int32).toNatClampNeg + (6 : Int32).toNatClampNeg ∨ 6 < (0 : Int32).toNatClampNeg + (6 : Int32).toNatClampNeg) by decide)]); (try simp only [show (0 : Int32).toNatClampNeg = 0 from rfl, show (6 : Int32).toNatClampNeg = 6 from rfl]))
set_option maxRecDepth 100000 in
theorem g83_168 (call : Nat → List AV → Mem → Res) (back : Nat → Lv → Mem → Res) (kY : Nat) (kY' : Nat) (M : Mem) : stepK call back (evj (lkE cd_83) [78, 123, 168, 199] call back 4000) (.aload_n 0, 1, 0, 0, 0, 0, 0) 168 [some (vR 9 0 kY), some (vR 9 0 kY')] [] M =
  ic ((0 : Int32) < 0 ∨ (0 : Int32) < 0 ∨ (14 : Int32) < 0 ∨ 14 < (0 : Int32).toNatClampNeg + (14 : Int32).toNatClampNeg ∨ 14 < (0 : Int32).toNatClampNeg + (14 : Int32).toNatClampNeg) none (
    back 199 [some (vR 9 0 kY), some (vR 9 0 kY')] (sI (cpI (sI M kY 12 (M.1 kY' 12)) (kY' + 16) ((0 : Int32).toNatClampNeg) (kY + 16) ((0 : Int32).toNatClampNeg) ((14 : Int32).toNatClampNeg)) kY 14 ((cpI (sI M kY 12 (M.1 kY' 12)) (kY' + 16) ((0 : Int32).toNatClampNeg) (kY + 16) ((0 : Int32).toNatClampNeg) ((14 : Int32).toNatClampNeg)).1 kY' 14))) := rfl
set_option maxRecDepth 100000 in
theorem e83_168 (d F : Nat) (kY : Nat) (kY' : Nat) (M : Mem) : lp d 83 (F + 1) 168 [some (vR 9 0 kY), some (vR 9 0 kY')] M =
  lp d 83 F 199 [some (vR 9 0 kY), some (vR 9 0 kY')] (sI (cpI (sI M kY 12 (M.1 kY' 12)) (kY' + 16) 0 (kY + 16) 0 14) kY 14 ((cpI (sI M kY 12 (M.1 kY' 12)) (kY' + 16) 0 (kY + 16) 0 14).1 kY' 14)) := ((evp_step (code := lkE (codT 83)) (hd := hdT 83) (call := evD d) (F := F) (pc := 168) (lv := [some (vR 9 0 kY), some (vR 9 0 kY')]) (M := M) (e := (.aload_n 0, 1, 0, 0, 0, 0, 0)) rfl).trans (g83_168 (evD d) (evp (lkE (codT 83)) (hdT 83) (evD d) F) kY kY' M)).trans (by (try simp only [ic_f (show ¬ ((0 : Int32) < 0 ∨ (0 : Int32) < 0 ∨ (14 : Int32) < 0 ∨ 14 < (0 : Int32).toNatClampNeg + (14 : Int32).toNatClampNeg ∨ 14 < (0 : Int32).toNatClampNeg + (14 : Int32).toNatClampNeg) by decide)]); (try simp only [show (0 : Int32).toNatClampNeg = 0 from rfl, show (14 : Int32).toNatClampNeg = 14 from rfl]))
set_option maxRecDepth 100000 in
theorem g83_199 (call : Nat → List AV → Mem → Res) (back : Nat → Lv → Mem → Res) (kY : Nat) (kY' : Nat) (M : Mem) : stepK call back (evj (lkE cd_83) [78, 123, 168, 199] call back 4000) (.aload_n 0, 1, 0, 0, 0, 0, 0) 199 [some (vR 9 0 kY), some (vR 9 0 kY')] [] M =
  cVd (call 85 [vR 1 0 (kY + 17), vR 1 0 (kY' + 17)] (sI M kY 15 (M.1 kY' 15))) fun M1 =>
  cVd (call 85 [vR 1 0 (kY + 20), vR 1 0 (kY' + 20)] M1) fun M2 =>
  some (none, M2) := rfl
set_option maxRecDepth 100000 in
theorem e83_199 (d F : Nat) (kY : Nat) (kY' : Nat) (M : Mem) : lp d 83 (F + 1) 199 [some (vR 9 0 kY), some (vR 9 0 kY')] M =
  cVd (evD d 85 [vR 1 0 (kY + 17), vR 1 0 (kY' + 17)] (sI M kY 15 (M.1 kY' 15))) fun M1 =>
  cVd (evD d 85 [vR 1 0 (kY + 20), vR 1 0 (kY' + 20)] M1) fun M2 =>
  some (none, M2) := ((evp_step (code := lkE (codT 83)) (hd := hdT 83) (call := evD d) (F := F) (pc := 199) (lv := [some (vR 9 0 kY), some (vR 9 0 kY')]) (M := M) (e := (.aload_n 0, 1, 0, 0, 0, 0, 0)) rfl).trans (g83_199 (evD d) (evp (lkE (codT 83)) (hdT 83) (evD d) F) kY kY' M))
-- IceParliament$Roll copyFrom(LIceParliament$Roll;)V
set_option maxRecDepth 100000 in
theorem j84 (call : Nat → List AV → Mem → Res) (back : Nat → Lv → Mem → Res) (kR : Nat) (kR' : Nat) (M : Mem) : evj (lkE cd_84) [] call back 4000 0 [some (vR 4 0 kR), some (vR 4 0 kR')] [] M =
  ic ((0 : Int32) < 0 ∨ (0 : Int32) < 0 ∨ Int32.ofNat 6 < 0 ∨ 6 < (0 : Int32).toNatClampNeg + (Int32.ofNat 6).toNatClampNeg ∨ 6 < (0 : Int32).toNatClampNeg + (Int32.ofNat 6).toNatClampNeg) none (
    some (none, sI (cpJ M (kR' + 1) ((0 : Int32).toNatClampNeg) (kR + 1) ((0 : Int32).toNatClampNeg) ((Int32.ofNat 6).toNatClampNeg)) kR 0 ((cpJ M (kR' + 1) ((0 : Int32).toNatClampNeg) (kR + 1) ((0 : Int32).toNatClampNeg) ((Int32.ofNat 6).toNatClampNeg)).1 kR' 0))) := rfl
set_option maxRecDepth 100000 in
theorem e84 (d : Nat) (kR : Nat) (kR' : Nat) (M : Mem) : evD (d + 1) 84 [vR 4 0 kR, vR 4 0 kR'] M =
  ic ((0 : Int32) < 0 ∨ (0 : Int32) < 0 ∨ Int32.ofNat 6 < 0 ∨ 6 < 0 + (Int32.ofNat 6).toNatClampNeg ∨ 6 < 0 + (Int32.ofNat 6).toNatClampNeg) none (
    some (none, sI (cpJ M (kR' + 1) 0 (kR + 1) 0 ((Int32.ofNat 6).toNatClampNeg)) kR 0 ((cpJ M (kR' + 1) 0 (kR + 1) 0 ((Int32.ofNat 6).toNatClampNeg)).1 kR' 0))) := ((evD_step (d := d) (x := 84) (as := [vR 4 0 kR, vR 4 0 kR']) (M := M) (md := (⟨"IceParliament$Roll", "copyFrom", "(LIceParliament$Roll;)V"⟩, prog_6_method_3_code, 2, (Option.none : Option Jvm.ClassFile.FieldType), 4, 4)) rfl rfl).trans (j84 (evD d) (evp0 (lkE (codT 84)) (hdT 84) (evD d)) kR kR' M)).trans (by (try simp only [show (0 : Int32).toNatClampNeg = 0 from rfl]))
-- IceParliament$Law copyFrom(LIceParliament$Law;)V
set_option maxRecDepth 100000 in
theorem j85 (call : Nat → List AV → Mem → Res) (back : Nat → Lv → Mem → Res) (kL : Nat) (kL' : Nat) (M : Mem) : evj (lkE cd_85) [] call back 4000 0 [some (vR 1 0 kL), some (vR 1 0 kL')] [] M =
  ic ((0 : Int32) < 0 ∨ (0 : Int32) < 0 ∨ M.1 kL' 2 < 0 ∨ 1000 < (0 : Int32).toNatClampNeg + (M.1 kL' 2).toNatClampNeg ∨ 1000 < (0 : Int32).toNatClampNeg + (M.1 kL' 2).toNatClampNeg) none (
    some (none, sI (cpI M (kL' + 1) ((0 : Int32).toNatClampNeg) (kL + 1) ((0 : Int32).toNatClampNeg) ((M.1 kL' 2).toNatClampNeg)) kL 2 ((cpI M (kL' + 1) ((0 : Int32).toNatClampNeg) (kL + 1) ((0 : Int32).toNatClampNeg) ((M.1 kL' 2).toNatClampNeg)).1 kL' 2))) := rfl
set_option maxRecDepth 100000 in
theorem e85 (d : Nat) (kL : Nat) (kL' : Nat) (M : Mem) : evD (d + 1) 85 [vR 1 0 kL, vR 1 0 kL'] M =
  ic ((0 : Int32) < 0 ∨ (0 : Int32) < 0 ∨ M.1 kL' 2 < 0 ∨ 1000 < 0 + (M.1 kL' 2).toNatClampNeg ∨ 1000 < 0 + (M.1 kL' 2).toNatClampNeg) none (
    some (none, sI (cpI M (kL' + 1) 0 (kL + 1) 0 ((M.1 kL' 2).toNatClampNeg)) kL 2 ((cpI M (kL' + 1) 0 (kL + 1) 0 ((M.1 kL' 2).toNatClampNeg)).1 kL' 2))) := ((evD_step (d := d) (x := 85) (as := [vR 1 0 kL, vR 1 0 kL']) (M := M) (md := (⟨"IceParliament$Law", "copyFrom", "(LIceParliament$Law;)V"⟩, prog_3_method_4_code, 2, (Option.none : Option Jvm.ClassFile.FieldType), 1, 1)) rfl rfl).trans (j85 (evD d) (evp0 (lkE (codT 85)) (hdT 85) (evD d)) kL kL' M)).trans (by (try simp only [show (0 : Int32).toNatClampNeg = 0 from rfl]))
-- IceParliament$Session clear()V
set_option maxRecDepth 100000 in
theorem j86 (call : Nat → List AV → Mem → Res) (back : Nat → Lv → Mem → Res) (kS : Nat) (M : Mem) : evj (lkE cd_86) [] call back 4000 0 [some (vR 5 0 kS)] [] M =
  some (none, sI M kS 3 0) := rfl
set_option maxRecDepth 100000 in
theorem e86 (d : Nat) (kS : Nat) (M : Mem) : evD (d + 1) 86 [vR 5 0 kS] M =
  some (none, sI M kS 3 0) := ((evD_step (d := d) (x := 86) (as := [vR 5 0 kS]) (M := M) (md := (⟨"IceParliament$Session", "clear", "()V"⟩, prog_7_method_2_code, 1, (Option.none : Option Jvm.ClassFile.FieldType), 5, 5)) rfl rfl).trans (j86 (evD d) (evp0 (lkE (codT 86)) (hdT 86) (evD d)) kS M))
-- IceParliament session()I
set_option maxRecDepth 100000 in
theorem j87 (call : Nat → List AV → Mem → Res) (back : Nat → Lv → Mem → Res)  (M : Mem) : evj (lkE cd_87) [] call back 4000 0 [some (vR 11 0 0), none] [] M =
  cIn (call 88 [vR 5 0 56, vR 7 0 1, vR 9 0 3] M) fun v2 M1 =>
  cVd (call 82 [vR 7 0 1] M1) fun M3 =>
  ic (v2 = 0) (
    cVd (call 92 [vR 5 0 52, vR 5 0 56] M3) fun M4 =>
    some (some (vI v2), M4)) (
    some (some (vI v2), M3)) := rfl
set_option maxRecDepth 100000 in
theorem e87 (d : Nat)  (M : Mem) : evD (d + 1) 87 [vR 11 0 0] M =
  cIn (evD d 88 [vR 5 0 56, vR 7 0 1, vR 9 0 3] M) fun v2 M1 =>
  cVd (evD d 82 [vR 7 0 1] M1) fun M3 =>
  ic (v2 = 0) (
    cVd (evD d 92 [vR 5 0 52, vR 5 0 56] M3) fun M4 =>
    some (some (vI v2), M4)) (
    some (some (vI v2), M3)) := ((evD_step (d := d) (x := 87) (as := [vR 11 0 0]) (M := M) (md := (⟨"IceParliament", "session", "()I"⟩, prog_1_method_4_code, 2, (Option.some Jvm.ClassFile.FieldType.int), 11, 11)) rfl rfl).trans (j87 (evD d) (evp0 (lkE (codT 87)) (hdT 87) (evD d))  M))
-- IceParliament$Session read(LIceParliament$Tape;LIceParliament$Yard;)I
set_option maxRecDepth 100000 in
theorem j88 (call : Nat → List AV → Mem → Res) (back : Nat → Lv → Mem → Res) (kS : Nat) (kY : Nat) (M : Mem) : evj (lkE cd_88) [10] call back 4000 0 [some (vR 5 0 kS), some (vR 7 0 1), some (vR 9 0 kY), none] [] M =
  cVd (call 86 [vR 5 0 kS] M) fun M1 =>
  cVd (call 10 [vR 7 0 1] M1) fun M2 =>
  back 10 [some (vR 5 0 kS), some (vR 7 0 1), some (vR 9 0 kY), some (vI 0)] M2 := rfl
set_option maxRecDepth 100000 in
theorem e88 (d : Nat) (kS : Nat) (kY : Nat) (M : Mem) : evD (d + 1) 88 [vR 5 0 kS, vR 7 0 1, vR 9 0 kY] M =
  cVd (evD d 86 [vR 5 0 kS] M) fun M1 =>
  cVd (evD d 10 [vR 7 0 1] M1) fun M2 =>
  lp0 d 88 10 [some (vR 5 0 kS), some (vR 7 0 1), some (vR 9 0 kY), some (vI 0)] M2 := ((evD_step (d := d) (x := 88) (as := [vR 5 0 kS, vR 7 0 1, vR 9 0 kY]) (M := M) (md := (⟨"IceParliament$Session", "read", "(LIceParliament$Tape;LIceParliament$Yard;)I"⟩, prog_7_method_4_code, 4, (Option.some Jvm.ClassFile.FieldType.int), 5, 5)) rfl rfl).trans (j88 (evD d) (evp0 (lkE (codT 88)) (hdT 88) (evD d)) kS kY M))
set_option maxRecDepth 100000 in
theorem g88_10 (call : Nat → List AV → Mem → Res) (back : Nat → Lv → Mem → Res) (kS : Nat) (kY : Nat) (l3 : Int32) (M : Mem) : stepK call back (evj (lkE cd_88) [10] call back 4000) (.iload_n 3, 1, 3, 0, 0, 0, 0) 10 [some (vR 5 0 kS), some (vR 7 0 1), some (vR 9 0 kY), some (vI l3)] [] M =
  ic (40 < l3) (
    some (some (vI 0), M)) (
    cIn (call 33 [vR 7 0 1] M) fun v2 M1 =>
    ic (v2 = 0) (
      cIn (call 89 [vR 5 0 kS, vR 7 0 1, vR 9 0 kY] M1) fun v4 M3 =>
      ic (v4 = 0) (
        some (some (vI (M3.1 1 1)), M3)) (
        back 10 [some (vR 5 0 kS), some (vR 7 0 1), some (vR 9 0 kY), some (vI (l3 + 1))] M3)) (
      some (some (vI 0), M1))) := rfl
set_option maxRecDepth 100000 in
theorem e88_10 (d F : Nat) (kS : Nat) (kY : Nat) (l3 : Int32) (M : Mem) : lp d 88 (F + 1) 10 [some (vR 5 0 kS), some (vR 7 0 1), some (vR 9 0 kY), some (vI l3)] M =
  ic (40 < l3) (
    some (some (vI 0), M)) (
    cIn (evD d 33 [vR 7 0 1] M) fun v2 M1 =>
    ic (v2 = 0) (
      cIn (evD d 89 [vR 5 0 kS, vR 7 0 1, vR 9 0 kY] M1) fun v4 M3 =>
      ic (v4 = 0) (
        some (some (vI (M3.1 1 1)), M3)) (
        lp d 88 F 10 [some (vR 5 0 kS), some (vR 7 0 1), some (vR 9 0 kY), some (vI (l3 + 1))] M3)) (
      some (some (vI 0), M1))) := ((evp_step (code := lkE (codT 88)) (hd := hdT 88) (call := evD d) (F := F) (pc := 10) (lv := [some (vR 5 0 kS), some (vR 7 0 1), some (vR 9 0 kY), some (vI l3)]) (M := M) (e := (.iload_n 3, 1, 3, 0, 0, 0, 0)) rfl).trans (g88_10 (evD d) (evp (lkE (codT 88)) (hdT 88) (evD d) F) kS kY l3 M))
-- IceParliament$Session readLine(LIceParliament$Tape;LIceParliament$Yard;)Z
set_option maxRecDepth 100000 in
theorem j89 (call : Nat → List AV → Mem → Res) (back : Nat → Lv → Mem → Res) (kS : Nat) (kY : Nat) (M : Mem) : evj (lkE cd_89) [] call back 4000 0 [some (vR 5 0 kS), some (vR 7 0 1), some (vR 9 0 kY), none] [] M =
  cIn (call 90 [vR 7 0 1] M) fun v2 M1 =>
  ic (v2 = (-1)) (
    cIn (call 45 [vR 7 0 1, vI 1] M1) fun v11 M10 =>
    ic (v11 &&& 1 = v11) (
      some (some (vI v11), M10)) none) (
    ic (M1.1 kS 3 < 40) (
      cVd (call 11 [vR 7 0 1] M1) fun M3 =>
      cIn (call 91 [vR 5 0 kS, vR 7 0 1, vR 9 0 kY, vI v2] M3) fun v5 M4 =>
      ic (v5 = 0) (
        ic ((0 : Int32) &&& 1 = 0) (
          some (some (vI 0), M4)) none) (
        cIn (call 54 [vR 7 0 1, vI 59] M4) fun v7 M6 =>
        ic (v7 = 0) (
          ic ((0 : Int32) &&& 1 = 0) (
            some (some (vI 0), M6)) none) (
          ic (M6.1 kS 3 < 0 ∨ 40 ≤ (M6.1 kS 3).toNatClampNeg) none (
            ic ((1 : Int32) &&& 1 = 1) (
              some (some (vI 1), sI (sI M6 (kS + 1) ((M6.1 kS 3).toNatClampNeg) v2) kS 3 (((sI M6 (kS + 1) ((M6.1 kS 3).toNatClampNeg) v2).1 kS 3) + 1))) none)))) (
      cIn (call 45 [vR 7 0 1, vI 5] M1) fun v9 M8 =>
      ic (v9 &&& 1 = v9) (
        some (some (vI v9), M8)) none)) := rfl
set_option maxRecDepth 100000 in
theorem e89 (d : Nat) (kS : Nat) (kY : Nat) (M : Mem) : evD (d + 1) 89 [vR 5 0 kS, vR 7 0 1, vR 9 0 kY] M =
  cIn (evD d 90 [vR 7 0 1] M) fun v2 M1 =>
  ic (v2 = (-1)) (
    cIn (evD d 45 [vR 7 0 1, vI 1] M1) fun v11 M10 =>
    ic (v11 &&& 1 = v11) (
      some (some (vI v11), M10)) none) (
    ic (M1.1 kS 3 < 40) (
      cVd (evD d 11 [vR 7 0 1] M1) fun M3 =>
      cIn (evD d 91 [vR 5 0 kS, vR 7 0 1, vR 9 0 kY, vI v2] M3) fun v5 M4 =>
      ic (v5 = 0) (
        some (some (vI 0), M4)) (
        cIn (evD d 54 [vR 7 0 1, vI 59] M4) fun v7 M6 =>
        ic (v7 = 0) (
          some (some (vI 0), M6)) (
          ic (M6.1 kS 3 < 0 ∨ 40 ≤ (M6.1 kS 3).toNatClampNeg) none (
            some (some (vI 1), sI (sI M6 (kS + 1) ((M6.1 kS 3).toNatClampNeg) v2) kS 3 (((sI M6 (kS + 1) ((M6.1 kS 3).toNatClampNeg) v2).1 kS 3) + 1)))))) (
      cIn (evD d 45 [vR 7 0 1, vI 5] M1) fun v9 M8 =>
      ic (v9 &&& 1 = v9) (
        some (some (vI v9), M8)) none)) := ((evD_step (d := d) (x := 89) (as := [vR 5 0 kS, vR 7 0 1, vR 9 0 kY]) (M := M) (md := (⟨"IceParliament$Session", "readLine", "(LIceParliament$Tape;LIceParliament$Yard;)Z"⟩, prog_7_method_5_code, 4, (Option.some Jvm.ClassFile.FieldType.boolean), 5, 5)) rfl rfl).trans (j89 (evD d) (evp0 (lkE (codT 89)) (hdT 89) (evD d)) kS kY M)).trans (by (try simp only [ic_t (show (0 : Int32) &&& 1 = 0 by decide), ic_t (show (1 : Int32) &&& 1 = 1 by decide)]))
-- IceParliament$Session deedHere(LIceParliament$Tape;)I
set_option maxRecDepth 100000 in
theorem j90 (call : Nat → List AV → Mem → Res) (back : Nat → Lv → Mem → Res)  (M : Mem) : evj (lkE cd_90) [] call back 4000 0 [some (vR 7 0 1)] [] M =
  cIn (call 35 [vR 7 0 1, vR 40 30 (SB + 30)] M) fun v2 M1 =>
  ic (v2 = 0) (
    cIn (call 35 [vR 7 0 1, vR 40 31 (SB + 31)] M1) fun v4 M3 =>
    ic (v4 = 0) (
      cIn (call 35 [vR 7 0 1, vR 40 32 (SB + 32)] M3) fun v6 M5 =>
      ic (v6 = 0) (
        cIn (call 35 [vR 7 0 1, vR 40 33 (SB + 33)] M5) fun v8 M7 =>
        ic (v8 = 0) (
          cIn (call 35 [vR 7 0 1, vR 40 34 (SB + 34)] M7) fun v10 M9 =>
          ic (v10 = 0) (
            some (some (vI (-1)), M9)) (
            some (some (vI 4), M9))) (
          some (some (vI 3), M7))) (
        some (some (vI 2), M5))) (
      some (some (vI 1), M3))) (
    some (some (vI 0), M1)) := rfl
set_option maxRecDepth 100000 in
theorem e90 (d : Nat)  (M : Mem) : evD (d + 1) 90 [vR 7 0 1] M =
  cIn (evD d 35 [vR 7 0 1, vR 40 30 (SB + 30)] M) fun v2 M1 =>
  ic (v2 = 0) (
    cIn (evD d 35 [vR 7 0 1, vR 40 31 (SB + 31)] M1) fun v4 M3 =>
    ic (v4 = 0) (
      cIn (evD d 35 [vR 7 0 1, vR 40 32 (SB + 32)] M3) fun v6 M5 =>
      ic (v6 = 0) (
        cIn (evD d 35 [vR 7 0 1, vR 40 33 (SB + 33)] M5) fun v8 M7 =>
        ic (v8 = 0) (
          cIn (evD d 35 [vR 7 0 1, vR 40 34 (SB + 34)] M7) fun v10 M9 =>
          ic (v10 = 0) (
            some (some (vI (-1)), M9)) (
            some (some (vI 4), M9))) (
          some (some (vI 3), M7))) (
        some (some (vI 2), M5))) (
      some (some (vI 1), M3))) (
    some (some (vI 0), M1)) := ((evD_step (d := d) (x := 90) (as := [vR 7 0 1]) (M := M) (md := (⟨"IceParliament$Session", "deedHere", "(LIceParliament$Tape;)I"⟩, prog_7_method_6_code, 1, (Option.some Jvm.ClassFile.FieldType.int), 5, 99)) rfl rfl).trans (j90 (evD d) (evp0 (lkE (codT 90)) (hdT 90) (evD d))  M))
-- IceParliament$Session takeNames(LIceParliament$Tape;LIceParliament$Yard;I)Z
set_option maxRecDepth 100000 in
theorem j91 (call : Nat → List AV → Mem → Res) (back : Nat → Lv → Mem → Res) (kS : Nat) (kY : Nat) (p2 : Int32) (M : Mem) : evj (lkE cd_91) [30, 55, 80] call back 4000 0 [some (vR 5 0 kS), some (vR 7 0 1), some (vR 9 0 kY), some (vI p2)] [] M =
  ic (p2 = 4) (
    ic ((1 : Int32) &&& 1 = 1) (
      some (some (vI 1), M)) none) (
    ic (p2 = 1) (
      cIn (call 63 [vR 7 0 1, vR 4 0 (kY + 3)] M) fun v8 M7 =>
      ic (v8 = 0) (
        back 30 [some (vR 5 0 kS), some (vR 7 0 1), some (vR 9 0 kY), some (vI p2)] M7) (
        ic (M7.1 kS 3 < 0 ∨ 40 ≤ (M7.1 kS 3).toNatClampNeg) none (
          ic (p2 = 2) (
            back 55 [some (vR 5 0 kS), some (vR 7 0 1), some (vR 9 0 kY), some (vI p2)] (sI M7 (kS + 2) ((M7.1 kS 3).toNatClampNeg) (M7.1 1 3))) (
            ic (p2 = 3) (
              back 55 [some (vR 5 0 kS), some (vR 7 0 1), some (vR 9 0 kY), some (vI p2)] (sI M7 (kS + 2) ((M7.1 kS 3).toNatClampNeg) (M7.1 1 3))) (
              ic (p2 = 1) (
                cIn (call 63 [vR 7 0 1, vR 4 0 (kY + 5)] (sI M7 (kS + 2) ((M7.1 kS 3).toNatClampNeg) (M7.1 1 3))) fun v12 M11 =>
                ic (v12 = 0) (
                  back 80 [some (vR 5 0 kS), some (vR 7 0 1), some (vR 9 0 kY), some (vI p2)] M11) (
                  ic (M11.1 kS 3 < 0 ∨ 40 ≤ (M11.1 kS 3).toNatClampNeg) none (
                    ic ((1 : Int32) &&& 1 = 1) (
                      some (some (vI 1), sI M11 (kS + 3) ((M11.1 kS 3).toNatClampNeg) (M11.1 1 3))) none))) (
                cIn (call 63 [vR 7 0 1, vR 4 0 (kY + 1)] (sI M7 (kS + 2) ((M7.1 kS 3).toNatClampNeg) (M7.1 1 3))) fun v10 M9 =>
                ic (v10 = 0) (
                  back 80 [some (vR 5 0 kS), some (vR 7 0 1), some (vR 9 0 kY), some (vI p2)] M9) (
                  ic (M9.1 kS 3 < 0 ∨ 40 ≤ (M9.1 kS 3).toNatClampNeg) none (
                    ic ((1 : Int32) &&& 1 = 1) (
                      some (some (vI 1), sI M9 (kS + 3) ((M9.1 kS 3).toNatClampNeg) (M9.1 1 3))) none)))))))) (
      cIn (call 63 [vR 7 0 1, vR 4 0 (kY + 5)] M) fun v2 M1 =>
      ic (v2 = 0) (
        back 30 [some (vR 5 0 kS), some (vR 7 0 1), some (vR 9 0 kY), some (vI p2)] M1) (
        ic (M1.1 kS 3 < 0 ∨ 40 ≤ (M1.1 kS 3).toNatClampNeg) none (
          ic (p2 = 2) (
            back 55 [some (vR 5 0 kS), some (vR 7 0 1), some (vR 9 0 kY), some (vI p2)] (sI M1 (kS + 2) ((M1.1 kS 3).toNatClampNeg) (M1.1 1 3))) (
            ic (p2 = 3) (
              back 55 [some (vR 5 0 kS), some (vR 7 0 1), some (vR 9 0 kY), some (vI p2)] (sI M1 (kS + 2) ((M1.1 kS 3).toNatClampNeg) (M1.1 1 3))) (
              ic (p2 = 1) (
                cIn (call 63 [vR 7 0 1, vR 4 0 (kY + 5)] (sI M1 (kS + 2) ((M1.1 kS 3).toNatClampNeg) (M1.1 1 3))) fun v6 M5 =>
                ic (v6 = 0) (
                  back 80 [some (vR 5 0 kS), some (vR 7 0 1), some (vR 9 0 kY), some (vI p2)] M5) (
                  ic (M5.1 kS 3 < 0 ∨ 40 ≤ (M5.1 kS 3).toNatClampNeg) none (
                    ic ((1 : Int32) &&& 1 = 1) (
                      some (some (vI 1), sI M5 (kS + 3) ((M5.1 kS 3).toNatClampNeg) (M5.1 1 3))) none))) (
                cIn (call 63 [vR 7 0 1, vR 4 0 (kY + 1)] (sI M1 (kS + 2) ((M1.1 kS 3).toNatClampNeg) (M1.1 1 3))) fun v4 M3 =>
                ic (v4 = 0) (
                  back 80 [some (vR 5 0 kS), some (vR 7 0 1), some (vR 9 0 kY), some (vI p2)] M3) (
                  ic (M3.1 kS 3 < 0 ∨ 40 ≤ (M3.1 kS 3).toNatClampNeg) none (
                    ic ((1 : Int32) &&& 1 = 1) (
                      some (some (vI 1), sI M3 (kS + 3) ((M3.1 kS 3).toNatClampNeg) (M3.1 1 3))) none))))))))) := rfl
set_option maxRecDepth 100000 in
theorem e91 (d : Nat) (kS : Nat) (kY : Nat) (p2 : Int32) (M : Mem) : evD (d + 1) 91 [vR 5 0 kS, vR 7 0 1, vR 9 0 kY, vI p2] M =
  ic (p2 = 4) (
    some (some (vI 1), M)) (
    ic (p2 = 1) (
      cIn (evD d 63 [vR 7 0 1, vR 4 0 (kY + 3)] M) fun v8 M7 =>
      ic (v8 = 0) (
        lp0 d 91 30 [some (vR 5 0 kS), some (vR 7 0 1), some (vR 9 0 kY), some (vI p2)] M7) (
        ic (M7.1 kS 3 < 0 ∨ 40 ≤ (M7.1 kS 3).toNatClampNeg) none (
          ic (p2 = 2) (
            lp0 d 91 55 [some (vR 5 0 kS), some (vR 7 0 1), some (vR 9 0 kY), some (vI p2)] (sI M7 (kS + 2) ((M7.1 kS 3).toNatClampNeg) (M7.1 1 3))) (
            ic (p2 = 3) (
              lp0 d 91 55 [some (vR 5 0 kS), some (vR 7 0 1), some (vR 9 0 kY), some (vI p2)] (sI M7 (kS + 2) ((M7.1 kS 3).toNatClampNeg) (M7.1 1 3))) (
              ic (p2 = 1) (
                cIn (evD d 63 [vR 7 0 1, vR 4 0 (kY + 5)] (sI M7 (kS + 2) ((M7.1 kS 3).toNatClampNeg) (M7.1 1 3))) fun v12 M11 =>
                ic (v12 = 0) (
                  lp0 d 91 80 [some (vR 5 0 kS), some (vR 7 0 1), some (vR 9 0 kY), some (vI p2)] M11) (
                  ic (M11.1 kS 3 < 0 ∨ 40 ≤ (M11.1 kS 3).toNatClampNeg) none (
                    some (some (vI 1), sI M11 (kS + 3) ((M11.1 kS 3).toNatClampNeg) (M11.1 1 3))))) (
                cIn (evD d 63 [vR 7 0 1, vR 4 0 (kY + 1)] (sI M7 (kS + 2) ((M7.1 kS 3).toNatClampNeg) (M7.1 1 3))) fun v10 M9 =>
                ic (v10 = 0) (
                  lp0 d 91 80 [some (vR 5 0 kS), some (vR 7 0 1), some (vR 9 0 kY), some (vI p2)] M9) (
                  ic (M9.1 kS 3 < 0 ∨ 40 ≤ (M9.1 kS 3).toNatClampNeg) none (
                    some (some (vI 1), sI M9 (kS + 3) ((M9.1 kS 3).toNatClampNeg) (M9.1 1 3)))))))))) (
      cIn (evD d 63 [vR 7 0 1, vR 4 0 (kY + 5)] M) fun v2 M1 =>
      ic (v2 = 0) (
        lp0 d 91 30 [some (vR 5 0 kS), some (vR 7 0 1), some (vR 9 0 kY), some (vI p2)] M1) (
        ic (M1.1 kS 3 < 0 ∨ 40 ≤ (M1.1 kS 3).toNatClampNeg) none (
          ic (p2 = 2) (
            lp0 d 91 55 [some (vR 5 0 kS), some (vR 7 0 1), some (vR 9 0 kY), some (vI p2)] (sI M1 (kS + 2) ((M1.1 kS 3).toNatClampNeg) (M1.1 1 3))) (
            ic (p2 = 3) (
              lp0 d 91 55 [some (vR 5 0 kS), some (vR 7 0 1), some (vR 9 0 kY), some (vI p2)] (sI M1 (kS + 2) ((M1.1 kS 3).toNatClampNeg) (M1.1 1 3))) (
              ic (p2 = 1) (
                cIn (evD d 63 [vR 7 0 1, vR 4 0 (kY + 5)] (sI M1 (kS + 2) ((M1.1 kS 3).toNatClampNeg) (M1.1 1 3))) fun v6 M5 =>
                ic (v6 = 0) (
                  lp0 d 91 80 [some (vR 5 0 kS), some (vR 7 0 1), some (vR 9 0 kY), some (vI p2)] M5) (
                  ic (M5.1 kS 3 < 0 ∨ 40 ≤ (M5.1 kS 3).toNatClampNeg) none (
                    some (some (vI 1), sI M5 (kS + 3) ((M5.1 kS 3).toNatClampNeg) (M5.1 1 3))))) (
                cIn (evD d 63 [vR 7 0 1, vR 4 0 (kY + 1)] (sI M1 (kS + 2) ((M1.1 kS 3).toNatClampNeg) (M1.1 1 3))) fun v4 M3 =>
                ic (v4 = 0) (
                  lp0 d 91 80 [some (vR 5 0 kS), some (vR 7 0 1), some (vR 9 0 kY), some (vI p2)] M3) (
                  ic (M3.1 kS 3 < 0 ∨ 40 ≤ (M3.1 kS 3).toNatClampNeg) none (
                    some (some (vI 1), sI M3 (kS + 3) ((M3.1 kS 3).toNatClampNeg) (M3.1 1 3))))))))))) := ((evD_step (d := d) (x := 91) (as := [vR 5 0 kS, vR 7 0 1, vR 9 0 kY, vI p2]) (M := M) (md := (⟨"IceParliament$Session", "takeNames", "(LIceParliament$Tape;LIceParliament$Yard;I)Z"⟩, prog_7_method_7_code, 4, (Option.some Jvm.ClassFile.FieldType.boolean), 5, 5)) rfl rfl).trans (j91 (evD d) (evp0 (lkE (codT 91)) (hdT 91) (evD d)) kS kY p2 M)).trans (by (try simp only [ic_t (show (1 : Int32) &&& 1 = 1 by decide)]))
set_option maxRecDepth 100000 in
theorem g91_55 (call : Nat → List AV → Mem → Res) (back : Nat → Lv → Mem → Res) (o0 : Option AV) (o1 : Option AV) (o2 : Option AV) (o3 : Option AV) (M : Mem) : stepK call back (evj (lkE cd_91) [30, 55, 80] call back 4000) (.iconst 1, 1, 0, 0, 0, 1, 0) 55 [o0, o1, o2, o3] [] M =
  ic ((1 : Int32) &&& 1 = 1) (
    some (some (vI 1), M)) none := rfl
set_option maxRecDepth 100000 in
theorem e91_55 (d F : Nat) (o0 : Option AV) (o1 : Option AV) (o2 : Option AV) (o3 : Option AV) (M : Mem) : lp d 91 (F + 1) 55 [o0, o1, o2, o3] M =
  some (some (vI 1), M) := ((evp_step (code := lkE (codT 91)) (hd := hdT 91) (call := evD d) (F := F) (pc := 55) (lv := [o0, o1, o2, o3]) (M := M) (e := (.iconst 1, 1, 0, 0, 0, 1, 0)) rfl).trans (g91_55 (evD d) (evp (lkE (codT 91)) (hdT 91) (evD d) F) o0 o1 o2 o3 M)).trans (by (try simp only [ic_t (show (1 : Int32) &&& 1 = 1 by decide)]))
set_option maxRecDepth 100000 in
theorem g91_80 (call : Nat → List AV → Mem → Res) (back : Nat → Lv → Mem → Res) (o0 : Option AV) (o1 : Option AV) (o2 : Option AV) (o3 : Option AV) (M : Mem) : stepK call back (evj (lkE cd_91) [30, 55, 80] call back 4000) (.iconst 0, 1, 0, 0, 0, 0, 0) 80 [o0, o1, o2, o3] [] M =
  ic ((0 : Int32) &&& 1 = 0) (
    some (some (vI 0), M)) none := rfl
set_option maxRecDepth 100000 in
theorem e91_80 (d F : Nat) (o0 : Option AV) (o1 : Option AV) (o2 : Option AV) (o3 : Option AV) (M : Mem) : lp d 91 (F + 1) 80 [o0, o1, o2, o3] M =
  some (some (vI 0), M) := ((evp_step (code := lkE (codT 91)) (hd := hdT 91) (call := evD d) (F := F) (pc := 80) (lv := [o0, o1, o2, o3]) (M := M) (e := (.iconst 0, 1, 0, 0, 0, 0, 0)) rfl).trans (g91_80 (evD d) (evp (lkE (codT 91)) (hdT 91) (evD d) F) o0 o1 o2 o3 M)).trans (by (try simp only [ic_t (show (0 : Int32) &&& 1 = 0 by decide)]))
set_option maxRecDepth 100000 in
theorem g91_30 (call : Nat → List AV → Mem → Res) (back : Nat → Lv → Mem → Res) (o0 : Option AV) (o1 : Option AV) (o2 : Option AV) (o3 : Option AV) (M : Mem) : stepK call back (evj (lkE cd_91) [30, 55, 80] call back 4000) (.iconst 0, 1, 0, 0, 0, 0, 0) 30 [o0, o1, o2, o3] [] M =
  ic ((0 : Int32) &&& 1 = 0) (
    some (some (vI 0), M)) none := rfl
set_option maxRecDepth 100000 in
theorem e91_30 (d F : Nat) (o0 : Option AV) (o1 : Option AV) (o2 : Option AV) (o3 : Option AV) (M : Mem) : lp d 91 (F + 1) 30 [o0, o1, o2, o3] M =
  some (some (vI 0), M) := ((evp_step (code := lkE (codT 91)) (hd := hdT 91) (call := evD d) (F := F) (pc := 30) (lv := [o0, o1, o2, o3]) (M := M) (e := (.iconst 0, 1, 0, 0, 0, 0, 0)) rfl).trans (g91_30 (evD d) (evp (lkE (codT 91)) (hdT 91) (evD d) F) o0 o1 o2 o3 M)).trans (by (try simp only [ic_t (show (0 : Int32) &&& 1 = 0 by decide)]))
-- IceParliament$Session copyFrom(LIceParliament$Session;)V
set_option maxRecDepth 100000 in
theorem j92 (call : Nat → List AV → Mem → Res) (back : Nat → Lv → Mem → Res) (kS : Nat) (kS' : Nat) (M : Mem) : evj (lkE cd_92) [] call back 4000 0 [some (vR 5 0 kS), some (vR 5 0 kS')] [] M =
  ic ((0 : Int32) < 0 ∨ (0 : Int32) < 0 ∨ (40 : Int32) < 0 ∨ 40 < (0 : Int32).toNatClampNeg + (40 : Int32).toNatClampNeg ∨ 40 < (0 : Int32).toNatClampNeg + (40 : Int32).toNatClampNeg) none (
    ic ((0 : Int32) < 0 ∨ (0 : Int32) < 0 ∨ (40 : Int32) < 0 ∨ 40 < (0 : Int32).toNatClampNeg + (40 : Int32).toNatClampNeg ∨ 40 < (0 : Int32).toNatClampNeg + (40 : Int32).toNatClampNeg) none (
      ic ((0 : Int32) < 0 ∨ (0 : Int32) < 0 ∨ (40 : Int32) < 0 ∨ 40 < (0 : Int32).toNatClampNeg + (40 : Int32).toNatClampNeg ∨ 40 < (0 : Int32).toNatClampNeg + (40 : Int32).toNatClampNeg) none (
        some (none, sI (cpI (cpI (cpI M (kS' + 1) ((0 : Int32).toNatClampNeg) (kS + 1) ((0 : Int32).toNatClampNeg) ((40 : Int32).toNatClampNeg)) (kS' + 2) ((0 : Int32).toNatClampNeg) (kS + 2) ((0 : Int32).toNatClampNeg) ((40 : Int32).toNatClampNeg)) (kS' + 3) ((0 : Int32).toNatClampNeg) (kS + 3) ((0 : Int32).toNatClampNeg) ((40 : Int32).toNatClampNeg)) kS 3 ((cpI (cpI (cpI M (kS' + 1) ((0 : Int32).toNatClampNeg) (kS + 1) ((0 : Int32).toNatClampNeg) ((40 : Int32).toNatClampNeg)) (kS' + 2) ((0 : Int32).toNatClampNeg) (kS + 2) ((0 : Int32).toNatClampNeg) ((40 : Int32).toNatClampNeg)) (kS' + 3) ((0 : Int32).toNatClampNeg) (kS + 3) ((0 : Int32).toNatClampNeg) ((40 : Int32).toNatClampNeg)).1 kS' 3))))) := rfl
set_option maxRecDepth 100000 in
theorem e92 (d : Nat) (kS : Nat) (kS' : Nat) (M : Mem) : evD (d + 1) 92 [vR 5 0 kS, vR 5 0 kS'] M =
  some (none, sI (cpI (cpI (cpI M (kS' + 1) 0 (kS + 1) 0 40) (kS' + 2) 0 (kS + 2) 0 40) (kS' + 3) 0 (kS + 3) 0 40) kS 3 ((cpI (cpI (cpI M (kS' + 1) 0 (kS + 1) 0 40) (kS' + 2) 0 (kS + 2) 0 40) (kS' + 3) 0 (kS + 3) 0 40).1 kS' 3)) := ((evD_step (d := d) (x := 92) (as := [vR 5 0 kS, vR 5 0 kS']) (M := M) (md := (⟨"IceParliament$Session", "copyFrom", "(LIceParliament$Session;)V"⟩, prog_7_method_3_code, 2, (Option.none : Option Jvm.ClassFile.FieldType), 5, 5)) rfl rfl).trans (j92 (evD d) (evp0 (lkE (codT 92)) (hdT 92) (evD d)) kS kS' M)).trans (by (try simp only [ic_f (show ¬ ((0 : Int32) < 0 ∨ (0 : Int32) < 0 ∨ (40 : Int32) < 0 ∨ 40 < (0 : Int32).toNatClampNeg + (40 : Int32).toNatClampNeg ∨ 40 < (0 : Int32).toNatClampNeg + (40 : Int32).toNatClampNeg) by decide)]); (try simp only [show (0 : Int32).toNatClampNeg = 0 from rfl, show (40 : Int32).toNatClampNeg = 40 from rfl]))
-- IceParliament act(II)I
set_option maxRecDepth 100000 in
theorem j93 (call : Nat → List AV → Mem → Res) (back : Nat → Lv → Mem → Res) (p0 : Int32) (p1 : Int32) (M : Mem) : evj (lkE cd_93) [] call back 4000 0 [some (vR 11 0 0), some (vI p0), some (vI p1)] [] M =
  cIn (call 94 [vR 11 0 0, vI p0] M) fun v2 M1 =>
  ic (v2 = 0) (
    some (some (vI (-1)), M1)) (
    ic (p1 = Int32.ofInt (0)) (
      ic (p0 < 0 ∨ 6 ≤ p0.toNatClampNeg) none (
        some (some (vI (M1.1 13 p0.toNatClampNeg)), M1))) (
      ic (p1 = Int32.ofInt (1)) (
        ic (p0 < 0 ∨ 6 ≤ p0.toNatClampNeg) none (
          some (some (vI (M1.1 61 p0.toNatClampNeg)), M1))) (
        ic (p1 = Int32.ofInt (2)) (
          ic (p0 < 0 ∨ 6 ≤ p0.toNatClampNeg) none (
            some (some (vI (M1.1 62 p0.toNatClampNeg)), M1))) (
          ic (p1 = Int32.ofInt (3)) (
            cIn (call 95 [vR 9 0 3, vI p0] M1) fun v4 M3 =>
            some (some (vI v4), M3)) (
            ic (p1 = Int32.ofInt (4)) (
              ic (p0 < 0 ∨ 6 ≤ p0.toNatClampNeg) none (
                some (some (vI (M1.1 64 p0.toNatClampNeg)), M1))) (
              ic (p1 = Int32.ofInt (5)) (
                ic (p0 < 0 ∨ 6 ≤ p0.toNatClampNeg) none (
                  some (some (vI (M1.1 63 p0.toNatClampNeg)), M1))) (
                ic (p1 = Int32.ofInt (6)) (
                  cIn (call 96 [vR 6 0 60, vI p0] M1) fun v6 M5 =>
                  ic (v6 = 0) (
                    some (some (vI 0), M5)) (
                    some (some (vI 1), M5))) (
                  ic (p1 = Int32.ofInt (7)) (
                    cIn (call 64 [vI (M1.1 60 8), vI p0] M1) fun v8 M7 =>
                    ic (v8 = 0) (
                      some (some (vI 0), M7)) (
                      some (some (vI 1), M7))) (
                    ic (p1 = Int32.ofInt (8)) (
                      cIn (call 97 [vR 6 0 60, vI p0] M1) fun v10 M9 =>
                      ic (v10 = 0) (
                        some (some (vI 0), M9)) (
                        cIn (call 100 [vR 6 0 60, vI p0, vI 0] M9) fun v12 M11 =>
                        some (some (vI v12), M11))) (
                      some (some (vI (-1)), M1))))))))))) := rfl
set_option maxRecDepth 100000 in
theorem e93 (d : Nat) (p0 : Int32) (p1 : Int32) (M : Mem) : evD (d + 1) 93 [vR 11 0 0, vI p0, vI p1] M =
  cIn (evD d 94 [vR 11 0 0, vI p0] M) fun v2 M1 =>
  ic (v2 = 0) (
    some (some (vI (-1)), M1)) (
    ic (p1 = Int32.ofInt (0)) (
      ic (p0 < 0 ∨ 6 ≤ p0.toNatClampNeg) none (
        some (some (vI (M1.1 13 p0.toNatClampNeg)), M1))) (
      ic (p1 = Int32.ofInt (1)) (
        ic (p0 < 0 ∨ 6 ≤ p0.toNatClampNeg) none (
          some (some (vI (M1.1 61 p0.toNatClampNeg)), M1))) (
        ic (p1 = Int32.ofInt (2)) (
          ic (p0 < 0 ∨ 6 ≤ p0.toNatClampNeg) none (
            some (some (vI (M1.1 62 p0.toNatClampNeg)), M1))) (
          ic (p1 = Int32.ofInt (3)) (
            cIn (evD d 95 [vR 9 0 3, vI p0] M1) fun v4 M3 =>
            some (some (vI v4), M3)) (
            ic (p1 = Int32.ofInt (4)) (
              ic (p0 < 0 ∨ 6 ≤ p0.toNatClampNeg) none (
                some (some (vI (M1.1 64 p0.toNatClampNeg)), M1))) (
              ic (p1 = Int32.ofInt (5)) (
                ic (p0 < 0 ∨ 6 ≤ p0.toNatClampNeg) none (
                  some (some (vI (M1.1 63 p0.toNatClampNeg)), M1))) (
                ic (p1 = Int32.ofInt (6)) (
                  cIn (evD d 96 [vR 6 0 60, vI p0] M1) fun v6 M5 =>
                  ic (v6 = 0) (
                    some (some (vI 0), M5)) (
                    some (some (vI 1), M5))) (
                  ic (p1 = Int32.ofInt (7)) (
                    cIn (evD d 64 [vI (M1.1 60 8), vI p0] M1) fun v8 M7 =>
                    ic (v8 = 0) (
                      some (some (vI 0), M7)) (
                      some (some (vI 1), M7))) (
                    ic (p1 = Int32.ofInt (8)) (
                      cIn (evD d 97 [vR 6 0 60, vI p0] M1) fun v10 M9 =>
                      ic (v10 = 0) (
                        some (some (vI 0), M9)) (
                        cIn (evD d 100 [vR 6 0 60, vI p0, vI 0] M9) fun v12 M11 =>
                        some (some (vI v12), M11))) (
                      some (some (vI (-1)), M1))))))))))) := ((evD_step (d := d) (x := 93) (as := [vR 11 0 0, vI p0, vI p1]) (M := M) (md := (⟨"IceParliament", "act", "(II)I"⟩, prog_1_method_5_code, 3, (Option.some Jvm.ClassFile.FieldType.int), 11, 11)) rfl rfl).trans (j93 (evD d) (evp0 (lkE (codT 93)) (hdT 93) (evD d)) p0 p1 M))
-- IceParliament isAct(I)Z
set_option maxRecDepth 100000 in
theorem j94 (call : Nat → List AV → Mem → Res) (back : Nat → Lv → Mem → Res) (p0 : Int32) (M : Mem) : evj (lkE cd_94) [] call back 4000 0 [some (vR 11 0 0), some (vI p0)] [] M =
  ic (p0 < 0) (
    ic ((0 : Int32) &&& 1 = 0) (
      some (some (vI 0), M)) none) (
    ic (p0 < M.1 8 0) (
      ic ((1 : Int32) &&& 1 = 1) (
        some (some (vI 1), M)) none) (
      ic ((0 : Int32) &&& 1 = 0) (
        some (some (vI 0), M)) none)) := rfl
set_option maxRecDepth 100000 in
theorem e94 (d : Nat) (p0 : Int32) (M : Mem) : evD (d + 1) 94 [vR 11 0 0, vI p0] M =
  ic (p0 < 0) (
    some (some (vI 0), M)) (
    ic (p0 < M.1 8 0) (
      some (some (vI 1), M)) (
      some (some (vI 0), M))) := ((evD_step (d := d) (x := 94) (as := [vR 11 0 0, vI p0]) (M := M) (md := (⟨"IceParliament", "isAct", "(I)Z"⟩, prog_1_method_37_code, 2, (Option.some Jvm.ClassFile.FieldType.boolean), 11, 11)) rfl rfl).trans (j94 (evD d) (evp0 (lkE (codT 94)) (hdT 94) (evD d)) p0 M)).trans (by (try simp only [ic_t (show (0 : Int32) &&& 1 = 0 by decide), ic_t (show (1 : Int32) &&& 1 = 1 by decide)]))
-- IceParliament$Yard doneBy(I)I
set_option maxRecDepth 100000 in
theorem j95 (call : Nat → List AV → Mem → Res) (back : Nat → Lv → Mem → Res) (kY : Nat) (p0 : Int32) (M : Mem) : evj (lkE cd_95) [] call back 4000 0 [some (vR 9 0 kY), some (vI p0)] [] M =
  ic (p0 < 0 ∨ 6 ≤ p0.toNatClampNeg) none (
    ic (M.1 (kY + 10) p0.toNatClampNeg = 1) (
      ic (p0 < 0 ∨ 6 ≤ p0.toNatClampNeg) none (
        ic ((2 : Int32) = 0) none (
          cIn (call 21 [vI 1, vI ((M.1 (kY + 12) p0.toNatClampNeg) / 2)] M) fun v2 M1 =>
          some (some (vI v2), M1)))) (
      ic (p0 < 0 ∨ 6 ≤ p0.toNatClampNeg) none (
        some (some (vI (M.1 (kY + 12) p0.toNatClampNeg)), M)))) := rfl
set_option maxRecDepth 100000 in
theorem e95 (d : Nat) (kY : Nat) (p0 : Int32) (M : Mem) : evD (d + 1) 95 [vR 9 0 kY, vI p0] M =
  ic (p0 < 0 ∨ 6 ≤ p0.toNatClampNeg) none (
    ic (M.1 (kY + 10) p0.toNatClampNeg = 1) (
      ic (p0 < 0 ∨ 6 ≤ p0.toNatClampNeg) none (
        cIn (evD d 21 [vI 1, vI ((M.1 (kY + 12) p0.toNatClampNeg) / 2)] M) fun v2 M1 =>
        some (some (vI v2), M1))) (
      ic (p0 < 0 ∨ 6 ≤ p0.toNatClampNeg) none (
        some (some (vI (M.1 (kY + 12) p0.toNatClampNeg)), M)))) := ((evD_step (d := d) (x := 95) (as := [vR 9 0 kY, vI p0]) (M := M) (md := (⟨"IceParliament$Yard", "doneBy", "(I)I"⟩, prog_11_method_8_code, 2, (Option.some Jvm.ClassFile.FieldType.int), 9, 9)) rfl rfl).trans (j95 (evD d) (evp0 (lkE (codT 95)) (hdT 95) (evD d)) kY p0 M)).trans (by (try simp only [ic_f (show ¬ ((2 : Int32) = 0) by decide)]))
-- IceParliament$State isInForce(I)Z
set_option maxRecDepth 100000 in
theorem j96 (call : Nat → List AV → Mem → Res) (back : Nat → Lv → Mem → Res) (a : Nat) (p0 : Int32) (M : Mem) : evj (lkE cd_96) [] call back 4000 0 [some (vR 6 0 a), some (vI p0)] [] M =
  cIn (call 97 [vR 6 0 a, vI p0] M) fun v2 M1 =>
  ic (v2 = 0) (
    ic ((0 : Int32) &&& 1 = 0) (
      some (some (vI 0), M1)) none) (
    cIn (call 99 [vR 6 0 a, vI p0] M1) fun v4 M3 =>
    ic (v4 = 0) (
      ic ((0 : Int32) &&& 1 = 0) (
        some (some (vI 0), M3)) none) (
      ic ((1 : Int32) &&& 1 = 1) (
        some (some (vI 1), M3)) none)) := rfl
set_option maxRecDepth 100000 in
theorem e96 (d : Nat) (a : Nat) (p0 : Int32) (M : Mem) : evD (d + 1) 96 [vR 6 0 a, vI p0] M =
  cIn (evD d 97 [vR 6 0 a, vI p0] M) fun v2 M1 =>
  ic (v2 = 0) (
    some (some (vI 0), M1)) (
    cIn (evD d 99 [vR 6 0 a, vI p0] M1) fun v4 M3 =>
    ic (v4 = 0) (
      some (some (vI 0), M3)) (
      some (some (vI 1), M3))) := ((evD_step (d := d) (x := 96) (as := [vR 6 0 a, vI p0]) (M := M) (md := (⟨"IceParliament$State", "isInForce", "(I)Z"⟩, prog_8_method_7_code, 2, (Option.some Jvm.ClassFile.FieldType.boolean), 6, 6)) rfl rfl).trans (j96 (evD d) (evp0 (lkE (codT 96)) (hdT 96) (evD d)) a p0 M)).trans (by (try simp only [ic_t (show (0 : Int32) &&& 1 = 0 by decide), ic_t (show (1 : Int32) &&& 1 = 1 by decide)]))
-- IceParliament$State isUp(I)Z
set_option maxRecDepth 100000 in
theorem j97 (call : Nat → List AV → Mem → Res) (back : Nat → Lv → Mem → Res) (a : Nat) (p0 : Int32) (M : Mem) : evj (lkE cd_97) [] call back 4000 0 [some (vR 6 0 a), some (vI p0)] [] M =
  cIn (call 98 [vR 6 0 a] M) fun v2 M1 =>
  cIn (call 64 [vI v2, vI p0] M1) fun v4 M3 =>
  ic (v4 &&& 1 = v4) (
    some (some (vI v4), M3)) none := rfl
set_option maxRecDepth 100000 in
theorem e97 (d : Nat) (a : Nat) (p0 : Int32) (M : Mem) : evD (d + 1) 97 [vR 6 0 a, vI p0] M =
  cIn (evD d 98 [vR 6 0 a] M) fun v2 M1 =>
  cIn (evD d 64 [vI v2, vI p0] M1) fun v4 M3 =>
  ic (v4 &&& 1 = v4) (
    some (some (vI v4), M3)) none := ((evD_step (d := d) (x := 97) (as := [vR 6 0 a, vI p0]) (M := M) (md := (⟨"IceParliament$State", "isUp", "(I)Z"⟩, prog_8_method_5_code, 2, (Option.some Jvm.ClassFile.FieldType.boolean), 6, 6)) rfl rfl).trans (j97 (evD d) (evp0 (lkE (codT 97)) (hdT 97) (evD d)) a p0 M))
-- IceParliament$State up()I
set_option maxRecDepth 100000 in
theorem j98 (call : Nat → List AV → Mem → Res) (back : Nat → Lv → Mem → Res) (a : Nat) (M : Mem) : evj (lkE cd_98) [] call back 4000 0 [some (vR 6 0 a)] [] M =
  some (some (vI ((M.1 a 7) &&& ((M.1 a 8) ^^^ (-1)))), M) := rfl
set_option maxRecDepth 100000 in
theorem e98 (d : Nat) (a : Nat) (M : Mem) : evD (d + 1) 98 [vR 6 0 a] M =
  some (some (vI ((M.1 a 7) &&& ((M.1 a 8) ^^^ (-1)))), M) := ((evD_step (d := d) (x := 98) (as := [vR 6 0 a]) (M := M) (md := (⟨"IceParliament$State", "up", "()I"⟩, prog_8_method_4_code, 1, (Option.some Jvm.ClassFile.FieldType.int), 6, 6)) rfl rfl).trans (j98 (evD d) (evp0 (lkE (codT 98)) (hdT 98) (evD d)) a M))
-- IceParliament$State isDone(I)Z
set_option maxRecDepth 100000 in
theorem j99 (call : Nat → List AV → Mem → Res) (back : Nat → Lv → Mem → Res) (a : Nat) (p0 : Int32) (M : Mem) : evj (lkE cd_99) [] call back 4000 0 [some (vR 6 0 a), some (vI p0)] [] M =
  ic (p0 < 0 ∨ 6 ≤ p0.toNatClampNeg) none (
    cIn (call 95 [vR 9 0 3, vI p0] M) fun v2 M1 =>
    ic (M.1 (a + 2) p0.toNatClampNeg < v2) (
      ic ((0 : Int32) &&& 1 = 0) (
        some (some (vI 0), M1)) none) (
      ic ((1 : Int32) &&& 1 = 1) (
        some (some (vI 1), M1)) none)) := rfl
set_option maxRecDepth 100000 in
theorem e99 (d : Nat) (a : Nat) (p0 : Int32) (M : Mem) : evD (d + 1) 99 [vR 6 0 a, vI p0] M =
  ic (p0 < 0 ∨ 6 ≤ p0.toNatClampNeg) none (
    cIn (evD d 95 [vR 9 0 3, vI p0] M) fun v2 M1 =>
    ic (M.1 (a + 2) p0.toNatClampNeg < v2) (
      some (some (vI 0), M1)) (
      some (some (vI 1), M1))) := ((evD_step (d := d) (x := 99) (as := [vR 6 0 a, vI p0]) (M := M) (md := (⟨"IceParliament$State", "isDone", "(I)Z"⟩, prog_8_method_6_code, 2, (Option.some Jvm.ClassFile.FieldType.boolean), 6, 6)) rfl rfl).trans (j99 (evD d) (evp0 (lkE (codT 99)) (hdT 99) (evD d)) a p0 M)).trans (by (try simp only [ic_t (show (0 : Int32) &&& 1 = 0 by decide), ic_t (show (1 : Int32) &&& 1 = 1 by decide)]))
-- IceParliament$State meltsTonight(II)I
set_option maxRecDepth 100000 in
theorem j100 (call : Nat → List AV → Mem → Res) (back : Nat → Lv → Mem → Res) (a : Nat) (p0 : Int32) (p1 : Int32) (M : Mem) : evj (lkE cd_100) [] call back 4000 0 [some (vR 6 0 a), some (vI p0), some (vI p1)] [] M =
  ic (p0 < 0 ∨ 6 ≤ p0.toNatClampNeg) none (
    ic (p0 < 0 ∨ 6 ≤ p0.toNatClampNeg) none (
      ic (p0 < 0 ∨ 6 ≤ p0.toNatClampNeg) none (
        cIn (call 101 [vR 9 0 3, vI (M.1 a 0)] M) fun v2 M1 =>
        cIn (call 103 [vR 9 0 3, vI p0, vI (M.1 (a + 4) p0.toNatClampNeg), vI (M.1 (a + 1) p0.toNatClampNeg), vI (M.1 (a + 3) p0.toNatClampNeg), vI (v2 + p1)] M1) fun v4 M3 =>
        some (some (vI v4), M3)))) := rfl
set_option maxRecDepth 100000 in
theorem e100 (d : Nat) (a : Nat) (p0 : Int32) (p1 : Int32) (M : Mem) : evD (d + 1) 100 [vR 6 0 a, vI p0, vI p1] M =
  ic (p0 < 0 ∨ 6 ≤ p0.toNatClampNeg) none (
    ic (p0 < 0 ∨ 6 ≤ p0.toNatClampNeg) none (
      ic (p0 < 0 ∨ 6 ≤ p0.toNatClampNeg) none (
        cIn (evD d 101 [vR 9 0 3, vI (M.1 a 0)] M) fun v2 M1 =>
        cIn (evD d 103 [vR 9 0 3, vI p0, vI (M.1 (a + 4) p0.toNatClampNeg), vI (M.1 (a + 1) p0.toNatClampNeg), vI (M.1 (a + 3) p0.toNatClampNeg), vI (v2 + p1)] M1) fun v4 M3 =>
        some (some (vI v4), M3)))) := ((evD_step (d := d) (x := 100) (as := [vR 6 0 a, vI p0, vI p1]) (M := M) (md := (⟨"IceParliament$State", "meltsTonight", "(II)I"⟩, prog_8_method_19_code, 3, (Option.some Jvm.ClassFile.FieldType.int), 6, 6)) rfl rfl).trans (j100 (evD d) (evp0 (lkE (codT 100)) (hdT 100) (evD d)) a p0 p1 M))
-- IceParliament$Yard warmthOf(I)I
set_option maxRecDepth 100000 in
theorem j101 (call : Nat → List AV → Mem → Res) (back : Nat → Lv → Mem → Res) (kY : Nat) (p0 : Int32) (M : Mem) : evj (lkE cd_101) [] call back 4000 0 [some (vR 9 0 kY), some (vI p0)] [] M =
  ic (M.1 kY 14 < 1) (
    some (some (vI 3), M)) (
    cIn (call 102 [vI p0, vI (M.1 kY 14)] M) fun v2 M1 =>
    ic (v2 < 0 ∨ 14 ≤ v2.toNatClampNeg) none (
      some (some (vI (M1.1 (kY + 16) v2.toNatClampNeg)), M1))) := rfl
set_option maxRecDepth 100000 in
theorem e101 (d : Nat) (kY : Nat) (p0 : Int32) (M : Mem) : evD (d + 1) 101 [vR 9 0 kY, vI p0] M =
  ic (M.1 kY 14 < 1) (
    some (some (vI 3), M)) (
    cIn (evD d 102 [vI p0, vI (M.1 kY 14)] M) fun v2 M1 =>
    ic (v2 < 0 ∨ 14 ≤ v2.toNatClampNeg) none (
      some (some (vI (M1.1 (kY + 16) v2.toNatClampNeg)), M1))) := ((evD_step (d := d) (x := 101) (as := [vR 9 0 kY, vI p0]) (M := M) (md := (⟨"IceParliament$Yard", "warmthOf", "(I)I"⟩, prog_11_method_7_code, 2, (Option.some Jvm.ClassFile.FieldType.int), 9, 9)) rfl rfl).trans (j101 (evD d) (evp0 (lkE (codT 101)) (hdT 101) (evD d)) kY p0 M))
-- java/lang/Math floorMod(II)I
set_option maxRecDepth 100000 in
theorem j102 (call : Nat → List AV → Mem → Res) (back : Nat → Lv → Mem → Res) (p0 : Int32) (p1 : Int32) (M : Mem) : evj (lkE cd_102) [] call back 4000 0 [some (vI p0), some (vI p1), none] [] M =
  ic (p1 = 0) none (
    ic (p0 ^^^ p1 < 0) (
      ic (p0 - p0 / p1 * p1 = 0) (
        some (some (vI (p0 - p0 / p1 * p1)), M)) (
        some (some (vI ((p0 - p0 / p1 * p1) + p1)), M))) (
      some (some (vI (p0 - p0 / p1 * p1)), M))) := rfl
set_option maxRecDepth 100000 in
theorem e102 (d : Nat) (p0 : Int32) (p1 : Int32) (M : Mem) : evD (d + 1) 102 [vI p0, vI p1] M =
  ic (p1 = 0) none (
    ic (p0 ^^^ p1 < 0) (
      ic (p0 - p0 / p1 * p1 = 0) (
        some (some (vI (p0 - p0 / p1 * p1)), M)) (
        some (some (vI ((p0 - p0 / p1 * p1) + p1)), M))) (
      some (some (vI (p0 - p0 / p1 * p1)), M))) := ((evD_step (d := d) (x := 102) (as := [vI p0, vI p1]) (M := M) (md := (⟨"java/lang/Math", "floorMod", "(II)I"⟩, prog_21_method_50_code, 3, (Option.some Jvm.ClassFile.FieldType.int), 16, 99)) rfl rfl).trans (j102 (evD d) (evp0 (lkE (codT 102)) (hdT 102) (evD d)) p0 p1 M))
-- IceParliament$Yard meltingOf(IIIII)I
set_option maxRecDepth 100000 in
theorem j103 (call : Nat → List AV → Mem → Res) (back : Nat → Lv → Mem → Res) (kY : Nat) (p0 : Int32) (p1 : Int32) (p2 : Int32) (p3 : Int32) (p4 : Int32) (M : Mem) : evj (lkE cd_103) [24, 26, 85] call back 4000 0 [some (vR 9 0 kY), some (vI p0), some (vI p1), some (vI p2), some (vI p3), some (vI p4), none] [] M =
  ic (p1 < 0) (
    back 24 [some (vR 9 0 kY), some (vI p0), some (vI p1), some (vI p2), some (vI p3), some (vI p4), none] M) (
    ic (p0 < 0 ∨ 6 ≤ p0.toNatClampNeg) none (
      ic (M.1 (kY + 10) p0.toNatClampNeg = 3) (
        ic (p1 < 0 ∨ 6 ≤ p1.toNatClampNeg) none (
          ic (M.1 (kY + 7) p1.toNatClampNeg < 5) (
            back 26 [some (vR 9 0 kY), some (vI p0), some (vI p1), some (vI p2), some (vI p3), some (vI p4), none] M) (
            back 24 [some (vR 9 0 kY), some (vI p0), some (vI p1), some (vI p2), some (vI p3), some (vI p4), none] M))) (
        back 26 [some (vR 9 0 kY), some (vI p0), some (vI p1), some (vI p2), some (vI p3), some (vI p4), none] M))) := rfl
set_option maxRecDepth 100000 in
theorem e103 (d : Nat) (kY : Nat) (p0 : Int32) (p1 : Int32) (p2 : Int32) (p3 : Int32) (p4 : Int32) (M : Mem) : evD (d + 1) 103 [vR 9 0 kY, vI p0, vI p1, vI p2, vI p3, vI p4] M =
  ic (p1 < 0) (
    lp0 d 103 24 [some (vR 9 0 kY), some (vI p0), some (vI p1), some (vI p2), some (vI p3), some (vI p4), none] M) (
    ic (p0 < 0 ∨ 6 ≤ p0.toNatClampNeg) none (
      ic (M.1 (kY + 10) p0.toNatClampNeg = 3) (
        ic (p1 < 0 ∨ 6 ≤ p1.toNatClampNeg) none (
          ic (M.1 (kY + 7) p1.toNatClampNeg < 5) (
            lp0 d 103 26 [some (vR 9 0 kY), some (vI p0), some (vI p1), some (vI p2), some (vI p3), some (vI p4), none] M) (
            lp0 d 103 24 [some (vR 9 0 kY), some (vI p0), some (vI p1), some (vI p2), some (vI p3), some (vI p4), none] M))) (
        lp0 d 103 26 [some (vR 9 0 kY), some (vI p0), some (vI p1), some (vI p2), some (vI p3), some (vI p4), none] M))) := ((evD_step (d := d) (x := 103) (as := [vR 9 0 kY, vI p0, vI p1, vI p2, vI p3, vI p4]) (M := M) (md := (⟨"IceParliament$Yard", "meltingOf", "(IIIII)I"⟩, prog_11_method_9_code, 7, (Option.some Jvm.ClassFile.FieldType.int), 9, 9)) rfl rfl).trans (j103 (evD d) (evp0 (lkE (codT 103)) (hdT 103) (evD d)) kY p0 p1 p2 p3 p4 M))
set_option maxRecDepth 100000 in
theorem g103_24 (call : Nat → List AV → Mem → Res) (back : Nat → Lv → Mem → Res) (o0 : Option AV) (o1 : Option AV) (o2 : Option AV) (o3 : Option AV) (o4 : Option AV) (o5 : Option AV) (o6 : Option AV) (M : Mem) : stepK call back (evj (lkE cd_103) [24, 26, 85] call back 4000) (.iconst 0, 1, 0, 0, 0, 0, 0) 24 [o0, o1, o2, o3, o4, o5, o6] [] M =
  some (some (vI 0), M) := rfl
set_option maxRecDepth 100000 in
theorem e103_24 (d F : Nat) (o0 : Option AV) (o1 : Option AV) (o2 : Option AV) (o3 : Option AV) (o4 : Option AV) (o5 : Option AV) (o6 : Option AV) (M : Mem) : lp d 103 (F + 1) 24 [o0, o1, o2, o3, o4, o5, o6] M =
  some (some (vI 0), M) := ((evp_step (code := lkE (codT 103)) (hd := hdT 103) (call := evD d) (F := F) (pc := 24) (lv := [o0, o1, o2, o3, o4, o5, o6]) (M := M) (e := (.iconst 0, 1, 0, 0, 0, 0, 0)) rfl).trans (g103_24 (evD d) (evp (lkE (codT 103)) (hdT 103) (evD d) F) o0 o1 o2 o3 o4 o5 o6 M))
set_option maxRecDepth 100000 in
theorem g103_26 (call : Nat → List AV → Mem → Res) (back : Nat → Lv → Mem → Res) (kY : Nat) (l1 : Int32) (l2 : Int32) (l3 : Int32) (l4 : Int32) (l5 : Int32) (o6 : Option AV) (M : Mem) : stepK call back (evj (lkE cd_103) [24, 26, 85] call back 4000) (.iconst 0, 1, 0, 0, 0, 0, 0) 26 [some (vR 9 0 kY), some (vI l1), some (vI l2), some (vI l3), some (vI l4), some (vI l5), o6] [] M =
  ic (l2 < 0 ∨ 6 ≤ l2.toNatClampNeg) none (
    cIn (call 104 [vR 1 0 (kY + 17), vI l5, vI (M.1 (kY + 7) l2.toNatClampNeg), vI l3] M) fun v2 M1 =>
    cIn (call 22 [vI 9, vI v2] M1) fun v4 M3 =>
    cIn (call 21 [vI 0, vI v4] M3) fun v6 M5 =>
    ic (l1 < 0 ∨ 6 ≤ l1.toNatClampNeg) none (
      ic (M5.1 (kY + 10) l1.toNatClampNeg = 1) (
        back 85 [some (vR 9 0 kY), some (vI l1), some (vI l2), some (vI l3), some (vI l4), some (vI l5), some (vI (v6 + 1))] M5) (
        ic (l1 < 0 ∨ 6 ≤ l1.toNatClampNeg) none (
          ic (M5.1 (kY + 10) l1.toNatClampNeg = 2) (
            ic ((2 : Int32) = 0) none (
              back 85 [some (vR 9 0 kY), some (vI l1), some (vI l2), some (vI l3), some (vI l4), some (vI l5), some (vI (v6 / 2))] M5)) (
            back 85 [some (vR 9 0 kY), some (vI l1), some (vI l2), some (vI l3), some (vI l4), some (vI l5), some (vI v6)] M5))))) := rfl
set_option maxRecDepth 100000 in
theorem e103_26 (d F : Nat) (kY : Nat) (l1 : Int32) (l2 : Int32) (l3 : Int32) (l4 : Int32) (l5 : Int32) (o6 : Option AV) (M : Mem) : lp d 103 (F + 1) 26 [some (vR 9 0 kY), some (vI l1), some (vI l2), some (vI l3), some (vI l4), some (vI l5), o6] M =
  ic (l2 < 0 ∨ 6 ≤ l2.toNatClampNeg) none (
    cIn (evD d 104 [vR 1 0 (kY + 17), vI l5, vI (M.1 (kY + 7) l2.toNatClampNeg), vI l3] M) fun v2 M1 =>
    cIn (evD d 22 [vI 9, vI v2] M1) fun v4 M3 =>
    cIn (evD d 21 [vI 0, vI v4] M3) fun v6 M5 =>
    ic (l1 < 0 ∨ 6 ≤ l1.toNatClampNeg) none (
      ic (M5.1 (kY + 10) l1.toNatClampNeg = 1) (
        lp d 103 F 85 [some (vR 9 0 kY), some (vI l1), some (vI l2), some (vI l3), some (vI l4), some (vI l5), some (vI (v6 + 1))] M5) (
        ic (l1 < 0 ∨ 6 ≤ l1.toNatClampNeg) none (
          ic (M5.1 (kY + 10) l1.toNatClampNeg = 2) (
            lp d 103 F 85 [some (vR 9 0 kY), some (vI l1), some (vI l2), some (vI l3), some (vI l4), some (vI l5), some (vI (v6 / 2))] M5) (
            lp d 103 F 85 [some (vR 9 0 kY), some (vI l1), some (vI l2), some (vI l3), some (vI l4), some (vI l5), some (vI v6)] M5))))) := ((evp_step (code := lkE (codT 103)) (hd := hdT 103) (call := evD d) (F := F) (pc := 26) (lv := [some (vR 9 0 kY), some (vI l1), some (vI l2), some (vI l3), some (vI l4), some (vI l5), o6]) (M := M) (e := (.iconst 0, 1, 0, 0, 0, 0, 0)) rfl).trans (g103_26 (evD d) (evp (lkE (codT 103)) (hdT 103) (evD d) F) kY l1 l2 l3 l4 l5 o6 M)).trans (by (try simp only [ic_f (show ¬ ((2 : Int32) = 0) by decide)]))
set_option maxRecDepth 100000 in
theorem g103_85 (call : Nat → List AV → Mem → Res) (back : Nat → Lv → Mem → Res) (o0 : Option AV) (o1 : Option AV) (o2 : Option AV) (o3 : Option AV) (l4 : Int32) (o5 : Option AV) (l6 : Int32) (M : Mem) : stepK call back (evj (lkE cd_103) [24, 26, 85] call back 4000) (.iconst 0, 1, 0, 0, 0, 0, 0) 85 [o0, o1, o2, o3, some (vI l4), o5, some (vI l6)] [] M =
  cIn (call 21 [vI 0, vI (l6 - l4)] M) fun v2 M1 =>
  some (some (vI v2), M1) := rfl
set_option maxRecDepth 100000 in
theorem e103_85 (d F : Nat) (o0 : Option AV) (o1 : Option AV) (o2 : Option AV) (o3 : Option AV) (l4 : Int32) (o5 : Option AV) (l6 : Int32) (M : Mem) : lp d 103 (F + 1) 85 [o0, o1, o2, o3, some (vI l4), o5, some (vI l6)] M =
  cIn (evD d 21 [vI 0, vI (l6 - l4)] M) fun v2 M1 =>
  some (some (vI v2), M1) := ((evp_step (code := lkE (codT 103)) (hd := hdT 103) (call := evD d) (F := F) (pc := 85) (lv := [o0, o1, o2, o3, some (vI l4), o5, some (vI l6)]) (M := M) (e := (.iconst 0, 1, 0, 0, 0, 0, 0)) rfl).trans (g103_85 (evD d) (evp (lkE (codT 103)) (hdT 103) (evD d) F) o0 o1 o2 o3 l4 o5 l6 M))
-- IceParliament$Law valueOf(III)I
set_option maxRecDepth 100000 in
theorem j104 (call : Nat → List AV → Mem → Res) (back : Nat → Lv → Mem → Res) (kL : Nat) (p0 : Int32) (p1 : Int32) (p2 : Int32) (M : Mem) : evj (lkE cd_104) [6, 74, 119, 161] call back 4000 0 [some (vR 1 0 kL), some (vI p0), some (vI p1), some (vI p2), none, none, none] [] M =
  back 6 [some (vR 1 0 kL), some (vI p0), some (vI p1), some (vI p2), some (vI 0), some (vI 0), none] M := rfl
set_option maxRecDepth 100000 in
theorem e104 (d : Nat) (kL : Nat) (p0 : Int32) (p1 : Int32) (p2 : Int32) (M : Mem) : evD (d + 1) 104 [vR 1 0 kL, vI p0, vI p1, vI p2] M =
  lp0 d 104 6 [some (vR 1 0 kL), some (vI p0), some (vI p1), some (vI p2), some (vI 0), some (vI 0), none] M := ((evD_step (d := d) (x := 104) (as := [vR 1 0 kL, vI p0, vI p1, vI p2]) (M := M) (md := (⟨"IceParliament$Law", "valueOf", "(III)I"⟩, prog_3_method_5_code, 7, (Option.some Jvm.ClassFile.FieldType.int), 1, 1)) rfl rfl).trans (j104 (evD d) (evp0 (lkE (codT 104)) (hdT 104) (evD d)) kL p0 p1 p2 M))
set_option maxRecDepth 100000 in
theorem g104_6 (call : Nat → List AV → Mem → Res) (back : Nat → Lv → Mem → Res) (kL : Nat) (l1 : Int32) (l2 : Int32) (l3 : Int32) (l4 : Int32) (l5 : Int32) (o6 : Option AV) (M : Mem) : stepK call back (evj (lkE cd_104) [6, 74, 119, 161] call back 4000) (.iload 5, 2, 5, 0, 0, 0, 0) 6 [some (vR 1 0 kL), some (vI l1), some (vI l2), some (vI l3), some (vI l4), some (vI l5), o6] [] M =
  ic (l5 < M.1 kL 2) (
    ic (l5 < 0 ∨ 1000 ≤ l5.toNatClampNeg) none (
      ic (M.1 (kL + 1) l5.toNatClampNeg < 10003) (
        ic (l4 < Int32.ofNat 32) (
          ic (M.1 (kL + 1) l5.toNatClampNeg < 10000) (
            ic (l4 < 0 ∨ 32 ≤ l4.toNatClampNeg) none (
              back 74 [some (vR 1 0 kL), some (vI l1), some (vI l2), some (vI l3), some (vI l4), some (vI l5), some (vI (M.1 (kL + 1) l5.toNatClampNeg))] (sI M (kL + 2) l4.toNatClampNeg (M.1 (kL + 1) l5.toNatClampNeg)))) (
            cIn (call 105 [vI ((M.1 (kL + 1) l5.toNatClampNeg) - 10000), vI l1, vI l2, vI l3] M) fun v4 M3 =>
            ic (l4 < 0 ∨ 32 ≤ l4.toNatClampNeg) none (
              back 74 [some (vR 1 0 kL), some (vI l1), some (vI l2), some (vI l3), some (vI l4), some (vI l5), some (vI (M.1 (kL + 1) l5.toNatClampNeg))] (sI M3 (kL + 2) l4.toNatClampNeg v4)))) (
          back 161 [some (vR 1 0 kL), some (vI l1), some (vI l2), some (vI l3), some (vI l4), some (vI l5), some (vI (M.1 (kL + 1) l5.toNatClampNeg))] M)) (
        ic (M.1 (kL + 1) l5.toNatClampNeg = 10003) (
          ic (0 < l4) (
            ic (l4 - 1 < 0 ∨ 32 ≤ (l4 - 1).toNatClampNeg) none (
              ic (M.1 (kL + 2) (l4 - 1).toNatClampNeg = 0) (
                ic (l4 - 1 < 0 ∨ 32 ≤ (l4 - 1).toNatClampNeg) none (
                  back 119 [some (vR 1 0 kL), some (vI l1), some (vI l2), some (vI l3), some (vI l4), some (vI l5), some (vI (M.1 (kL + 1) l5.toNatClampNeg))] (sI M (kL + 2) ((l4 - 1).toNatClampNeg) 1))) (
                ic (l4 - 1 < 0 ∨ 32 ≤ (l4 - 1).toNatClampNeg) none (
                  back 119 [some (vR 1 0 kL), some (vI l1), some (vI l2), some (vI l3), some (vI l4), some (vI l5), some (vI (M.1 (kL + 1) l5.toNatClampNeg))] (sI M (kL + 2) ((l4 - 1).toNatClampNeg) 0))))) (
            back 161 [some (vR 1 0 kL), some (vI l1), some (vI l2), some (vI l3), some (vI l4), some (vI l5), some (vI (M.1 (kL + 1) l5.toNatClampNeg))] M)) (
          ic (1 < l4) (
            ic ((l4 + (-1)) - 1 < 0 ∨ 32 ≤ ((l4 + (-1)) - 1).toNatClampNeg) none (
              ic (l4 + (-1) < 0 ∨ 32 ≤ (l4 + (-1)).toNatClampNeg) none (
                cIn (call 106 [vI (M.1 (kL + 1) l5.toNatClampNeg), vI (M.1 (kL + 2) ((l4 + (-1)) - 1).toNatClampNeg), vI (M.1 (kL + 2) (l4 + (-1)).toNatClampNeg)] M) fun v2 M1 =>
                ic ((l4 + (-1)) - 1 < 0 ∨ 32 ≤ ((l4 + (-1)) - 1).toNatClampNeg) none (
                  back 161 [some (vR 1 0 kL), some (vI l1), some (vI l2), some (vI l3), some (vI (l4 + (-1))), some (vI l5), some (vI (M.1 (kL + 1) l5.toNatClampNeg))] (sI M1 (kL + 2) (((l4 + (-1)) - 1).toNatClampNeg) v2))))) (
            back 161 [some (vR 1 0 kL), some (vI l1), some (vI l2), some (vI l3), some (vI l4), some (vI l5), some (vI (M.1 (kL + 1) l5.toNatClampNeg))] M))))) (
    ic ((0 : Int32) < 0 ∨ 32 ≤ (0 : Int32).toNatClampNeg) none (
      some (some (vI (M.1 (kL + 2) (0 : Int32).toNatClampNeg)), M))) := rfl
set_option maxRecDepth 100000 in
theorem e104_6 (d F : Nat) (kL : Nat) (l1 : Int32) (l2 : Int32) (l3 : Int32) (l4 : Int32) (l5 : Int32) (o6 : Option AV) (M : Mem) : lp d 104 (F + 1) 6 [some (vR 1 0 kL), some (vI l1), some (vI l2), some (vI l3), some (vI l4), some (vI l5), o6] M =
  ic (l5 < M.1 kL 2) (
    ic (l5 < 0 ∨ 1000 ≤ l5.toNatClampNeg) none (
      ic (M.1 (kL + 1) l5.toNatClampNeg < 10003) (
        ic (l4 < Int32.ofNat 32) (
          ic (M.1 (kL + 1) l5.toNatClampNeg < 10000) (
            ic (l4 < 0 ∨ 32 ≤ l4.toNatClampNeg) none (
              lp d 104 F 74 [some (vR 1 0 kL), some (vI l1), some (vI l2), some (vI l3), some (vI l4), some (vI l5), some (vI (M.1 (kL + 1) l5.toNatClampNeg))] (sI M (kL + 2) l4.toNatClampNeg (M.1 (kL + 1) l5.toNatClampNeg)))) (
            cIn (evD d 105 [vI ((M.1 (kL + 1) l5.toNatClampNeg) - 10000), vI l1, vI l2, vI l3] M) fun v4 M3 =>
            ic (l4 < 0 ∨ 32 ≤ l4.toNatClampNeg) none (
              lp d 104 F 74 [some (vR 1 0 kL), some (vI l1), some (vI l2), some (vI l3), some (vI l4), some (vI l5), some (vI (M.1 (kL + 1) l5.toNatClampNeg))] (sI M3 (kL + 2) l4.toNatClampNeg v4)))) (
          lp d 104 F 161 [some (vR 1 0 kL), some (vI l1), some (vI l2), some (vI l3), some (vI l4), some (vI l5), some (vI (M.1 (kL + 1) l5.toNatClampNeg))] M)) (
        ic (M.1 (kL + 1) l5.toNatClampNeg = 10003) (
          ic (0 < l4) (
            ic (l4 - 1 < 0 ∨ 32 ≤ (l4 - 1).toNatClampNeg) none (
              ic (M.1 (kL + 2) (l4 - 1).toNatClampNeg = 0) (
                ic (l4 - 1 < 0 ∨ 32 ≤ (l4 - 1).toNatClampNeg) none (
                  lp d 104 F 119 [some (vR 1 0 kL), some (vI l1), some (vI l2), some (vI l3), some (vI l4), some (vI l5), some (vI (M.1 (kL + 1) l5.toNatClampNeg))] (sI M (kL + 2) ((l4 - 1).toNatClampNeg) 1))) (
                ic (l4 - 1 < 0 ∨ 32 ≤ (l4 - 1).toNatClampNeg) none (
                  lp d 104 F 119 [some (vR 1 0 kL), some (vI l1), some (vI l2), some (vI l3), some (vI l4), some (vI l5), some (vI (M.1 (kL + 1) l5.toNatClampNeg))] (sI M (kL + 2) ((l4 - 1).toNatClampNeg) 0))))) (
            lp d 104 F 161 [some (vR 1 0 kL), some (vI l1), some (vI l2), some (vI l3), some (vI l4), some (vI l5), some (vI (M.1 (kL + 1) l5.toNatClampNeg))] M)) (
          ic (1 < l4) (
            ic ((l4 + (-1)) - 1 < 0 ∨ 32 ≤ ((l4 + (-1)) - 1).toNatClampNeg) none (
              ic (l4 + (-1) < 0 ∨ 32 ≤ (l4 + (-1)).toNatClampNeg) none (
                cIn (evD d 106 [vI (M.1 (kL + 1) l5.toNatClampNeg), vI (M.1 (kL + 2) ((l4 + (-1)) - 1).toNatClampNeg), vI (M.1 (kL + 2) (l4 + (-1)).toNatClampNeg)] M) fun v2 M1 =>
                ic ((l4 + (-1)) - 1 < 0 ∨ 32 ≤ ((l4 + (-1)) - 1).toNatClampNeg) none (
                  lp d 104 F 161 [some (vR 1 0 kL), some (vI l1), some (vI l2), some (vI l3), some (vI (l4 + (-1))), some (vI l5), some (vI (M.1 (kL + 1) l5.toNatClampNeg))] (sI M1 (kL + 2) (((l4 + (-1)) - 1).toNatClampNeg) v2))))) (
            lp d 104 F 161 [some (vR 1 0 kL), some (vI l1), some (vI l2), some (vI l3), some (vI l4), some (vI l5), some (vI (M.1 (kL + 1) l5.toNatClampNeg))] M))))) (
    some (some (vI (M.1 (kL + 2) 0)), M)) := ((evp_step (code := lkE (codT 104)) (hd := hdT 104) (call := evD d) (F := F) (pc := 6) (lv := [some (vR 1 0 kL), some (vI l1), some (vI l2), some (vI l3), some (vI l4), some (vI l5), o6]) (M := M) (e := (.iload 5, 2, 5, 0, 0, 0, 0)) rfl).trans (g104_6 (evD d) (evp (lkE (codT 104)) (hdT 104) (evD d) F) kL l1 l2 l3 l4 l5 o6 M)).trans (by (try simp only [ic_f (show ¬ ((0 : Int32) < 0 ∨ 32 ≤ (0 : Int32).toNatClampNeg) by decide)]); (try simp only [show (0 : Int32).toNatClampNeg = 0 from rfl]))
set_option maxRecDepth 100000 in
theorem g104_161 (call : Nat → List AV → Mem → Res) (back : Nat → Lv → Mem → Res) (kL : Nat) (l1 : Int32) (l2 : Int32) (l3 : Int32) (l4 : Int32) (l5 : Int32) (o6 : Option AV) (M : Mem) : stepK call back (evj (lkE cd_104) [6, 74, 119, 161] call back 4000) (.iinc 5 (1), 3, 5, 0, 0, 1, 0) 161 [some (vR 1 0 kL), some (vI l1), some (vI l2), some (vI l3), some (vI l4), some (vI l5), o6] [] M =
  back 6 [some (vR 1 0 kL), some (vI l1), some (vI l2), some (vI l3), some (vI l4), some (vI (l5 + 1)), o6] M := rfl
set_option maxRecDepth 100000 in
theorem e104_161 (d F : Nat) (kL : Nat) (l1 : Int32) (l2 : Int32) (l3 : Int32) (l4 : Int32) (l5 : Int32) (o6 : Option AV) (M : Mem) : lp d 104 (F + 1) 161 [some (vR 1 0 kL), some (vI l1), some (vI l2), some (vI l3), some (vI l4), some (vI l5), o6] M =
  lp d 104 F 6 [some (vR 1 0 kL), some (vI l1), some (vI l2), some (vI l3), some (vI l4), some (vI (l5 + 1)), o6] M := ((evp_step (code := lkE (codT 104)) (hd := hdT 104) (call := evD d) (F := F) (pc := 161) (lv := [some (vR 1 0 kL), some (vI l1), some (vI l2), some (vI l3), some (vI l4), some (vI l5), o6]) (M := M) (e := (.iinc 5 (1), 3, 5, 0, 0, 1, 0)) rfl).trans (g104_161 (evD d) (evp (lkE (codT 104)) (hdT 104) (evD d) F) kL l1 l2 l3 l4 l5 o6 M))
set_option maxRecDepth 100000 in
theorem g104_119 (call : Nat → List AV → Mem → Res) (back : Nat → Lv → Mem → Res) (kL : Nat) (l1 : Int32) (l2 : Int32) (l3 : Int32) (l4 : Int32) (l5 : Int32) (o6 : Option AV) (M : Mem) : stepK call back (evj (lkE cd_104) [6, 74, 119, 161] call back 4000) (.goto (42), 3, 0, 161, 0, 0, 0) 119 [some (vR 1 0 kL), some (vI l1), some (vI l2), some (vI l3), some (vI l4), some (vI l5), o6] [] M =
  back 161 [some (vR 1 0 kL), some (vI l1), some (vI l2), some (vI l3), some (vI l4), some (vI l5), o6] M := rfl
set_option maxRecDepth 100000 in
theorem e104_119 (d F : Nat) (kL : Nat) (l1 : Int32) (l2 : Int32) (l3 : Int32) (l4 : Int32) (l5 : Int32) (o6 : Option AV) (M : Mem) : lp d 104 (F + 1) 119 [some (vR 1 0 kL), some (vI l1), some (vI l2), some (vI l3), some (vI l4), some (vI l5), o6] M =
  lp d 104 F 161 [some (vR 1 0 kL), some (vI l1), some (vI l2), some (vI l3), some (vI l4), some (vI l5), o6] M := ((evp_step (code := lkE (codT 104)) (hd := hdT 104) (call := evD d) (F := F) (pc := 119) (lv := [some (vR 1 0 kL), some (vI l1), some (vI l2), some (vI l3), some (vI l4), some (vI l5), o6]) (M := M) (e := (.goto (42), 3, 0, 161, 0, 0, 0)) rfl).trans (g104_119 (evD d) (evp (lkE (codT 104)) (hdT 104) (evD d) F) kL l1 l2 l3 l4 l5 o6 M))
set_option maxRecDepth 100000 in
theorem g104_74 (call : Nat → List AV → Mem → Res) (back : Nat → Lv → Mem → Res) (kL : Nat) (l1 : Int32) (l2 : Int32) (l3 : Int32) (l4 : Int32) (l5 : Int32) (o6 : Option AV) (M : Mem) : stepK call back (evj (lkE cd_104) [6, 74, 119, 161] call back 4000) (.iinc 4 (1), 3, 4, 0, 0, 1, 0) 74 [some (vR 1 0 kL), some (vI l1), some (vI l2), some (vI l3), some (vI l4), some (vI l5), o6] [] M =
  back 161 [some (vR 1 0 kL), some (vI l1), some (vI l2), some (vI l3), some (vI (l4 + 1)), some (vI l5), o6] M := rfl
set_option maxRecDepth 100000 in
theorem e104_74 (d F : Nat) (kL : Nat) (l1 : Int32) (l2 : Int32) (l3 : Int32) (l4 : Int32) (l5 : Int32) (o6 : Option AV) (M : Mem) : lp d 104 (F + 1) 74 [some (vR 1 0 kL), some (vI l1), some (vI l2), some (vI l3), some (vI l4), some (vI l5), o6] M =
  lp d 104 F 161 [some (vR 1 0 kL), some (vI l1), some (vI l2), some (vI l3), some (vI (l4 + 1)), some (vI l5), o6] M := ((evp_step (code := lkE (codT 104)) (hd := hdT 104) (call := evD d) (F := F) (pc := 74) (lv := [some (vR 1 0 kL), some (vI l1), some (vI l2), some (vI l3), some (vI l4), some (vI l5), o6]) (M := M) (e := (.iinc 4 (1), 3, 4, 0, 0, 1, 0)) rfl).trans (g104_74 (evD d) (evp (lkE (codT 104)) (hdT 104) (evD d) F) kL l1 l2 l3 l4 l5 o6 M))
-- IceParliament$Law pick(IIII)I
set_option maxRecDepth 100000 in
theorem j105 (call : Nat → List AV → Mem → Res) (back : Nat → Lv → Mem → Res) (p0 : Int32) (p1 : Int32) (p2 : Int32) (p3 : Int32) (M : Mem) : evj (lkE cd_105) [] call back 4000 0 [some (vI p0), some (vI p1), some (vI p2), some (vI p3)] [] M =
  ic (p0 = 0) (
    some (some (vI p1), M)) (
    ic (p0 = 1) (
      some (some (vI p2), M)) (
      some (some (vI p3), M))) := rfl
set_option maxRecDepth 100000 in
theorem e105 (d : Nat) (p0 : Int32) (p1 : Int32) (p2 : Int32) (p3 : Int32) (M : Mem) : evD (d + 1) 105 [vI p0, vI p1, vI p2, vI p3] M =
  ic (p0 = 0) (
    some (some (vI p1), M)) (
    ic (p0 = 1) (
      some (some (vI p2), M)) (
      some (some (vI p3), M))) := ((evD_step (d := d) (x := 105) (as := [vI p0, vI p1, vI p2, vI p3]) (M := M) (md := (⟨"IceParliament$Law", "pick", "(IIII)I"⟩, prog_3_method_6_code, 4, (Option.some Jvm.ClassFile.FieldType.int), 1, 99)) rfl rfl).trans (j105 (evD d) (evp0 (lkE (codT 105)) (hdT 105) (evD d)) p0 p1 p2 p3 M))
-- IceParliament$Law join(III)I
set_option maxRecDepth 100000 in
theorem j106 (call : Nat → List AV → Mem → Res) (back : Nat → Lv → Mem → Res) (p0 : Int32) (p1 : Int32) (p2 : Int32) (M : Mem) : evj (lkE cd_106) [] call back 4000 0 [some (vI p0), some (vI p1), some (vI p2)] [] M =
  ic (p0 = Int32.ofInt (10004)) (
    some (some (vI (p1 * p2)), M)) (
    ic (p0 = Int32.ofInt (10005)) (
      some (some (vI (p1 + p2)), M)) (
      ic (p0 = Int32.ofInt (10006)) (
        some (some (vI (p1 - p2)), M)) (
        ic (p0 = Int32.ofInt (10007)) (
          ic (p1 < p2) (
            some (some (vI 1), M)) (
            some (some (vI 0), M))) (
          ic (p0 = Int32.ofInt (10008)) (
            ic (p1 = p2) (
              some (some (vI 1), M)) (
              some (some (vI 0), M))) (
            ic (p0 = Int32.ofInt (10009)) (
              ic (p1 = 0) (
                some (some (vI 0), M)) (
                ic (p2 = 0) (
                  some (some (vI 0), M)) (
                  some (some (vI 1), M)))) (
              ic (p1 = 0) (
                ic (p2 = 0) (
                  some (some (vI 0), M)) (
                  some (some (vI 1), M))) (
                some (some (vI 1), M)))))))) := rfl
set_option maxRecDepth 100000 in
theorem e106 (d : Nat) (p0 : Int32) (p1 : Int32) (p2 : Int32) (M : Mem) : evD (d + 1) 106 [vI p0, vI p1, vI p2] M =
  ic (p0 = Int32.ofInt (10004)) (
    some (some (vI (p1 * p2)), M)) (
    ic (p0 = Int32.ofInt (10005)) (
      some (some (vI (p1 + p2)), M)) (
      ic (p0 = Int32.ofInt (10006)) (
        some (some (vI (p1 - p2)), M)) (
        ic (p0 = Int32.ofInt (10007)) (
          ic (p1 < p2) (
            some (some (vI 1), M)) (
            some (some (vI 0), M))) (
          ic (p0 = Int32.ofInt (10008)) (
            ic (p1 = p2) (
              some (some (vI 1), M)) (
              some (some (vI 0), M))) (
            ic (p0 = Int32.ofInt (10009)) (
              ic (p1 = 0) (
                some (some (vI 0), M)) (
                ic (p2 = 0) (
                  some (some (vI 0), M)) (
                  some (some (vI 1), M)))) (
              ic (p1 = 0) (
                ic (p2 = 0) (
                  some (some (vI 0), M)) (
                  some (some (vI 1), M))) (
                some (some (vI 1), M)))))))) := ((evD_step (d := d) (x := 106) (as := [vI p0, vI p1, vI p2]) (M := M) (md := (⟨"IceParliament$Law", "join", "(III)I"⟩, prog_3_method_7_code, 3, (Option.some Jvm.ClassFile.FieldType.int), 1, 99)) rfl rfl).trans (j106 (evD d) (evp0 (lkE (codT 106)) (hdT 106) (evD d)) p0 p1 p2 M))
-- IceParliament carver(II)I
set_option maxRecDepth 100000 in
theorem j107 (call : Nat → List AV → Mem → Res) (back : Nat → Lv → Mem → Res) (p0 : Int32) (p1 : Int32) (M : Mem) : evj (lkE cd_107) [] call back 4000 0 [some (vR 11 0 0), some (vI p0), some (vI p1)] [] M =
  cIn (call 108 [vR 11 0 0, vI p0] M) fun v2 M1 =>
  ic (v2 = 0) (
    some (some (vI (-2)), M1)) (
    ic (p1 = Int32.ofInt (0)) (
      ic (p0 < 0 ∨ 6 ≤ p0.toNatClampNeg) none (
        some (some (vI (M1.1 11 p0.toNatClampNeg)), M1))) (
      ic (p1 = Int32.ofInt (1)) (
        ic (p0 < 0 ∨ 6 ≤ p0.toNatClampNeg) none (
          some (some (vI (M1.1 12 p0.toNatClampNeg)), M1))) (
        ic (p1 = Int32.ofInt (2)) (
          ic (p0 < 0 ∨ 6 ≤ p0.toNatClampNeg) none (
            some (some (vI (M1.1 65 p0.toNatClampNeg)), M1))) (
          ic (p1 = Int32.ofInt (3)) (
            cIn (call 64 [vI (M1.1 60 9), vI p0] M1) fun v4 M3 =>
            ic (v4 = 0) (
              some (some (vI 0), M3)) (
              some (some (vI 1), M3))) (
            some (some (vI (-2)), M1)))))) := rfl
set_option maxRecDepth 100000 in
theorem e107 (d : Nat) (p0 : Int32) (p1 : Int32) (M : Mem) : evD (d + 1) 107 [vR 11 0 0, vI p0, vI p1] M =
  cIn (evD d 108 [vR 11 0 0, vI p0] M) fun v2 M1 =>
  ic (v2 = 0) (
    some (some (vI (-2)), M1)) (
    ic (p1 = Int32.ofInt (0)) (
      ic (p0 < 0 ∨ 6 ≤ p0.toNatClampNeg) none (
        some (some (vI (M1.1 11 p0.toNatClampNeg)), M1))) (
      ic (p1 = Int32.ofInt (1)) (
        ic (p0 < 0 ∨ 6 ≤ p0.toNatClampNeg) none (
          some (some (vI (M1.1 12 p0.toNatClampNeg)), M1))) (
        ic (p1 = Int32.ofInt (2)) (
          ic (p0 < 0 ∨ 6 ≤ p0.toNatClampNeg) none (
            some (some (vI (M1.1 65 p0.toNatClampNeg)), M1))) (
          ic (p1 = Int32.ofInt (3)) (
            cIn (evD d 64 [vI (M1.1 60 9), vI p0] M1) fun v4 M3 =>
            ic (v4 = 0) (
              some (some (vI 0), M3)) (
              some (some (vI 1), M3))) (
            some (some (vI (-2)), M1)))))) := ((evD_step (d := d) (x := 107) (as := [vR 11 0 0, vI p0, vI p1]) (M := M) (md := (⟨"IceParliament", "carver", "(II)I"⟩, prog_1_method_6_code, 3, (Option.some Jvm.ClassFile.FieldType.int), 11, 11)) rfl rfl).trans (j107 (evD d) (evp0 (lkE (codT 107)) (hdT 107) (evD d)) p0 p1 M))
-- IceParliament isCarver(I)Z
set_option maxRecDepth 100000 in
theorem j108 (call : Nat → List AV → Mem → Res) (back : Nat → Lv → Mem → Res) (p0 : Int32) (M : Mem) : evj (lkE cd_108) [] call back 4000 0 [some (vR 11 0 0), some (vI p0)] [] M =
  ic (p0 < 0) (
    ic ((0 : Int32) &&& 1 = 0) (
      some (some (vI 0), M)) none) (
    ic (p0 < M.1 6 0) (
      ic ((1 : Int32) &&& 1 = 1) (
        some (some (vI 1), M)) none) (
      ic ((0 : Int32) &&& 1 = 0) (
        some (some (vI 0), M)) none)) := rfl
set_option maxRecDepth 100000 in
theorem e108 (d : Nat) (p0 : Int32) (M : Mem) : evD (d + 1) 108 [vR 11 0 0, vI p0] M =
  ic (p0 < 0) (
    some (some (vI 0), M)) (
    ic (p0 < M.1 6 0) (
      some (some (vI 1), M)) (
      some (some (vI 0), M))) := ((evD_step (d := d) (x := 108) (as := [vR 11 0 0, vI p0]) (M := M) (md := (⟨"IceParliament", "isCarver", "(I)Z"⟩, prog_1_method_36_code, 2, (Option.some Jvm.ClassFile.FieldType.boolean), 11, 11)) rfl rfl).trans (j108 (evD d) (evp0 (lkE (codT 108)) (hdT 108) (evD d)) p0 M)).trans (by (try simp only [ic_t (show (0 : Int32) &&& 1 = 0 by decide), ic_t (show (1 : Int32) &&& 1 = 1 by decide)]))
-- IceParliament force()I
set_option maxRecDepth 100000 in
theorem j109 (call : Nat → List AV → Mem → Res) (back : Nat → Lv → Mem → Res)  (M : Mem) : evj (lkE cd_109) [] call back 4000 0 [some (vR 11 0 0)] [] M =
  cIn (call 110 [vR 6 0 60] M) fun v2 M1 =>
  some (some (vI v2), M1) := rfl
set_option maxRecDepth 100000 in
theorem e109 (d : Nat)  (M : Mem) : evD (d + 1) 109 [vR 11 0 0] M =
  cIn (evD d 110 [vR 6 0 60] M) fun v2 M1 =>
  some (some (vI v2), M1) := ((evD_step (d := d) (x := 109) (as := [vR 11 0 0]) (M := M) (md := (⟨"IceParliament", "force", "()I"⟩, prog_1_method_7_code, 1, (Option.some Jvm.ClassFile.FieldType.int), 11, 11)) rfl rfl).trans (j109 (evD d) (evp0 (lkE (codT 109)) (hdT 109) (evD d))  M))
-- IceParliament$State inForce()I
set_option maxRecDepth 100000 in
theorem j110 (call : Nat → List AV → Mem → Res) (back : Nat → Lv → Mem → Res) (a : Nat) (M : Mem) : evj (lkE cd_110) [4] call back 4000 0 [some (vR 6 0 a), none, none] [] M =
  back 4 [some (vR 6 0 a), some (vI 0), some (vI 0)] M := rfl
set_option maxRecDepth 100000 in
theorem e110 (d : Nat) (a : Nat) (M : Mem) : evD (d + 1) 110 [vR 6 0 a] M =
  lp0 d 110 4 [some (vR 6 0 a), some (vI 0), some (vI 0)] M := ((evD_step (d := d) (x := 110) (as := [vR 6 0 a]) (M := M) (md := (⟨"IceParliament$State", "inForce", "()I"⟩, prog_8_method_8_code, 3, (Option.some Jvm.ClassFile.FieldType.int), 6, 6)) rfl rfl).trans (j110 (evD d) (evp0 (lkE (codT 110)) (hdT 110) (evD d)) a M))
set_option maxRecDepth 100000 in
theorem g110_4 (call : Nat → List AV → Mem → Res) (back : Nat → Lv → Mem → Res) (a : Nat) (l1 : Int32) (l2 : Int32) (M : Mem) : stepK call back (evj (lkE cd_110) [4] call back 4000) (.iload_n 2, 1, 2, 0, 0, 0, 0) 4 [some (vR 6 0 a), some (vI l1), some (vI l2)] [] M =
  ic (l2 < M.1 8 0) (
    cIn (call 96 [vR 6 0 a, vI l2] M) fun v2 M1 =>
    ic (v2 = 0) (
      back 4 [some (vR 6 0 a), some (vI (l1 ||| 0)), some (vI (l2 + 1))] M1) (
      back 4 [some (vR 6 0 a), some (vI (l1 ||| (1 <<< (l2 &&& 31)))), some (vI (l2 + 1))] M1)) (
    some (some (vI l1), M)) := rfl
set_option maxRecDepth 100000 in
theorem e110_4 (d F : Nat) (a : Nat) (l1 : Int32) (l2 : Int32) (M : Mem) : lp d 110 (F + 1) 4 [some (vR 6 0 a), some (vI l1), some (vI l2)] M =
  ic (l2 < M.1 8 0) (
    cIn (evD d 96 [vR 6 0 a, vI l2] M) fun v2 M1 =>
    ic (v2 = 0) (
      lp d 110 F 4 [some (vR 6 0 a), some (vI (l1 ||| 0)), some (vI (l2 + 1))] M1) (
      lp d 110 F 4 [some (vR 6 0 a), some (vI (l1 ||| (1 <<< (l2 &&& 31)))), some (vI (l2 + 1))] M1)) (
    some (some (vI l1), M)) := ((evp_step (code := lkE (codT 110)) (hd := hdT 110) (call := evD d) (F := F) (pc := 4) (lv := [some (vR 6 0 a), some (vI l1), some (vI l2)]) (M := M) (e := (.iload_n 2, 1, 2, 0, 0, 0, 0)) rfl).trans (g110_4 (evD d) (evp (lkE (codT 110)) (hdT 110) (evD d) F) a l1 l2 M))
-- IceParliament side(I)I
set_option maxRecDepth 100000 in
theorem j111 (call : Nat → List AV → Mem → Res) (back : Nat → Lv → Mem → Res) (p0 : Int32) (M : Mem) : evj (lkE cd_111) [15] call back 4000 0 [some (vR 11 0 0), some (vI p0), none, none] [] M =
  ic (p0 < 0) (
    some (some (vI (-1)), M)) (
    ic (1 < p0) (
      some (some (vI (-1)), M)) (
      back 15 [some (vR 11 0 0), some (vI p0), some (vI 0), some (vI 0)] M)) := rfl
set_option maxRecDepth 100000 in
theorem e111 (d : Nat) (p0 : Int32) (M : Mem) : evD (d + 1) 111 [vR 11 0 0, vI p0] M =
  ic (p0 < 0) (
    some (some (vI (-1)), M)) (
    ic (1 < p0) (
      some (some (vI (-1)), M)) (
      lp0 d 111 15 [some (vR 11 0 0), some (vI p0), some (vI 0), some (vI 0)] M)) := ((evD_step (d := d) (x := 111) (as := [vR 11 0 0, vI p0]) (M := M) (md := (⟨"IceParliament", "side", "(I)I"⟩, prog_1_method_8_code, 4, (Option.some Jvm.ClassFile.FieldType.int), 11, 11)) rfl rfl).trans (j111 (evD d) (evp0 (lkE (codT 111)) (hdT 111) (evD d)) p0 M))
set_option maxRecDepth 100000 in
theorem g111_15 (call : Nat → List AV → Mem → Res) (back : Nat → Lv → Mem → Res) (l1 : Int32) (l2 : Int32) (l3 : Int32) (M : Mem) : stepK call back (evj (lkE cd_111) [15] call back 4000) (.iload_n 3, 1, 3, 0, 0, 0, 0) 15 [some (vR 11 0 0), some (vI l1), some (vI l2), some (vI l3)] [] M =
  ic (l3 < M.1 8 0) (
    cIn (call 96 [vR 6 0 60, vI l3] M) fun v2 M1 =>
    ic (v2 = 0) (
      back 15 [some (vR 11 0 0), some (vI l1), some (vI l2), some (vI (l3 + 1))] M1) (
      ic (l3 < 0 ∨ 6 ≤ l3.toNatClampNeg) none (
        ic (M1.1 17 l3.toNatClampNeg < 0 ∨ 6 ≤ (M1.1 17 l3.toNatClampNeg).toNatClampNeg) none (
          ic (M1.1 11 (M1.1 17 l3.toNatClampNeg).toNatClampNeg = l1) (
            ic (l3 < 0 ∨ 6 ≤ l3.toNatClampNeg) none (
              back 15 [some (vR 11 0 0), some (vI l1), some (vI (l2 + (M1.1 16 l3.toNatClampNeg))), some (vI (l3 + 1))] M1)) (
            back 15 [some (vR 11 0 0), some (vI l1), some (vI l2), some (vI (l3 + 1))] M1))))) (
    some (some (vI l2), M)) := rfl
set_option maxRecDepth 100000 in
theorem e111_15 (d F : Nat) (l1 : Int32) (l2 : Int32) (l3 : Int32) (M : Mem) : lp d 111 (F + 1) 15 [some (vR 11 0 0), some (vI l1), some (vI l2), some (vI l3)] M =
  ic (l3 < M.1 8 0) (
    cIn (evD d 96 [vR 6 0 60, vI l3] M) fun v2 M1 =>
    ic (v2 = 0) (
      lp d 111 F 15 [some (vR 11 0 0), some (vI l1), some (vI l2), some (vI (l3 + 1))] M1) (
      ic (l3 < 0 ∨ 6 ≤ l3.toNatClampNeg) none (
        ic (M1.1 17 l3.toNatClampNeg < 0 ∨ 6 ≤ (M1.1 17 l3.toNatClampNeg).toNatClampNeg) none (
          ic (M1.1 11 (M1.1 17 l3.toNatClampNeg).toNatClampNeg = l1) (
            ic (l3 < 0 ∨ 6 ≤ l3.toNatClampNeg) none (
              lp d 111 F 15 [some (vR 11 0 0), some (vI l1), some (vI (l2 + (M1.1 16 l3.toNatClampNeg))), some (vI (l3 + 1))] M1)) (
            lp d 111 F 15 [some (vR 11 0 0), some (vI l1), some (vI l2), some (vI (l3 + 1))] M1))))) (
    some (some (vI l2), M)) := ((evp_step (code := lkE (codT 111)) (hd := hdT 111) (call := evD d) (F := F) (pc := 15) (lv := [some (vR 11 0 0), some (vI l1), some (vI l2), some (vI l3)]) (M := M) (e := (.iload_n 3, 1, 3, 0, 0, 0, 0)) rfl).trans (g111_15 (evD d) (evp (lkE (codT 111)) (hdT 111) (evD d) F) l1 l2 l3 M))
-- IceParliament count(I)I
set_option maxRecDepth 100000 in
theorem j112 (call : Nat → List AV → Mem → Res) (back : Nat → Lv → Mem → Res) (p0 : Int32) (M : Mem) : evj (lkE cd_112) [] call back 4000 0 [some (vR 11 0 0), some (vI p0)] [] M =
  ic (p0 = Int32.ofInt (0)) (
    some (some (vI (M.1 4 0)), M)) (
    ic (p0 = Int32.ofInt (1)) (
      some (some (vI (M.1 6 0)), M)) (
      ic (p0 = Int32.ofInt (2)) (
        some (some (vI (M.1 8 0)), M)) (
        ic (p0 = Int32.ofInt (3)) (
          some (some (vI (M.1 3 12)), M)) (
          ic (p0 = Int32.ofInt (4)) (
            some (some (vI (M.1 60 0)), M)) (
            ic (p0 = Int32.ofInt (5)) (
              cIn (call 101 [vR 9 0 3, vI (M.1 60 0)] M) fun v2 M1 =>
              some (some (vI v2), M1)) (
              ic (p0 = Int32.ofInt (6)) (
                cIn (call 98 [vR 6 0 60] M) fun v4 M3 =>
                some (some (vI v4), M3)) (
                ic (p0 = Int32.ofInt (7)) (
                  some (some (vI (M.1 60 8)), M)) (
                  ic (p0 = Int32.ofInt (8)) (
                    cIn (call 113 [vR 6 0 60] M) fun v6 M5 =>
                    some (some (vI v6), M5)) (
                    ic (p0 = Int32.ofInt (9)) (
                      some (some (vI (M.1 52 3)), M)) (
                      ic (p0 = Int32.ofInt (10)) (
                        cIn (call 115 [vR 6 0 60] M) fun v8 M7 =>
                        some (some (vI v8), M7)) (
                        ic (p0 = Int32.ofInt (11)) (
                          some (some (vI (M.1 0 8)), M)) (
                          ic (p0 = Int32.ofInt (12)) (
                            some (some (vI (M.1 1 0)), M)) (
                            some (some (vI (-1)), M)))))))))))))) := rfl
set_option maxRecDepth 100000 in
theorem e112 (d : Nat) (p0 : Int32) (M : Mem) : evD (d + 1) 112 [vR 11 0 0, vI p0] M =
  ic (p0 = Int32.ofInt (0)) (
    some (some (vI (M.1 4 0)), M)) (
    ic (p0 = Int32.ofInt (1)) (
      some (some (vI (M.1 6 0)), M)) (
      ic (p0 = Int32.ofInt (2)) (
        some (some (vI (M.1 8 0)), M)) (
        ic (p0 = Int32.ofInt (3)) (
          some (some (vI (M.1 3 12)), M)) (
          ic (p0 = Int32.ofInt (4)) (
            some (some (vI (M.1 60 0)), M)) (
            ic (p0 = Int32.ofInt (5)) (
              cIn (evD d 101 [vR 9 0 3, vI (M.1 60 0)] M) fun v2 M1 =>
              some (some (vI v2), M1)) (
              ic (p0 = Int32.ofInt (6)) (
                cIn (evD d 98 [vR 6 0 60] M) fun v4 M3 =>
                some (some (vI v4), M3)) (
                ic (p0 = Int32.ofInt (7)) (
                  some (some (vI (M.1 60 8)), M)) (
                  ic (p0 = Int32.ofInt (8)) (
                    cIn (evD d 113 [vR 6 0 60] M) fun v6 M5 =>
                    some (some (vI v6), M5)) (
                    ic (p0 = Int32.ofInt (9)) (
                      some (some (vI (M.1 52 3)), M)) (
                      ic (p0 = Int32.ofInt (10)) (
                        cIn (evD d 115 [vR 6 0 60] M) fun v8 M7 =>
                        some (some (vI v8), M7)) (
                        ic (p0 = Int32.ofInt (11)) (
                          some (some (vI (M.1 0 8)), M)) (
                          ic (p0 = Int32.ofInt (12)) (
                            some (some (vI (M.1 1 0)), M)) (
                            some (some (vI (-1)), M)))))))))))))) := ((evD_step (d := d) (x := 112) (as := [vR 11 0 0, vI p0]) (M := M) (md := (⟨"IceParliament", "count", "(I)I"⟩, prog_1_method_9_code, 2, (Option.some Jvm.ClassFile.FieldType.int), 11, 11)) rfl rfl).trans (j112 (evD d) (evp0 (lkE (codT 112)) (hdT 112) (evD d)) p0 M))
-- IceParliament$State worthInForce()I
set_option maxRecDepth 100000 in
theorem j113 (call : Nat → List AV → Mem → Res) (back : Nat → Lv → Mem → Res) (a : Nat) (M : Mem) : evj (lkE cd_113) [] call back 4000 0 [some (vR 6 0 a)] [] M =
  cIn (call 110 [vR 6 0 a] M) fun v2 M1 =>
  cIn (call 114 [vR 9 0 3, vI v2] M1) fun v4 M3 =>
  some (some (vI v4), M3) := rfl
set_option maxRecDepth 100000 in
theorem e113 (d : Nat) (a : Nat) (M : Mem) : evD (d + 1) 113 [vR 6 0 a] M =
  cIn (evD d 110 [vR 6 0 a] M) fun v2 M1 =>
  cIn (evD d 114 [vR 9 0 3, vI v2] M1) fun v4 M3 =>
  some (some (vI v4), M3) := ((evD_step (d := d) (x := 113) (as := [vR 6 0 a]) (M := M) (md := (⟨"IceParliament$State", "worthInForce", "()I"⟩, prog_8_method_9_code, 1, (Option.some Jvm.ClassFile.FieldType.int), 6, 6)) rfl rfl).trans (j113 (evD d) (evp0 (lkE (codT 113)) (hdT 113) (evD d)) a M))
-- IceParliament$Yard worthOf(I)I
set_option maxRecDepth 100000 in
theorem j114 (call : Nat → List AV → Mem → Res) (back : Nat → Lv → Mem → Res) (kY : Nat) (p0 : Int32) (M : Mem) : evj (lkE cd_114) [4] call back 4000 0 [some (vR 9 0 kY), some (vI p0), none, none] [] M =
  back 4 [some (vR 9 0 kY), some (vI p0), some (vI 0), some (vI 0)] M := rfl
set_option maxRecDepth 100000 in
theorem e114 (d : Nat) (kY : Nat) (p0 : Int32) (M : Mem) : evD (d + 1) 114 [vR 9 0 kY, vI p0] M =
  lp0 d 114 4 [some (vR 9 0 kY), some (vI p0), some (vI 0), some (vI 0)] M := ((evD_step (d := d) (x := 114) (as := [vR 9 0 kY, vI p0]) (M := M) (md := (⟨"IceParliament$Yard", "worthOf", "(I)I"⟩, prog_11_method_12_code, 4, (Option.some Jvm.ClassFile.FieldType.int), 9, 9)) rfl rfl).trans (j114 (evD d) (evp0 (lkE (codT 114)) (hdT 114) (evD d)) kY p0 M))
set_option maxRecDepth 100000 in
theorem g114_4 (call : Nat → List AV → Mem → Res) (back : Nat → Lv → Mem → Res) (kY : Nat) (l1 : Int32) (l2 : Int32) (l3 : Int32) (M : Mem) : stepK call back (evj (lkE cd_114) [4] call back 4000) (.iload_n 3, 1, 3, 0, 0, 0, 0) 4 [some (vR 9 0 kY), some (vI l1), some (vI l2), some (vI l3)] [] M =
  ic (l3 < M.1 (kY + 5) 0) (
    cIn (call 64 [vI l1, vI l3] M) fun v2 M1 =>
    ic (v2 = 0) (
      back 4 [some (vR 9 0 kY), some (vI l1), some (vI (l2 + 0)), some (vI (l3 + 1))] M1) (
      ic (l3 < 0 ∨ 6 ≤ l3.toNatClampNeg) none (
        back 4 [some (vR 9 0 kY), some (vI l1), some (vI (l2 + (M1.1 (kY + 13) l3.toNatClampNeg))), some (vI (l3 + 1))] M1))) (
    some (some (vI l2), M)) := rfl
set_option maxRecDepth 100000 in
theorem e114_4 (d F : Nat) (kY : Nat) (l1 : Int32) (l2 : Int32) (l3 : Int32) (M : Mem) : lp d 114 (F + 1) 4 [some (vR 9 0 kY), some (vI l1), some (vI l2), some (vI l3)] M =
  ic (l3 < M.1 (kY + 5) 0) (
    cIn (evD d 64 [vI l1, vI l3] M) fun v2 M1 =>
    ic (v2 = 0) (
      lp d 114 F 4 [some (vR 9 0 kY), some (vI l1), some (vI (l2 + 0)), some (vI (l3 + 1))] M1) (
      ic (l3 < 0 ∨ 6 ≤ l3.toNatClampNeg) none (
        lp d 114 F 4 [some (vR 9 0 kY), some (vI l1), some (vI (l2 + (M1.1 (kY + 13) l3.toNatClampNeg))), some (vI (l3 + 1))] M1))) (
    some (some (vI l2), M)) := ((evp_step (code := lkE (codT 114)) (hd := hdT 114) (call := evD d) (F := F) (pc := 4) (lv := [some (vR 9 0 kY), some (vI l1), some (vI l2), some (vI l3)]) (M := M) (e := (.iload_n 3, 1, 3, 0, 0, 0, 0)) rfl).trans (g114_4 (evD d) (evp (lkE (codT 114)) (hdT 114) (evD d) F) kY l1 l2 l3 M))
-- IceParliament$State howManyTold()I
set_option maxRecDepth 100000 in
theorem j115 (call : Nat → List AV → Mem → Res) (back : Nat → Lv → Mem → Res) (a : Nat) (M : Mem) : evj (lkE cd_115) [4] call back 4000 0 [some (vR 6 0 a), none, none] [] M =
  back 4 [some (vR 6 0 a), some (vI 0), some (vI 0)] M := rfl
set_option maxRecDepth 100000 in
theorem e115 (d : Nat) (a : Nat) (M : Mem) : evD (d + 1) 115 [vR 6 0 a] M =
  lp0 d 115 4 [some (vR 6 0 a), some (vI 0), some (vI 0)] M := ((evD_step (d := d) (x := 115) (as := [vR 6 0 a]) (M := M) (md := (⟨"IceParliament$State", "howManyTold", "()I"⟩, prog_8_method_10_code, 3, (Option.some Jvm.ClassFile.FieldType.int), 6, 6)) rfl rfl).trans (j115 (evD d) (evp0 (lkE (codT 115)) (hdT 115) (evD d)) a M))
set_option maxRecDepth 100000 in
theorem g115_4 (call : Nat → List AV → Mem → Res) (back : Nat → Lv → Mem → Res) (a : Nat) (l1 : Int32) (l2 : Int32) (M : Mem) : stepK call back (evj (lkE cd_115) [4] call back 4000) (.iload_n 2, 1, 2, 0, 0, 0, 0) 4 [some (vR 6 0 a), some (vI l1), some (vI l2)] [] M =
  ic (l2 < M.1 8 0) (
    ic (l2 < 0 ∨ 6 ≤ l2.toNatClampNeg) none (
      ic (M.1 (a + 6) l2.toNatClampNeg = (-1)) (
        back 4 [some (vR 6 0 a), some (vI (l1 + 0)), some (vI (l2 + 1))] M) (
        back 4 [some (vR 6 0 a), some (vI (l1 + 1)), some (vI (l2 + 1))] M))) (
    some (some (vI l1), M)) := rfl
set_option maxRecDepth 100000 in
theorem e115_4 (d F : Nat) (a : Nat) (l1 : Int32) (l2 : Int32) (M : Mem) : lp d 115 (F + 1) 4 [some (vR 6 0 a), some (vI l1), some (vI l2)] M =
  ic (l2 < M.1 8 0) (
    ic (l2 < 0 ∨ 6 ≤ l2.toNatClampNeg) none (
      ic (M.1 (a + 6) l2.toNatClampNeg = (-1)) (
        lp d 115 F 4 [some (vR 6 0 a), some (vI (l1 + 0)), some (vI (l2 + 1))] M) (
        lp d 115 F 4 [some (vR 6 0 a), some (vI (l1 + 1)), some (vI (l2 + 1))] M))) (
    some (some (vI l1), M)) := ((evp_step (code := lkE (codT 115)) (hd := hdT 115) (call := evD d) (F := F) (pc := 4) (lv := [some (vR 6 0 a), some (vI l1), some (vI l2)]) (M := M) (e := (.iload_n 2, 1, 2, 0, 0, 0, 0)) rfl).trans (g115_4 (evD d) (evp (lkE (codT 115)) (hdT 115) (evD d) F) a l1 l2 M))
-- IceParliament begin(II)Z
set_option maxRecDepth 100000 in
theorem j116 (call : Nat → List AV → Mem → Res) (back : Nat → Lv → Mem → Res) (p0 : Int32) (p1 : Int32) (M : Mem) : evj (lkE cd_116) [] call back 4000 0 [some (vR 11 0 0), some (vI p0), some (vI p1)] [] M =
  cIn (call 94 [vR 11 0 0, vI p0] M) fun v2 M1 =>
  ic (v2 = 0) (
    ic ((0 : Int32) &&& 1 = 0) (
      some (some (vI 0), M1)) none) (
    cIn (call 117 [vR 11 0 0, vI p1] M1) fun v4 M3 =>
    ic (v4 = 0) (
      ic ((0 : Int32) &&& 1 = 0) (
        some (some (vI 0), M3)) none) (
      cIn (call 118 [vR 6 0 60, vI p0, vI p1] M3) fun v6 M5 =>
      ic (v6 = 0) (
        ic ((0 : Int32) &&& 1 = 0) (
          some (some (vI 0), M5)) none) (
        cVd (call 120 [vR 11 0 0] M5) fun M7 =>
        cVd (call 122 [vR 6 0 60, vI p0, vI p1] M7) fun M8 =>
        ic ((1 : Int32) &&& 1 = 1) (
          some (some (vI 1), M8)) none))) := rfl
set_option maxRecDepth 100000 in
theorem e116 (d : Nat) (p0 : Int32) (p1 : Int32) (M : Mem) : evD (d + 1) 116 [vR 11 0 0, vI p0, vI p1] M =
  cIn (evD d 94 [vR 11 0 0, vI p0] M) fun v2 M1 =>
  ic (v2 = 0) (
    some (some (vI 0), M1)) (
    cIn (evD d 117 [vR 11 0 0, vI p1] M1) fun v4 M3 =>
    ic (v4 = 0) (
      some (some (vI 0), M3)) (
      cIn (evD d 118 [vR 6 0 60, vI p0, vI p1] M3) fun v6 M5 =>
      ic (v6 = 0) (
        some (some (vI 0), M5)) (
        cVd (evD d 120 [vR 11 0 0] M5) fun M7 =>
        cVd (evD d 122 [vR 6 0 60, vI p0, vI p1] M7) fun M8 =>
        some (some (vI 1), M8)))) := ((evD_step (d := d) (x := 116) (as := [vR 11 0 0, vI p0, vI p1]) (M := M) (md := (⟨"IceParliament", "begin", "(II)Z"⟩, prog_1_method_10_code, 3, (Option.some Jvm.ClassFile.FieldType.boolean), 11, 11)) rfl rfl).trans (j116 (evD d) (evp0 (lkE (codT 116)) (hdT 116) (evD d)) p0 p1 M)).trans (by (try simp only [ic_t (show (0 : Int32) &&& 1 = 0 by decide), ic_t (show (1 : Int32) &&& 1 = 1 by decide)]))
-- IceParliament isSpot(I)Z
set_option maxRecDepth 100000 in
theorem j117 (call : Nat → List AV → Mem → Res) (back : Nat → Lv → Mem → Res) (p0 : Int32) (M : Mem) : evj (lkE cd_117) [] call back 4000 0 [some (vR 11 0 0), some (vI p0)] [] M =
  ic (p0 < 0) (
    ic ((0 : Int32) &&& 1 = 0) (
      some (some (vI 0), M)) none) (
    ic (p0 < M.1 4 0) (
      ic ((1 : Int32) &&& 1 = 1) (
        some (some (vI 1), M)) none) (
      ic ((0 : Int32) &&& 1 = 0) (
        some (some (vI 0), M)) none)) := rfl
set_option maxRecDepth 100000 in
theorem e117 (d : Nat) (p0 : Int32) (M : Mem) : evD (d + 1) 117 [vR 11 0 0, vI p0] M =
  ic (p0 < 0) (
    some (some (vI 0), M)) (
    ic (p0 < M.1 4 0) (
      some (some (vI 1), M)) (
      some (some (vI 0), M))) := ((evD_step (d := d) (x := 117) (as := [vR 11 0 0, vI p0]) (M := M) (md := (⟨"IceParliament", "isSpot", "(I)Z"⟩, prog_1_method_35_code, 2, (Option.some Jvm.ClassFile.FieldType.boolean), 11, 11)) rfl rfl).trans (j117 (evD d) (evp0 (lkE (codT 117)) (hdT 117) (evD d)) p0 M)).trans (by (try simp only [ic_t (show (0 : Int32) &&& 1 = 0 by decide), ic_t (show (1 : Int32) &&& 1 = 1 by decide)]))
-- IceParliament$State canBegin(II)Z
set_option maxRecDepth 100000 in
theorem j118 (call : Nat → List AV → Mem → Res) (back : Nat → Lv → Mem → Res) (a : Nat) (p0 : Int32) (p1 : Int32) (M : Mem) : evj (lkE cd_118) [] call back 4000 0 [some (vR 6 0 a), some (vI p0), some (vI p1)] [] M =
  cIn (call 64 [vI (M.1 a 7), vI p0] M) fun v2 M1 =>
  ic (v2 = 0) (
    cIn (call 119 [vR 6 0 a, vI p1] M1) fun v4 M3 =>
    ic (v4 = 0) (
      ic ((0 : Int32) &&& 1 = 0) (
        some (some (vI 0), M3)) none) (
      ic ((1 : Int32) &&& 1 = 1) (
        some (some (vI 1), M3)) none)) (
    ic ((0 : Int32) &&& 1 = 0) (
      some (some (vI 0), M1)) none) := rfl
set_option maxRecDepth 100000 in
theorem e118 (d : Nat) (a : Nat) (p0 : Int32) (p1 : Int32) (M : Mem) : evD (d + 1) 118 [vR 6 0 a, vI p0, vI p1] M =
  cIn (evD d 64 [vI (M.1 a 7), vI p0] M) fun v2 M1 =>
  ic (v2 = 0) (
    cIn (evD d 119 [vR 6 0 a, vI p1] M1) fun v4 M3 =>
    ic (v4 = 0) (
      some (some (vI 0), M3)) (
      some (some (vI 1), M3))) (
    some (some (vI 0), M1)) := ((evD_step (d := d) (x := 118) (as := [vR 6 0 a, vI p0, vI p1]) (M := M) (md := (⟨"IceParliament$State", "canBegin", "(II)Z"⟩, prog_8_method_12_code, 3, (Option.some Jvm.ClassFile.FieldType.boolean), 6, 6)) rfl rfl).trans (j118 (evD d) (evp0 (lkE (codT 118)) (hdT 118) (evD d)) a p0 p1 M)).trans (by (try simp only [ic_t (show (0 : Int32) &&& 1 = 0 by decide), ic_t (show (1 : Int32) &&& 1 = 1 by decide)]))
-- IceParliament$State isFree(I)Z
set_option maxRecDepth 100000 in
theorem j119 (call : Nat → List AV → Mem → Res) (back : Nat → Lv → Mem → Res) (a : Nat) (p0 : Int32) (M : Mem) : evj (lkE cd_119) [2] call back 4000 0 [some (vR 6 0 a), some (vI p0), none] [] M =
  back 2 [some (vR 6 0 a), some (vI p0), some (vI 0)] M := rfl
set_option maxRecDepth 100000 in
theorem e119 (d : Nat) (a : Nat) (p0 : Int32) (M : Mem) : evD (d + 1) 119 [vR 6 0 a, vI p0] M =
  lp0 d 119 2 [some (vR 6 0 a), some (vI p0), some (vI 0)] M := ((evD_step (d := d) (x := 119) (as := [vR 6 0 a, vI p0]) (M := M) (md := (⟨"IceParliament$State", "isFree", "(I)Z"⟩, prog_8_method_11_code, 3, (Option.some Jvm.ClassFile.FieldType.boolean), 6, 6)) rfl rfl).trans (j119 (evD d) (evp0 (lkE (codT 119)) (hdT 119) (evD d)) a p0 M))
set_option maxRecDepth 100000 in
theorem g119_2 (call : Nat → List AV → Mem → Res) (back : Nat → Lv → Mem → Res) (a : Nat) (l1 : Int32) (l2 : Int32) (M : Mem) : stepK call back (evj (lkE cd_119) [2] call back 4000) (.iload_n 2, 1, 2, 0, 0, 0, 0) 2 [some (vR 6 0 a), some (vI l1), some (vI l2)] [] M =
  ic (l2 < M.1 8 0) (
    ic (l2 < 0 ∨ 6 ≤ l2.toNatClampNeg) none (
      ic (M.1 (a + 4) l2.toNatClampNeg = l1) (
        ic ((0 : Int32) &&& 1 = 0) (
          some (some (vI 0), M)) none) (
        back 2 [some (vR 6 0 a), some (vI l1), some (vI (l2 + 1))] M))) (
    ic ((1 : Int32) &&& 1 = 1) (
      some (some (vI 1), M)) none) := rfl
set_option maxRecDepth 100000 in
theorem e119_2 (d F : Nat) (a : Nat) (l1 : Int32) (l2 : Int32) (M : Mem) : lp d 119 (F + 1) 2 [some (vR 6 0 a), some (vI l1), some (vI l2)] M =
  ic (l2 < M.1 8 0) (
    ic (l2 < 0 ∨ 6 ≤ l2.toNatClampNeg) none (
      ic (M.1 (a + 4) l2.toNatClampNeg = l1) (
        some (some (vI 0), M)) (
        lp d 119 F 2 [some (vR 6 0 a), some (vI l1), some (vI (l2 + 1))] M))) (
    some (some (vI 1), M)) := ((evp_step (code := lkE (codT 119)) (hd := hdT 119) (call := evD d) (F := F) (pc := 2) (lv := [some (vR 6 0 a), some (vI l1), some (vI l2)]) (M := M) (e := (.iload_n 2, 1, 2, 0, 0, 0, 0)) rfl).trans (g119_2 (evD d) (evp (lkE (codT 119)) (hdT 119) (evD d) F) a l1 l2 M)).trans (by (try simp only [ic_t (show (1 : Int32) &&& 1 = 1 by decide), ic_t (show (0 : Int32) &&& 1 = 0 by decide)]))
-- IceParliament keepForUndo()V
set_option maxRecDepth 100000 in
theorem j120 (call : Nat → List AV → Mem → Res) (back : Nat → Lv → Mem → Res)  (M : Mem) : evj (lkE cd_120) [21] call back 4000 0 [some (vR 11 0 0), none, none] [] M =
  ic (M.1 0 8 < Int32.ofNat 16) (
    ic (M.1 0 8 < 0 ∨ 16 ≤ (M.1 0 8).toNatClampNeg) none (
      cVd (call 121 [vR 6 0 (M.2.2 67 (M.1 0 8).toNatClampNeg), vR 6 0 60] M) fun M1 =>
      some (none, sI M1 0 8 ((M1.1 0 8) + 1)))) (
    ic ((0 : Int32) < 0 ∨ 16 ≤ (0 : Int32).toNatClampNeg) none (
      back 21 [some (vR 11 0 0), some (vR 6 0 (M.2.2 67 (0 : Int32).toNatClampNeg)), some (vI 1)] M)) := rfl
set_option maxRecDepth 100000 in
theorem e120 (d : Nat)  (M : Mem) : evD (d + 1) 120 [vR 11 0 0] M =
  ic (M.1 0 8 < Int32.ofNat 16) (
    ic (M.1 0 8 < 0 ∨ 16 ≤ (M.1 0 8).toNatClampNeg) none (
      cVd (evD d 121 [vR 6 0 (M.2.2 67 (M.1 0 8).toNatClampNeg), vR 6 0 60] M) fun M1 =>
      some (none, sI M1 0 8 ((M1.1 0 8) + 1)))) (
    lp0 d 120 21 [some (vR 11 0 0), some (vR 6 0 (M.2.2 67 0)), some (vI 1)] M) := ((evD_step (d := d) (x := 120) (as := [vR 11 0 0]) (M := M) (md := (⟨"IceParliament", "keepForUndo", "()V"⟩, prog_1_method_17_code, 3, (Option.none : Option Jvm.ClassFile.FieldType), 11, 11)) rfl rfl).trans (j120 (evD d) (evp0 (lkE (codT 120)) (hdT 120) (evD d))  M)).trans (by (try simp only [ic_f (show ¬ ((0 : Int32) < 0 ∨ 16 ≤ (0 : Int32).toNatClampNeg) by decide)]); (try simp only [show (0 : Int32).toNatClampNeg = 0 from rfl]))
set_option maxRecDepth 100000 in
theorem g120_21 (call : Nat → List AV → Mem → Res) (back : Nat → Lv → Mem → Res) (r1 : Nat) (l2 : Int32) (M : Mem) : stepK call back (evj (lkE cd_120) [21] call back 4000) (.iload_n 2, 1, 2, 0, 0, 0, 0) 21 [some (vR 11 0 0), some (vR 6 0 r1), some (vI l2)] [] M =
  ic (l2 < Int32.ofNat 16) (
    ic (l2 < 0 ∨ 16 ≤ l2.toNatClampNeg) none (
      ic (l2 - 1 < 0 ∨ 16 ≤ (l2 - 1).toNatClampNeg) none (
        back 21 [some (vR 11 0 0), some (vR 6 0 r1), some (vI (l2 + 1))] (sR M 67 ((l2 - 1).toNatClampNeg) (M.2.2 67 l2.toNatClampNeg))))) (
    ic ((Int32.ofNat 16) - 1 < 0 ∨ 16 ≤ ((Int32.ofNat 16) - 1).toNatClampNeg) none (
      ic ((sI (sR M 67 (((Int32.ofNat 16) - 1).toNatClampNeg) r1) 0 8 ((Int32.ofNat 16) - 1)).1 0 8 < 0 ∨ 16 ≤ ((sI (sR M 67 (((Int32.ofNat 16) - 1).toNatClampNeg) r1) 0 8 ((Int32.ofNat 16) - 1)).1 0 8).toNatClampNeg) none (
        cVd (call 121 [vR 6 0 ((sI (sR M 67 (((Int32.ofNat 16) - 1).toNatClampNeg) r1) 0 8 ((Int32.ofNat 16) - 1)).2.2 67 ((sI (sR M 67 (((Int32.ofNat 16) - 1).toNatClampNeg) r1) 0 8 ((Int32.ofNat 16) - 1)).1 0 8).toNatClampNeg), vR 6 0 60] (sI (sR M 67 (((Int32.ofNat 16) - 1).toNatClampNeg) r1) 0 8 ((Int32.ofNat 16) - 1))) fun M1 =>
        some (none, sI M1 0 8 ((M1.1 0 8) + 1))))) := rfl
set_option maxRecDepth 100000 in
theorem e120_21 (d F : Nat) (r1 : Nat) (l2 : Int32) (M : Mem) : lp d 120 (F + 1) 21 [some (vR 11 0 0), some (vR 6 0 r1), some (vI l2)] M =
  ic (l2 < Int32.ofNat 16) (
    ic (l2 < 0 ∨ 16 ≤ l2.toNatClampNeg) none (
      ic (l2 - 1 < 0 ∨ 16 ≤ (l2 - 1).toNatClampNeg) none (
        lp d 120 F 21 [some (vR 11 0 0), some (vR 6 0 r1), some (vI (l2 + 1))] (sR M 67 ((l2 - 1).toNatClampNeg) (M.2.2 67 l2.toNatClampNeg))))) (
    ic ((Int32.ofNat 16) - 1 < 0 ∨ 16 ≤ ((Int32.ofNat 16) - 1).toNatClampNeg) none (
      ic ((sI (sR M 67 (((Int32.ofNat 16) - 1).toNatClampNeg) r1) 0 8 ((Int32.ofNat 16) - 1)).1 0 8 < 0 ∨ 16 ≤ ((sI (sR M 67 (((Int32.ofNat 16) - 1).toNatClampNeg) r1) 0 8 ((Int32.ofNat 16) - 1)).1 0 8).toNatClampNeg) none (
        cVd (evD d 121 [vR 6 0 ((sI (sR M 67 (((Int32.ofNat 16) - 1).toNatClampNeg) r1) 0 8 ((Int32.ofNat 16) - 1)).2.2 67 ((sI (sR M 67 (((Int32.ofNat 16) - 1).toNatClampNeg) r1) 0 8 ((Int32.ofNat 16) - 1)).1 0 8).toNatClampNeg), vR 6 0 60] (sI (sR M 67 (((Int32.ofNat 16) - 1).toNatClampNeg) r1) 0 8 ((Int32.ofNat 16) - 1))) fun M1 =>
        some (none, sI M1 0 8 ((M1.1 0 8) + 1))))) := ((evp_step (code := lkE (codT 120)) (hd := hdT 120) (call := evD d) (F := F) (pc := 21) (lv := [some (vR 11 0 0), some (vR 6 0 r1), some (vI l2)]) (M := M) (e := (.iload_n 2, 1, 2, 0, 0, 0, 0)) rfl).trans (g120_21 (evD d) (evp (lkE (codT 120)) (hdT 120) (evD d) F) r1 l2 M))
-- IceParliament$State copyFrom(LIceParliament$State;)V
set_option maxRecDepth 100000 in
theorem j121 (call : Nat → List AV → Mem → Res) (back : Nat → Lv → Mem → Res) (a : Nat) (a' : Nat) (M : Mem) : evj (lkE cd_121) [] call back 4000 0 [some (vR 6 0 a), some (vR 6 0 a')] [] M =
  ic ((0 : Int32) < 0 ∨ (0 : Int32) < 0 ∨ (6 : Int32) < 0 ∨ 6 < (0 : Int32).toNatClampNeg + (6 : Int32).toNatClampNeg ∨ 6 < (0 : Int32).toNatClampNeg + (6 : Int32).toNatClampNeg) none (
    ic ((0 : Int32) < 0 ∨ (0 : Int32) < 0 ∨ (6 : Int32) < 0 ∨ 6 < (0 : Int32).toNatClampNeg + (6 : Int32).toNatClampNeg ∨ 6 < (0 : Int32).toNatClampNeg + (6 : Int32).toNatClampNeg) none (
      ic ((0 : Int32) < 0 ∨ (0 : Int32) < 0 ∨ (6 : Int32) < 0 ∨ 6 < (0 : Int32).toNatClampNeg + (6 : Int32).toNatClampNeg ∨ 6 < (0 : Int32).toNatClampNeg + (6 : Int32).toNatClampNeg) none (
        ic ((0 : Int32) < 0 ∨ (0 : Int32) < 0 ∨ (6 : Int32) < 0 ∨ 6 < (0 : Int32).toNatClampNeg + (6 : Int32).toNatClampNeg ∨ 6 < (0 : Int32).toNatClampNeg + (6 : Int32).toNatClampNeg) none (
          ic ((0 : Int32) < 0 ∨ (0 : Int32) < 0 ∨ (6 : Int32) < 0 ∨ 6 < (0 : Int32).toNatClampNeg + (6 : Int32).toNatClampNeg ∨ 6 < (0 : Int32).toNatClampNeg + (6 : Int32).toNatClampNeg) none (
            ic ((0 : Int32) < 0 ∨ (0 : Int32) < 0 ∨ (6 : Int32) < 0 ∨ 6 < (0 : Int32).toNatClampNeg + (6 : Int32).toNatClampNeg ∨ 6 < (0 : Int32).toNatClampNeg + (6 : Int32).toNatClampNeg) none (
              some (none, sI (sI (sI (cpI (cpI (cpI (cpI (cpI (cpI (sI M a 0 (M.1 a' 0)) (a' + 1) ((0 : Int32).toNatClampNeg) (a + 1) ((0 : Int32).toNatClampNeg) ((6 : Int32).toNatClampNeg)) (a' + 2) ((0 : Int32).toNatClampNeg) (a + 2) ((0 : Int32).toNatClampNeg) ((6 : Int32).toNatClampNeg)) (a' + 3) ((0 : Int32).toNatClampNeg) (a + 3) ((0 : Int32).toNatClampNeg) ((6 : Int32).toNatClampNeg)) (a' + 4) ((0 : Int32).toNatClampNeg) (a + 4) ((0 : Int32).toNatClampNeg) ((6 : Int32).toNatClampNeg)) (a' + 5) ((0 : Int32).toNatClampNeg) (a + 5) ((0 : Int32).toNatClampNeg) ((6 : Int32).toNatClampNeg)) (a' + 6) ((0 : Int32).toNatClampNeg) (a + 6) ((0 : Int32).toNatClampNeg) ((6 : Int32).toNatClampNeg)) a 7 ((cpI (cpI (cpI (cpI (cpI (cpI (sI M a 0 (M.1 a' 0)) (a' + 1) ((0 : Int32).toNatClampNeg) (a + 1) ((0 : Int32).toNatClampNeg) ((6 : Int32).toNatClampNeg)) (a' + 2) ((0 : Int32).toNatClampNeg) (a + 2) ((0 : Int32).toNatClampNeg) ((6 : Int32).toNatClampNeg)) (a' + 3) ((0 : Int32).toNatClampNeg) (a + 3) ((0 : Int32).toNatClampNeg) ((6 : Int32).toNatClampNeg)) (a' + 4) ((0 : Int32).toNatClampNeg) (a + 4) ((0 : Int32).toNatClampNeg) ((6 : Int32).toNatClampNeg)) (a' + 5) ((0 : Int32).toNatClampNeg) (a + 5) ((0 : Int32).toNatClampNeg) ((6 : Int32).toNatClampNeg)) (a' + 6) ((0 : Int32).toNatClampNeg) (a + 6) ((0 : Int32).toNatClampNeg) ((6 : Int32).toNatClampNeg)).1 a' 7)) a 8 ((sI (cpI (cpI (cpI (cpI (cpI (cpI (sI M a 0 (M.1 a' 0)) (a' + 1) ((0 : Int32).toNatClampNeg) (a + 1) ((0 : Int32).toNatClampNeg) ((6 : Int32).toNatClampNeg)) (a' + 2) ((0 : Int32).toNatClampNeg) (a + 2) ((0 : Int32).toNatClampNeg) ((6 : Int32).toNatClampNeg)) (a' + 3) ((0 : Int32).toNatClampNeg) (a + 3) ((0 : Int32).toNatClampNeg) ((6 : Int32).toNatClampNeg)) (a' + 4) ((0 : Int32).toNatClampNeg) (a + 4) ((0 : Int32).toNatClampNeg) ((6 : Int32).toNatClampNeg)) (a' + 5) ((0 : Int32).toNatClampNeg) (a + 5) ((0 : Int32).toNatClampNeg) ((6 : Int32).toNatClampNeg)) (a' + 6) ((0 : Int32).toNatClampNeg) (a + 6) ((0 : Int32).toNatClampNeg) ((6 : Int32).toNatClampNeg)) a 7 ((cpI (cpI (cpI (cpI (cpI (cpI (sI M a 0 (M.1 a' 0)) (a' + 1) ((0 : Int32).toNatClampNeg) (a + 1) ((0 : Int32).toNatClampNeg) ((6 : Int32).toNatClampNeg)) (a' + 2) ((0 : Int32).toNatClampNeg) (a + 2) ((0 : Int32).toNatClampNeg) ((6 : Int32).toNatClampNeg)) (a' + 3) ((0 : Int32).toNatClampNeg) (a + 3) ((0 : Int32).toNatClampNeg) ((6 : Int32).toNatClampNeg)) (a' + 4) ((0 : Int32).toNatClampNeg) (a + 4) ((0 : Int32).toNatClampNeg) ((6 : Int32).toNatClampNeg)) (a' + 5) ((0 : Int32).toNatClampNeg) (a + 5) ((0 : Int32).toNatClampNeg) ((6 : Int32).toNatClampNeg)) (a' + 6) ((0 : Int32).toNatClampNeg) (a + 6) ((0 : Int32).toNatClampNeg) ((6 : Int32).toNatClampNeg)).1 a' 7)).1 a' 8)) a 9 ((sI (sI (cpI (cpI (cpI (cpI (cpI (cpI (sI M a 0 (M.1 a' 0)) (a' + 1) ((0 : Int32).toNatClampNeg) (a + 1) ((0 : Int32).toNatClampNeg) ((6 : Int32).toNatClampNeg)) (a' + 2) ((0 : Int32).toNatClampNeg) (a + 2) ((0 : Int32).toNatClampNeg) ((6 : Int32).toNatClampNeg)) (a' + 3) ((0 : Int32).toNatClampNeg) (a + 3) ((0 : Int32).toNatClampNeg) ((6 : Int32).toNatClampNeg)) (a' + 4) ((0 : Int32).toNatClampNeg) (a + 4) ((0 : Int32).toNatClampNeg) ((6 : Int32).toNatClampNeg)) (a' + 5) ((0 : Int32).toNatClampNeg) (a + 5) ((0 : Int32).toNatClampNeg) ((6 : Int32).toNatClampNeg)) (a' + 6) ((0 : Int32).toNatClampNeg) (a + 6) ((0 : Int32).toNatClampNeg) ((6 : Int32).toNatClampNeg)) a 7 ((cpI (cpI (cpI (cpI (cpI (cpI (sI M a 0 (M.1 a' 0)) (a' + 1) ((0 : Int32).toNatClampNeg) (a + 1) ((0 : Int32).toNatClampNeg) ((6 : Int32).toNatClampNeg)) (a' + 2) ((0 : Int32).toNatClampNeg) (a + 2) ((0 : Int32).toNatClampNeg) ((6 : Int32).toNatClampNeg)) (a' + 3) ((0 : Int32).toNatClampNeg) (a + 3) ((0 : Int32).toNatClampNeg) ((6 : Int32).toNatClampNeg)) (a' + 4) ((0 : Int32).toNatClampNeg) (a + 4) ((0 : Int32).toNatClampNeg) ((6 : Int32).toNatClampNeg)) (a' + 5) ((0 : Int32).toNatClampNeg) (a + 5) ((0 : Int32).toNatClampNeg) ((6 : Int32).toNatClampNeg)) (a' + 6) ((0 : Int32).toNatClampNeg) (a + 6) ((0 : Int32).toNatClampNeg) ((6 : Int32).toNatClampNeg)).1 a' 7)) a 8 ((sI (cpI (cpI (cpI (cpI (cpI (cpI (sI M a 0 (M.1 a' 0)) (a' + 1) ((0 : Int32).toNatClampNeg) (a + 1) ((0 : Int32).toNatClampNeg) ((6 : Int32).toNatClampNeg)) (a' + 2) ((0 : Int32).toNatClampNeg) (a + 2) ((0 : Int32).toNatClampNeg) ((6 : Int32).toNatClampNeg)) (a' + 3) ((0 : Int32).toNatClampNeg) (a + 3) ((0 : Int32).toNatClampNeg) ((6 : Int32).toNatClampNeg)) (a' + 4) ((0 : Int32).toNatClampNeg) (a + 4) ((0 : Int32).toNatClampNeg) ((6 : Int32).toNatClampNeg)) (a' + 5) ((0 : Int32).toNatClampNeg) (a + 5) ((0 : Int32).toNatClampNeg) ((6 : Int32).toNatClampNeg)) (a' + 6) ((0 : Int32).toNatClampNeg) (a + 6) ((0 : Int32).toNatClampNeg) ((6 : Int32).toNatClampNeg)) a 7 ((cpI (cpI (cpI (cpI (cpI (cpI (sI M a 0 (M.1 a' 0)) (a' + 1) ((0 : Int32).toNatClampNeg) (a + 1) ((0 : Int32).toNatClampNeg) ((6 : Int32).toNatClampNeg)) (a' + 2) ((0 : Int32).toNatClampNeg) (a + 2) ((0 : Int32).toNatClampNeg) ((6 : Int32).toNatClampNeg)) (a' + 3) ((0 : Int32).toNatClampNeg) (a + 3) ((0 : Int32).toNatClampNeg) ((6 : Int32).toNatClampNeg)) (a' + 4) ((0 : Int32).toNatClampNeg) (a + 4) ((0 : Int32).toNatClampNeg) ((6 : Int32).toNatClampNeg)) (a' + 5) ((0 : Int32).toNatClampNeg) (a + 5) ((0 : Int32).toNatClampNeg) ((6 : Int32).toNatClampNeg)) (a' + 6) ((0 : Int32).toNatClampNeg) (a + 6) ((0 : Int32).toNatClampNeg) ((6 : Int32).toNatClampNeg)).1 a' 7)).1 a' 8)).1 a' 9)))))))) := rfl
set_option maxRecDepth 100000 in
theorem e121 (d : Nat) (a : Nat) (a' : Nat) (M : Mem) : evD (d + 1) 121 [vR 6 0 a, vR 6 0 a'] M =
  some (none, sI (sI (sI (cpI (cpI (cpI (cpI (cpI (cpI (sI M a 0 (M.1 a' 0)) (a' + 1) 0 (a + 1) 0 6) (a' + 2) 0 (a + 2) 0 6) (a' + 3) 0 (a + 3) 0 6) (a' + 4) 0 (a + 4) 0 6) (a' + 5) 0 (a + 5) 0 6) (a' + 6) 0 (a + 6) 0 6) a 7 ((cpI (cpI (cpI (cpI (cpI (cpI (sI M a 0 (M.1 a' 0)) (a' + 1) 0 (a + 1) 0 6) (a' + 2) 0 (a + 2) 0 6) (a' + 3) 0 (a + 3) 0 6) (a' + 4) 0 (a + 4) 0 6) (a' + 5) 0 (a + 5) 0 6) (a' + 6) 0 (a + 6) 0 6).1 a' 7)) a 8 ((sI (cpI (cpI (cpI (cpI (cpI (cpI (sI M a 0 (M.1 a' 0)) (a' + 1) 0 (a + 1) 0 6) (a' + 2) 0 (a + 2) 0 6) (a' + 3) 0 (a + 3) 0 6) (a' + 4) 0 (a + 4) 0 6) (a' + 5) 0 (a + 5) 0 6) (a' + 6) 0 (a + 6) 0 6) a 7 ((cpI (cpI (cpI (cpI (cpI (cpI (sI M a 0 (M.1 a' 0)) (a' + 1) 0 (a + 1) 0 6) (a' + 2) 0 (a + 2) 0 6) (a' + 3) 0 (a + 3) 0 6) (a' + 4) 0 (a + 4) 0 6) (a' + 5) 0 (a + 5) 0 6) (a' + 6) 0 (a + 6) 0 6).1 a' 7)).1 a' 8)) a 9 ((sI (sI (cpI (cpI (cpI (cpI (cpI (cpI (sI M a 0 (M.1 a' 0)) (a' + 1) 0 (a + 1) 0 6) (a' + 2) 0 (a + 2) 0 6) (a' + 3) 0 (a + 3) 0 6) (a' + 4) 0 (a + 4) 0 6) (a' + 5) 0 (a + 5) 0 6) (a' + 6) 0 (a + 6) 0 6) a 7 ((cpI (cpI (cpI (cpI (cpI (cpI (sI M a 0 (M.1 a' 0)) (a' + 1) 0 (a + 1) 0 6) (a' + 2) 0 (a + 2) 0 6) (a' + 3) 0 (a + 3) 0 6) (a' + 4) 0 (a + 4) 0 6) (a' + 5) 0 (a + 5) 0 6) (a' + 6) 0 (a + 6) 0 6).1 a' 7)) a 8 ((sI (cpI (cpI (cpI (cpI (cpI (cpI (sI M a 0 (M.1 a' 0)) (a' + 1) 0 (a + 1) 0 6) (a' + 2) 0 (a + 2) 0 6) (a' + 3) 0 (a + 3) 0 6) (a' + 4) 0 (a + 4) 0 6) (a' + 5) 0 (a + 5) 0 6) (a' + 6) 0 (a + 6) 0 6) a 7 ((cpI (cpI (cpI (cpI (cpI (cpI (sI M a 0 (M.1 a' 0)) (a' + 1) 0 (a + 1) 0 6) (a' + 2) 0 (a + 2) 0 6) (a' + 3) 0 (a + 3) 0 6) (a' + 4) 0 (a + 4) 0 6) (a' + 5) 0 (a + 5) 0 6) (a' + 6) 0 (a + 6) 0 6).1 a' 7)).1 a' 8)).1 a' 9)) := ((evD_step (d := d) (x := 121) (as := [vR 6 0 a, vR 6 0 a']) (M := M) (md := (⟨"IceParliament$State", "copyFrom", "(LIceParliament$State;)V"⟩, prog_8_method_3_code, 2, (Option.none : Option Jvm.ClassFile.FieldType), 6, 6)) rfl rfl).trans (j121 (evD d) (evp0 (lkE (codT 121)) (hdT 121) (evD d)) a a' M)).trans (by (try simp only [ic_f (show ¬ ((0 : Int32) < 0 ∨ (0 : Int32) < 0 ∨ (6 : Int32) < 0 ∨ 6 < (0 : Int32).toNatClampNeg + (6 : Int32).toNatClampNeg ∨ 6 < (0 : Int32).toNatClampNeg + (6 : Int32).toNatClampNeg) by decide)]); (try simp only [show (0 : Int32).toNatClampNeg = 0 from rfl, show (6 : Int32).toNatClampNeg = 6 from rfl]))
-- IceParliament$State startAt(II)V
set_option maxRecDepth 100000 in
theorem j122 (call : Nat → List AV → Mem → Res) (back : Nat → Lv → Mem → Res) (a : Nat) (p0 : Int32) (p1 : Int32) (M : Mem) : evj (lkE cd_122) [] call back 4000 0 [some (vR 6 0 a), some (vI p0), some (vI p1)] [] M =
  ic (p0 < 0 ∨ 6 ≤ p0.toNatClampNeg) none (
    some (none, sI (sI M a 7 ((M.1 a 7) ||| (1 <<< (p0 &&& 31)))) (a + 4) p0.toNatClampNeg p1)) := rfl
set_option maxRecDepth 100000 in
theorem e122 (d : Nat) (a : Nat) (p0 : Int32) (p1 : Int32) (M : Mem) : evD (d + 1) 122 [vR 6 0 a, vI p0, vI p1] M =
  ic (p0 < 0 ∨ 6 ≤ p0.toNatClampNeg) none (
    some (none, sI (sI M a 7 ((M.1 a 7) ||| (1 <<< (p0 &&& 31)))) (a + 4) p0.toNatClampNeg p1)) := ((evD_step (d := d) (x := 122) (as := [vR 6 0 a, vI p0, vI p1]) (M := M) (md := (⟨"IceParliament$State", "startAt", "(II)V"⟩, prog_8_method_13_code, 3, (Option.none : Option Jvm.ClassFile.FieldType), 6, 6)) rfl rfl).trans (j122 (evD d) (evp0 (lkE (codT 122)) (hdT 122) (evD d)) a p0 p1 M))
-- IceParliament carve(II)I
set_option maxRecDepth 100000 in
theorem j123 (call : Nat → List AV → Mem → Res) (back : Nat → Lv → Mem → Res) (p0 : Int32) (p1 : Int32) (M : Mem) : evj (lkE cd_123) [] call back 4000 0 [some (vR 11 0 0), some (vI p0), some (vI p1)] [] M =
  cIn (call 108 [vR 11 0 0, vI p0] M) fun v2 M1 =>
  ic (v2 = 0) (
    some (some (vI (-1)), M1)) (
    cIn (call 94 [vR 11 0 0, vI p1] M1) fun v4 M3 =>
    ic (v4 = 0) (
      some (some (vI (-1)), M3)) (
      cIn (call 124 [vR 6 0 60, vI p0, vI p1] M3) fun v6 M5 =>
      ic (v6 = 0) (
        some (some (vI (-1)), M5)) (
        cVd (call 120 [vR 11 0 0] M5) fun M7 =>
        cVd (call 125 [vR 6 0 60, vI p0, vI p1] M7) fun M8 =>
        ic (p1 < 0 ∨ 6 ≤ p1.toNatClampNeg) none (
          some (some (vI (M8.1 62 p1.toNatClampNeg)), M8))))) := rfl
set_option maxRecDepth 100000 in
theorem e123 (d : Nat) (p0 : Int32) (p1 : Int32) (M : Mem) : evD (d + 1) 123 [vR 11 0 0, vI p0, vI p1] M =
  cIn (evD d 108 [vR 11 0 0, vI p0] M) fun v2 M1 =>
  ic (v2 = 0) (
    some (some (vI (-1)), M1)) (
    cIn (evD d 94 [vR 11 0 0, vI p1] M1) fun v4 M3 =>
    ic (v4 = 0) (
      some (some (vI (-1)), M3)) (
      cIn (evD d 124 [vR 6 0 60, vI p0, vI p1] M3) fun v6 M5 =>
      ic (v6 = 0) (
        some (some (vI (-1)), M5)) (
        cVd (evD d 120 [vR 11 0 0] M5) fun M7 =>
        cVd (evD d 125 [vR 6 0 60, vI p0, vI p1] M7) fun M8 =>
        ic (p1 < 0 ∨ 6 ≤ p1.toNatClampNeg) none (
          some (some (vI (M8.1 62 p1.toNatClampNeg)), M8))))) := ((evD_step (d := d) (x := 123) (as := [vR 11 0 0, vI p0, vI p1]) (M := M) (md := (⟨"IceParliament", "carve", "(II)I"⟩, prog_1_method_11_code, 3, (Option.some Jvm.ClassFile.FieldType.int), 11, 11)) rfl rfl).trans (j123 (evD d) (evp0 (lkE (codT 123)) (hdT 123) (evD d)) p0 p1 M))
-- IceParliament$State canCarve(II)Z
set_option maxRecDepth 100000 in
theorem j124 (call : Nat → List AV → Mem → Res) (back : Nat → Lv → Mem → Res) (a : Nat) (p0 : Int32) (p1 : Int32) (M : Mem) : evj (lkE cd_124) [] call back 4000 0 [some (vR 6 0 a), some (vI p0), some (vI p1)] [] M =
  cIn (call 64 [vI (M.1 a 9), vI p0] M) fun v2 M1 =>
  ic (v2 = 0) (
    ic (p0 < 0 ∨ 6 ≤ p0.toNatClampNeg) none (
      ic (M1.1 (a + 5) p0.toNatClampNeg = (-1)) (
        cIn (call 97 [vR 6 0 a, vI p1] M1) fun v4 M3 =>
        ic (v4 = 0) (
          ic ((0 : Int32) &&& 1 = 0) (
            some (some (vI 0), M3)) none) (
          cIn (call 99 [vR 6 0 a, vI p1] M3) fun v6 M5 =>
          ic (v6 = 0) (
            ic ((1 : Int32) &&& 1 = 1) (
              some (some (vI 1), M5)) none) (
            ic ((0 : Int32) &&& 1 = 0) (
              some (some (vI 0), M5)) none))) (
        ic ((0 : Int32) &&& 1 = 0) (
          some (some (vI 0), M1)) none))) (
    ic ((0 : Int32) &&& 1 = 0) (
      some (some (vI 0), M1)) none) := rfl
set_option maxRecDepth 100000 in
theorem e124 (d : Nat) (a : Nat) (p0 : Int32) (p1 : Int32) (M : Mem) : evD (d + 1) 124 [vR 6 0 a, vI p0, vI p1] M =
  cIn (evD d 64 [vI (M.1 a 9), vI p0] M) fun v2 M1 =>
  ic (v2 = 0) (
    ic (p0 < 0 ∨ 6 ≤ p0.toNatClampNeg) none (
      ic (M1.1 (a + 5) p0.toNatClampNeg = (-1)) (
        cIn (evD d 97 [vR 6 0 a, vI p1] M1) fun v4 M3 =>
        ic (v4 = 0) (
          some (some (vI 0), M3)) (
          cIn (evD d 99 [vR 6 0 a, vI p1] M3) fun v6 M5 =>
          ic (v6 = 0) (
            some (some (vI 1), M5)) (
            some (some (vI 0), M5)))) (
        some (some (vI 0), M1)))) (
    some (some (vI 0), M1)) := ((evD_step (d := d) (x := 124) (as := [vR 6 0 a, vI p0, vI p1]) (M := M) (md := (⟨"IceParliament$State", "canCarve", "(II)Z"⟩, prog_8_method_14_code, 3, (Option.some Jvm.ClassFile.FieldType.boolean), 6, 6)) rfl rfl).trans (j124 (evD d) (evp0 (lkE (codT 124)) (hdT 124) (evD d)) a p0 p1 M)).trans (by (try simp only [ic_t (show (0 : Int32) &&& 1 = 0 by decide), ic_t (show (1 : Int32) &&& 1 = 1 by decide)]))
-- IceParliament$State cutBy(II)V
set_option maxRecDepth 100000 in
theorem j125 (call : Nat → List AV → Mem → Res) (back : Nat → Lv → Mem → Res) (a : Nat) (p0 : Int32) (p1 : Int32) (M : Mem) : evj (lkE cd_125) [] call back 4000 0 [some (vR 6 0 a), some (vI p0), some (vI p1)] [] M =
  ic (p1 < 0 ∨ 6 ≤ p1.toNatClampNeg) none (
    ic (p1 < 0 ∨ 6 ≤ p1.toNatClampNeg) none (
      cIn (call 126 [vR 9 0 3, vI p0, vI (M.1 (a + 1) p1.toNatClampNeg), vI (M.1 (a + 2) p1.toNatClampNeg)] M) fun v2 M1 =>
      ic (p1 < 0 ∨ 6 ≤ p1.toNatClampNeg) none (
        ic (p0 < 0 ∨ 6 ≤ p0.toNatClampNeg) none (
          some (none, sI (sI M1 (a + 2) p1.toNatClampNeg v2) (a + 5) p0.toNatClampNeg p1))))) := rfl
set_option maxRecDepth 100000 in
theorem e125 (d : Nat) (a : Nat) (p0 : Int32) (p1 : Int32) (M : Mem) : evD (d + 1) 125 [vR 6 0 a, vI p0, vI p1] M =
  ic (p1 < 0 ∨ 6 ≤ p1.toNatClampNeg) none (
    ic (p1 < 0 ∨ 6 ≤ p1.toNatClampNeg) none (
      cIn (evD d 126 [vR 9 0 3, vI p0, vI (M.1 (a + 1) p1.toNatClampNeg), vI (M.1 (a + 2) p1.toNatClampNeg)] M) fun v2 M1 =>
      ic (p1 < 0 ∨ 6 ≤ p1.toNatClampNeg) none (
        ic (p0 < 0 ∨ 6 ≤ p0.toNatClampNeg) none (
          some (none, sI (sI M1 (a + 2) p1.toNatClampNeg v2) (a + 5) p0.toNatClampNeg p1))))) := ((evD_step (d := d) (x := 125) (as := [vR 6 0 a, vI p0, vI p1]) (M := M) (md := (⟨"IceParliament$State", "cutBy", "(II)V"⟩, prog_8_method_15_code, 3, (Option.none : Option Jvm.ClassFile.FieldType), 6, 6)) rfl rfl).trans (j125 (evD d) (evp0 (lkE (codT 125)) (hdT 125) (evD d)) a p0 p1 M))
-- IceParliament$Yard chipsBy(III)I
set_option maxRecDepth 100000 in
theorem j126 (call : Nat → List AV → Mem → Res) (back : Nat → Lv → Mem → Res) (kY : Nat) (p0 : Int32) (p1 : Int32) (p2 : Int32) (M : Mem) : evj (lkE cd_126) [] call back 4000 0 [some (vR 9 0 kY), some (vI p0), some (vI p1), some (vI p2), none] [] M =
  ic (p0 < 0 ∨ 6 ≤ p0.toNatClampNeg) none (
    cIn (call 104 [vR 1 0 (kY + 20), vI (M.1 (kY + 9) p0.toNatClampNeg), vI p1, vI p2] M) fun v2 M1 =>
    cIn (call 22 [vI 99, vI v2] M1) fun v4 M3 =>
    cIn (call 21 [vI 0, vI v4] M3) fun v6 M5 =>
    cIn (call 22 [vI 99, vI (p2 + v6)] M5) fun v8 M7 =>
    some (some (vI v8), M7)) := rfl
set_option maxRecDepth 100000 in
theorem e126 (d : Nat) (kY : Nat) (p0 : Int32) (p1 : Int32) (p2 : Int32) (M : Mem) : evD (d + 1) 126 [vR 9 0 kY, vI p0, vI p1, vI p2] M =
  ic (p0 < 0 ∨ 6 ≤ p0.toNatClampNeg) none (
    cIn (evD d 104 [vR 1 0 (kY + 20), vI (M.1 (kY + 9) p0.toNatClampNeg), vI p1, vI p2] M) fun v2 M1 =>
    cIn (evD d 22 [vI 99, vI v2] M1) fun v4 M3 =>
    cIn (evD d 21 [vI 0, vI v4] M3) fun v6 M5 =>
    cIn (evD d 22 [vI 99, vI (p2 + v6)] M5) fun v8 M7 =>
    some (some (vI v8), M7)) := ((evD_step (d := d) (x := 126) (as := [vR 9 0 kY, vI p0, vI p1, vI p2]) (M := M) (md := (⟨"IceParliament$Yard", "chipsBy", "(III)I"⟩, prog_11_method_10_code, 5, (Option.some Jvm.ClassFile.FieldType.int), 9, 9)) rfl rfl).trans (j126 (evD d) (evp0 (lkE (codT 126)) (hdT 126) (evD d)) kY p0 p1 p2 M))
-- IceParliament prop(I)I
set_option maxRecDepth 100000 in
theorem j127 (call : Nat → List AV → Mem → Res) (back : Nat → Lv → Mem → Res) (p0 : Int32) (M : Mem) : evj (lkE cd_127) [] call back 4000 0 [some (vR 11 0 0), some (vI p0)] [] M =
  cIn (call 94 [vR 11 0 0, vI p0] M) fun v2 M1 =>
  ic (v2 = 0) (
    some (some (vI (-1)), M1)) (
    cIn (call 128 [vR 6 0 60, vI p0] M1) fun v4 M3 =>
    ic (v4 = 0) (
      some (some (vI (-1)), M3)) (
      cVd (call 120 [vR 11 0 0] M3) fun M5 =>
      ic (p0 < 0 ∨ 6 ≤ p0.toNatClampNeg) none (
        ic (p0 < 0 ∨ 6 ≤ p0.toNatClampNeg) none (
          ic (p0 < 0 ∨ 6 ≤ p0.toNatClampNeg) none (
            some (some (vI ((sI M5 63 p0.toNatClampNeg ((M5.1 63 p0.toNatClampNeg) + 1)).1 63 p0.toNatClampNeg)), sI M5 63 p0.toNatClampNeg ((M5.1 63 p0.toNatClampNeg) + 1))))))) := rfl
set_option maxRecDepth 100000 in
theorem e127 (d : Nat) (p0 : Int32) (M : Mem) : evD (d + 1) 127 [vR 11 0 0, vI p0] M =
  cIn (evD d 94 [vR 11 0 0, vI p0] M) fun v2 M1 =>
  ic (v2 = 0) (
    some (some (vI (-1)), M1)) (
    cIn (evD d 128 [vR 6 0 60, vI p0] M1) fun v4 M3 =>
    ic (v4 = 0) (
      some (some (vI (-1)), M3)) (
      cVd (evD d 120 [vR 11 0 0] M3) fun M5 =>
      ic (p0 < 0 ∨ 6 ≤ p0.toNatClampNeg) none (
        ic (p0 < 0 ∨ 6 ≤ p0.toNatClampNeg) none (
          ic (p0 < 0 ∨ 6 ≤ p0.toNatClampNeg) none (
            some (some (vI ((sI M5 63 p0.toNatClampNeg ((M5.1 63 p0.toNatClampNeg) + 1)).1 63 p0.toNatClampNeg)), sI M5 63 p0.toNatClampNeg ((M5.1 63 p0.toNatClampNeg) + 1))))))) := ((evD_step (d := d) (x := 127) (as := [vR 11 0 0, vI p0]) (M := M) (md := (⟨"IceParliament", "prop", "(I)I"⟩, prog_1_method_12_code, 2, (Option.some Jvm.ClassFile.FieldType.int), 11, 11)) rfl rfl).trans (j127 (evD d) (evp0 (lkE (codT 127)) (hdT 127) (evD d)) p0 M))
-- IceParliament$State canProp(I)Z
set_option maxRecDepth 100000 in
theorem j128 (call : Nat → List AV → Mem → Res) (back : Nat → Lv → Mem → Res) (a : Nat) (p0 : Int32) (M : Mem) : evj (lkE cd_128) [] call back 4000 0 [some (vR 6 0 a), some (vI p0)] [] M =
  cIn (call 97 [vR 6 0 a, vI p0] M) fun v2 M1 =>
  ic (v2 = 0) (
    ic ((0 : Int32) &&& 1 = 0) (
      some (some (vI 0), M1)) none) (
    ic (p0 < 0 ∨ 6 ≤ p0.toNatClampNeg) none (
      ic (M1.1 (a + 3) p0.toNatClampNeg < 3) (
        ic ((1 : Int32) &&& 1 = 1) (
          some (some (vI 1), M1)) none) (
        ic ((0 : Int32) &&& 1 = 0) (
          some (some (vI 0), M1)) none))) := rfl
set_option maxRecDepth 100000 in
theorem e128 (d : Nat) (a : Nat) (p0 : Int32) (M : Mem) : evD (d + 1) 128 [vR 6 0 a, vI p0] M =
  cIn (evD d 97 [vR 6 0 a, vI p0] M) fun v2 M1 =>
  ic (v2 = 0) (
    some (some (vI 0), M1)) (
    ic (p0 < 0 ∨ 6 ≤ p0.toNatClampNeg) none (
      ic (M1.1 (a + 3) p0.toNatClampNeg < 3) (
        some (some (vI 1), M1)) (
        some (some (vI 0), M1)))) := ((evD_step (d := d) (x := 128) (as := [vR 6 0 a, vI p0]) (M := M) (md := (⟨"IceParliament$State", "canProp", "(I)Z"⟩, prog_8_method_16_code, 2, (Option.some Jvm.ClassFile.FieldType.boolean), 6, 6)) rfl rfl).trans (j128 (evD d) (evp0 (lkE (codT 128)) (hdT 128) (evD d)) a p0 M)).trans (by (try simp only [ic_t (show (0 : Int32) &&& 1 = 0 by decide), ic_t (show (1 : Int32) &&& 1 = 1 by decide)]))
-- IceParliament torch(I)I
set_option maxRecDepth 100000 in
theorem j129 (call : Nat → List AV → Mem → Res) (back : Nat → Lv → Mem → Res) (p0 : Int32) (M : Mem) : evj (lkE cd_129) [] call back 4000 0 [some (vR 11 0 0), some (vI p0)] [] M =
  cIn (call 94 [vR 11 0 0, vI p0] M) fun v2 M1 =>
  ic (v2 = 0) (
    some (some (vI (-1)), M1)) (
    cIn (call 97 [vR 6 0 60, vI p0] M1) fun v4 M3 =>
    ic (v4 = 0) (
      some (some (vI (-1)), M3)) (
      cVd (call 120 [vR 11 0 0] M3) fun M5 =>
      cVd (call 130 [vR 6 0 60, vI p0] M5) fun M6 =>
      ic (p0 < 0 ∨ 6 ≤ p0.toNatClampNeg) none (
        some (some (vI (M6.1 61 p0.toNatClampNeg)), M6)))) := rfl
set_option maxRecDepth 100000 in
theorem e129 (d : Nat) (p0 : Int32) (M : Mem) : evD (d + 1) 129 [vR 11 0 0, vI p0] M =
  cIn (evD d 94 [vR 11 0 0, vI p0] M) fun v2 M1 =>
  ic (v2 = 0) (
    some (some (vI (-1)), M1)) (
    cIn (evD d 97 [vR 6 0 60, vI p0] M1) fun v4 M3 =>
    ic (v4 = 0) (
      some (some (vI (-1)), M3)) (
      cVd (evD d 120 [vR 11 0 0] M3) fun M5 =>
      cVd (evD d 130 [vR 6 0 60, vI p0] M5) fun M6 =>
      ic (p0 < 0 ∨ 6 ≤ p0.toNatClampNeg) none (
        some (some (vI (M6.1 61 p0.toNatClampNeg)), M6)))) := ((evD_step (d := d) (x := 129) (as := [vR 11 0 0, vI p0]) (M := M) (md := (⟨"IceParliament", "torch", "(I)I"⟩, prog_1_method_13_code, 2, (Option.some Jvm.ClassFile.FieldType.int), 11, 11)) rfl rfl).trans (j129 (evD d) (evp0 (lkE (codT 129)) (hdT 129) (evD d)) p0 M))
-- IceParliament$State burn(I)V
set_option maxRecDepth 100000 in
theorem j130 (call : Nat → List AV → Mem → Res) (back : Nat → Lv → Mem → Res) (a : Nat) (p0 : Int32) (M : Mem) : evj (lkE cd_130) [] call back 4000 0 [some (vR 6 0 a), some (vI p0)] [] M =
  cIn (call 131 [vR 6 0 a, vI p0, vI 1] M) fun v2 M1 =>
  some (none, M1) := rfl
set_option maxRecDepth 100000 in
theorem e130 (d : Nat) (a : Nat) (p0 : Int32) (M : Mem) : evD (d + 1) 130 [vR 6 0 a, vI p0] M =
  cIn (evD d 131 [vR 6 0 a, vI p0, vI 1] M) fun v2 M1 =>
  some (none, M1) := ((evD_step (d := d) (x := 130) (as := [vR 6 0 a, vI p0]) (M := M) (md := (⟨"IceParliament$State", "burn", "(I)V"⟩, prog_8_method_17_code, 2, (Option.none : Option Jvm.ClassFile.FieldType), 6, 6)) rfl rfl).trans (j130 (evD d) (evp0 (lkE (codT 130)) (hdT 130) (evD d)) a p0 M))
-- IceParliament$State lose(II)Z
set_option maxRecDepth 100000 in
theorem j131 (call : Nat → List AV → Mem → Res) (back : Nat → Lv → Mem → Res) (a : Nat) (p0 : Int32) (p1 : Int32) (M : Mem) : evj (lkE cd_131) [] call back 4000 0 [some (vR 6 0 a), some (vI p0), some (vI p1)] [] M =
  ic (p0 < 0 ∨ 6 ≤ p0.toNatClampNeg) none (
    cIn (call 21 [vI 0, vI ((M.1 (a + 1) p0.toNatClampNeg) - p1)] M) fun v2 M1 =>
    ic (p0 < 0 ∨ 6 ≤ p0.toNatClampNeg) none (
      ic (p0 < 0 ∨ 6 ≤ p0.toNatClampNeg) none (
        ic (0 < (sI M1 (a + 1) p0.toNatClampNeg v2).1 (a + 1) p0.toNatClampNeg) (
          ic ((0 : Int32) &&& 1 = 0) (
            some (some (vI 0), sI M1 (a + 1) p0.toNatClampNeg v2)) none) (
          ic (p0 < 0 ∨ 6 ≤ p0.toNatClampNeg) none (
            ic ((1 : Int32) &&& 1 = 1) (
              some (some (vI 1), sI (sI (sI M1 (a + 1) p0.toNatClampNeg v2) a 8 (((sI M1 (a + 1) p0.toNatClampNeg v2).1 a 8) ||| (1 <<< (p0 &&& 31)))) (a + 4) p0.toNatClampNeg (-1))) none))))) := rfl
set_option maxRecDepth 100000 in
theorem e131 (d : Nat) (a : Nat) (p0 : Int32) (p1 : Int32) (M : Mem) : evD (d + 1) 131 [vR 6 0 a, vI p0, vI p1] M =
  ic (p0 < 0 ∨ 6 ≤ p0.toNatClampNeg) none (
    cIn (evD d 21 [vI 0, vI ((M.1 (a + 1) p0.toNatClampNeg) - p1)] M) fun v2 M1 =>
    ic (p0 < 0 ∨ 6 ≤ p0.toNatClampNeg) none (
      ic (p0 < 0 ∨ 6 ≤ p0.toNatClampNeg) none (
        ic (0 < (sI M1 (a + 1) p0.toNatClampNeg v2).1 (a + 1) p0.toNatClampNeg) (
          some (some (vI 0), sI M1 (a + 1) p0.toNatClampNeg v2)) (
          ic (p0 < 0 ∨ 6 ≤ p0.toNatClampNeg) none (
            some (some (vI 1), sI (sI (sI M1 (a + 1) p0.toNatClampNeg v2) a 8 (((sI M1 (a + 1) p0.toNatClampNeg v2).1 a 8) ||| (1 <<< (p0 &&& 31)))) (a + 4) p0.toNatClampNeg (-1))))))) := ((evD_step (d := d) (x := 131) (as := [vR 6 0 a, vI p0, vI p1]) (M := M) (md := (⟨"IceParliament$State", "lose", "(II)Z"⟩, prog_8_method_18_code, 3, (Option.some Jvm.ClassFile.FieldType.boolean), 6, 6)) rfl rfl).trans (j131 (evD d) (evp0 (lkE (codT 131)) (hdT 131) (evD d)) a p0 p1 M)).trans (by (try simp only [ic_t (show (1 : Int32) &&& 1 = 1 by decide), ic_t (show (0 : Int32) &&& 1 = 0 by decide)]))
-- IceParliament night()I
set_option maxRecDepth 100000 in
theorem j132 (call : Nat → List AV → Mem → Res) (back : Nat → Lv → Mem → Res)  (M : Mem) : evj (lkE cd_132) [] call back 4000 0 [some (vR 11 0 0)] [] M =
  cVd (call 120 [vR 11 0 0] M) fun M1 =>
  cIn (call 133 [vR 6 0 60, vI 0] M1) fun v3 M2 =>
  some (some (vI v3), M2) := rfl
set_option maxRecDepth 100000 in
theorem e132 (d : Nat)  (M : Mem) : evD (d + 1) 132 [vR 11 0 0] M =
  cVd (evD d 120 [vR 11 0 0] M) fun M1 =>
  cIn (evD d 133 [vR 6 0 60, vI 0] M1) fun v3 M2 =>
  some (some (vI v3), M2) := ((evD_step (d := d) (x := 132) (as := [vR 11 0 0]) (M := M) (md := (⟨"IceParliament", "night", "()I"⟩, prog_1_method_14_code, 1, (Option.some Jvm.ClassFile.FieldType.int), 11, 11)) rfl rfl).trans (j132 (evD d) (evp0 (lkE (codT 132)) (hdT 132) (evD d))  M))
-- IceParliament$State passNight(I)I
set_option maxRecDepth 100000 in
theorem j133 (call : Nat → List AV → Mem → Res) (back : Nat → Lv → Mem → Res) (a : Nat) (p0 : Int32) (M : Mem) : evj (lkE cd_133) [4] call back 4000 0 [some (vR 6 0 a), some (vI p0), none, none] [] M =
  back 4 [some (vR 6 0 a), some (vI p0), some (vI 0), some (vI 0)] M := rfl
set_option maxRecDepth 100000 in
theorem e133 (d : Nat) (a : Nat) (p0 : Int32) (M : Mem) : evD (d + 1) 133 [vR 6 0 a, vI p0] M =
  lp0 d 133 4 [some (vR 6 0 a), some (vI p0), some (vI 0), some (vI 0)] M := ((evD_step (d := d) (x := 133) (as := [vR 6 0 a, vI p0]) (M := M) (md := (⟨"IceParliament$State", "passNight", "(I)I"⟩, prog_8_method_21_code, 4, (Option.some Jvm.ClassFile.FieldType.int), 6, 6)) rfl rfl).trans (j133 (evD d) (evp0 (lkE (codT 133)) (hdT 133) (evD d)) a p0 M))
set_option maxRecDepth 100000 in
theorem g133_4 (call : Nat → List AV → Mem → Res) (back : Nat → Lv → Mem → Res) (a : Nat) (l1 : Int32) (l2 : Int32) (l3 : Int32) (M : Mem) : stepK call back (evj (lkE cd_133) [4] call back 4000) (.iload_n 3, 1, 3, 0, 0, 0, 0) 4 [some (vR 6 0 a), some (vI l1), some (vI l2), some (vI l3)] [] M =
  ic (l3 < M.1 8 0) (
    cIn (call 97 [vR 6 0 a, vI l3] M) fun v4 M3 =>
    ic (v4 = 0) (
      back 4 [some (vR 6 0 a), some (vI l1), some (vI l2), some (vI (l3 + 1))] M3) (
      cIn (call 100 [vR 6 0 a, vI l3, vI l1] M3) fun v6 M5 =>
      cIn (call 131 [vR 6 0 a, vI l3, vI v6] M5) fun v8 M7 =>
      ic (v8 = 0) (
        back 4 [some (vR 6 0 a), some (vI l1), some (vI l2), some (vI (l3 + 1))] M7) (
        ic (l3 < 0 ∨ 6 ≤ l3.toNatClampNeg) none (
          ic (M7.1 17 l3.toNatClampNeg < 0 ∨ 6 ≤ (M7.1 17 l3.toNatClampNeg).toNatClampNeg) none (
            ic (M7.1 (a + 5) (M7.1 17 l3.toNatClampNeg).toNatClampNeg = l3) (
              ic (l3 < 0 ∨ 6 ≤ l3.toNatClampNeg) none (
                back 4 [some (vR 6 0 a), some (vI l1), some (vI (l2 + 1)), some (vI (l3 + 1))] (sI M7 a 9 ((M7.1 a 9) ||| (1 <<< ((M7.1 17 l3.toNatClampNeg) &&& 31)))))) (
              back 4 [some (vR 6 0 a), some (vI l1), some (vI (l2 + 1)), some (vI (l3 + 1))] M7)))))) (
    cVd (call 2 [vR 20 6 (a + 5), vI (-1)] M) fun M1 =>
    cVd (call 2 [vR 20 6 (a + 6), vI (-1)] M1) fun M2 =>
    some (some (vI l2), sI M2 a 0 ((M2.1 a 0) + 1))) := rfl
set_option maxRecDepth 100000 in
theorem e133_4 (d F : Nat) (a : Nat) (l1 : Int32) (l2 : Int32) (l3 : Int32) (M : Mem) : lp d 133 (F + 1) 4 [some (vR 6 0 a), some (vI l1), some (vI l2), some (vI l3)] M =
  ic (l3 < M.1 8 0) (
    cIn (evD d 97 [vR 6 0 a, vI l3] M) fun v4 M3 =>
    ic (v4 = 0) (
      lp d 133 F 4 [some (vR 6 0 a), some (vI l1), some (vI l2), some (vI (l3 + 1))] M3) (
      cIn (evD d 100 [vR 6 0 a, vI l3, vI l1] M3) fun v6 M5 =>
      cIn (evD d 131 [vR 6 0 a, vI l3, vI v6] M5) fun v8 M7 =>
      ic (v8 = 0) (
        lp d 133 F 4 [some (vR 6 0 a), some (vI l1), some (vI l2), some (vI (l3 + 1))] M7) (
        ic (l3 < 0 ∨ 6 ≤ l3.toNatClampNeg) none (
          ic (M7.1 17 l3.toNatClampNeg < 0 ∨ 6 ≤ (M7.1 17 l3.toNatClampNeg).toNatClampNeg) none (
            ic (M7.1 (a + 5) (M7.1 17 l3.toNatClampNeg).toNatClampNeg = l3) (
              ic (l3 < 0 ∨ 6 ≤ l3.toNatClampNeg) none (
                lp d 133 F 4 [some (vR 6 0 a), some (vI l1), some (vI (l2 + 1)), some (vI (l3 + 1))] (sI M7 a 9 ((M7.1 a 9) ||| (1 <<< ((M7.1 17 l3.toNatClampNeg) &&& 31)))))) (
              lp d 133 F 4 [some (vR 6 0 a), some (vI l1), some (vI (l2 + 1)), some (vI (l3 + 1))] M7)))))) (
    cVd (evD d 2 [vR 20 6 (a + 5), vI (-1)] M) fun M1 =>
    cVd (evD d 2 [vR 20 6 (a + 6), vI (-1)] M1) fun M2 =>
    some (some (vI l2), sI M2 a 0 ((M2.1 a 0) + 1))) := ((evp_step (code := lkE (codT 133)) (hd := hdT 133) (call := evD d) (F := F) (pc := 4) (lv := [some (vR 6 0 a), some (vI l1), some (vI l2), some (vI l3)]) (M := M) (e := (.iload_n 3, 1, 3, 0, 0, 0, 0)) rfl).trans (g133_4 (evD d) (evp (lkE (codT 133)) (hdT 133) (evD d) F) a l1 l2 l3 M))
-- IceParliament undo()Z
set_option maxRecDepth 100000 in
theorem j134 (call : Nat → List AV → Mem → Res) (back : Nat → Lv → Mem → Res)  (M : Mem) : evj (lkE cd_134) [] call back 4000 0 [some (vR 11 0 0)] [] M =
  ic (M.1 0 8 < 1) (
    ic ((0 : Int32) &&& 1 = 0) (
      some (some (vI 0), M)) none) (
    ic (Int32.ofNat 16 < M.1 0 8) (
      ic ((0 : Int32) &&& 1 = 0) (
        some (some (vI 0), M)) none) (
      ic ((sI M 0 8 ((M.1 0 8) - 1)).1 0 8 < 0 ∨ 16 ≤ ((sI M 0 8 ((M.1 0 8) - 1)).1 0 8).toNatClampNeg) none (
        cVd (call 121 [vR 6 0 60, vR 6 0 ((sI M 0 8 ((M.1 0 8) - 1)).2.2 67 ((sI M 0 8 ((M.1 0 8) - 1)).1 0 8).toNatClampNeg)] (sI M 0 8 ((M.1 0 8) - 1))) fun M1 =>
        ic ((1 : Int32) &&& 1 = 1) (
          some (some (vI 1), M1)) none))) := rfl
set_option maxRecDepth 100000 in
theorem e134 (d : Nat)  (M : Mem) : evD (d + 1) 134 [vR 11 0 0] M =
  ic (M.1 0 8 < 1) (
    some (some (vI 0), M)) (
    ic (Int32.ofNat 16 < M.1 0 8) (
      some (some (vI 0), M)) (
      ic ((sI M 0 8 ((M.1 0 8) - 1)).1 0 8 < 0 ∨ 16 ≤ ((sI M 0 8 ((M.1 0 8) - 1)).1 0 8).toNatClampNeg) none (
        cVd (evD d 121 [vR 6 0 60, vR 6 0 ((sI M 0 8 ((M.1 0 8) - 1)).2.2 67 ((sI M 0 8 ((M.1 0 8) - 1)).1 0 8).toNatClampNeg)] (sI M 0 8 ((M.1 0 8) - 1))) fun M1 =>
        some (some (vI 1), M1)))) := ((evD_step (d := d) (x := 134) (as := [vR 11 0 0]) (M := M) (md := (⟨"IceParliament", "undo", "()Z"⟩, prog_1_method_15_code, 1, (Option.some Jvm.ClassFile.FieldType.boolean), 11, 11)) rfl rfl).trans (j134 (evD d) (evp0 (lkE (codT 134)) (hdT 134) (evD d))  M)).trans (by (try simp only [ic_t (show (0 : Int32) &&& 1 = 0 by decide), ic_t (show (1 : Int32) &&& 1 = 1 by decide)]))
-- IceParliament mark(IZ)Z
set_option maxRecDepth 100000 in
theorem j135 (call : Nat → List AV → Mem → Res) (back : Nat → Lv → Mem → Res) (p0 : Int32) (p1 : Int32) (M : Mem) : evj (lkE cd_135) [] call back 4000 0 [some (vR 11 0 0), some (vI p0), some (vI p1)] [] M =
  ic (p0 < 0) (
    ic ((0 : Int32) &&& 1 = 0) (
      some (some (vI 0), M)) none) (
    ic (p0 < Int32.ofNat 4) (
      ic (p1 = 0) (
        ic (p0 < 0 ∨ 4 ≤ p0.toNatClampNeg) none (
          cVd (call 121 [vR 6 0 (M.2.2 68 p0.toNatClampNeg), vR 6 0 60] M) fun M4 =>
          ic ((1 : Int32) &&& 1 = 1) (
            some (some (vI 1), sI M4 0 10 ((M4.1 0 10) ||| (1 <<< (p0 &&& 31))))) none)) (
        cIn (call 64 [vI (M.1 0 10), vI p0] M) fun v2 M1 =>
        ic (v2 = 0) (
          ic ((0 : Int32) &&& 1 = 0) (
            some (some (vI 0), M1)) none) (
          ic (p0 < 0 ∨ 4 ≤ p0.toNatClampNeg) none (
            cVd (call 121 [vR 6 0 60, vR 6 0 (M1.2.2 68 p0.toNatClampNeg)] M1) fun M3 =>
            ic ((1 : Int32) &&& 1 = 1) (
              some (some (vI 1), sI M3 0 8 0)) none)))) (
      ic ((0 : Int32) &&& 1 = 0) (
        some (some (vI 0), M)) none)) := rfl
set_option maxRecDepth 100000 in
theorem e135 (d : Nat) (p0 : Int32) (p1 : Int32) (M : Mem) : evD (d + 1) 135 [vR 11 0 0, vI p0, vI p1] M =
  ic (p0 < 0) (
    some (some (vI 0), M)) (
    ic (p0 < Int32.ofNat 4) (
      ic (p1 = 0) (
        ic (p0 < 0 ∨ 4 ≤ p0.toNatClampNeg) none (
          cVd (evD d 121 [vR 6 0 (M.2.2 68 p0.toNatClampNeg), vR 6 0 60] M) fun M4 =>
          some (some (vI 1), sI M4 0 10 ((M4.1 0 10) ||| (1 <<< (p0 &&& 31)))))) (
        cIn (evD d 64 [vI (M.1 0 10), vI p0] M) fun v2 M1 =>
        ic (v2 = 0) (
          some (some (vI 0), M1)) (
          ic (p0 < 0 ∨ 4 ≤ p0.toNatClampNeg) none (
            cVd (evD d 121 [vR 6 0 60, vR 6 0 (M1.2.2 68 p0.toNatClampNeg)] M1) fun M3 =>
            some (some (vI 1), sI M3 0 8 0))))) (
      some (some (vI 0), M))) := ((evD_step (d := d) (x := 135) (as := [vR 11 0 0, vI p0, vI p1]) (M := M) (md := (⟨"IceParliament", "mark", "(IZ)Z"⟩, prog_1_method_16_code, 3, (Option.some Jvm.ClassFile.FieldType.boolean), 11, 11)) rfl rfl).trans (j135 (evD d) (evp0 (lkE (codT 135)) (hdT 135) (evD d)) p0 p1 M)).trans (by (try simp only [ic_t (show (0 : Int32) &&& 1 = 0 by decide), ic_t (show (1 : Int32) &&& 1 = 1 by decide)]))
-- IceParliament judged(I)I
set_option maxRecDepth 100000 in
theorem j136 (call : Nat → List AV → Mem → Res) (back : Nat → Lv → Mem → Res) (p0 : Int32) (M : Mem) : evj (lkE cd_136) [] call back 4000 0 [some (vR 11 0 0), some (vI p0)] [] M =
  ic (p0 < 0) (
    some (some (vI (-2)), M)) (
    ic (2 < p0) (
      some (some (vI (-2)), M)) (
      cVd (call 137 [vR 8 0 105, vR 5 0 52] M) fun M1 =>
      ic (p0 = 0) (
        some (some (vI (M1.1 105 0)), M1)) (
        ic (p0 = 1) (
          some (some (vI (M1.1 105 1)), M1)) (
          some (some (vI (M1.1 105 2)), M1))))) := rfl
set_option maxRecDepth 100000 in
theorem e136 (d : Nat) (p0 : Int32) (M : Mem) : evD (d + 1) 136 [vR 11 0 0, vI p0] M =
  ic (p0 < 0) (
    some (some (vI (-2)), M)) (
    ic (2 < p0) (
      some (some (vI (-2)), M)) (
      cVd (evD d 137 [vR 8 0 105, vR 5 0 52] M) fun M1 =>
      ic (p0 = 0) (
        some (some (vI (M1.1 105 0)), M1)) (
        ic (p0 = 1) (
          some (some (vI (M1.1 105 1)), M1)) (
          some (some (vI (M1.1 105 2)), M1))))) := ((evD_step (d := d) (x := 136) (as := [vR 11 0 0, vI p0]) (M := M) (md := (⟨"IceParliament", "judged", "(I)I"⟩, prog_1_method_18_code, 2, (Option.some Jvm.ClassFile.FieldType.int), 11, 11)) rfl rfl).trans (j136 (evD d) (evp0 (lkE (codT 136)) (hdT 136) (evD d)) p0 M))
-- IceParliament$Trial judge(LIceParliament$Session;)V
set_option maxRecDepth 100000 in
theorem j137 (call : Nat → List AV → Mem → Res) (back : Nat → Lv → Mem → Res) (kS : Nat) (M : Mem) : evj (lkE cd_137) [19, 65, 98] call back 4000 0 [some (vR 8 0 105), some (vR 5 0 kS), none] [] M =
  cVd (call 5 [vR 6 0 106] M) fun M1 =>
  back 19 [some (vR 8 0 105), some (vR 5 0 kS), some (vI 0)] (sI (sI M1 105 0 (-1)) 105 1 (-1)) := rfl
set_option maxRecDepth 100000 in
theorem e137 (d : Nat) (kS : Nat) (M : Mem) : evD (d + 1) 137 [vR 8 0 105, vR 5 0 kS] M =
  cVd (evD d 5 [vR 6 0 106] M) fun M1 =>
  lp0 d 137 19 [some (vR 8 0 105), some (vR 5 0 kS), some (vI 0)] (sI (sI M1 105 0 (-1)) 105 1 (-1)) := ((evD_step (d := d) (x := 137) (as := [vR 8 0 105, vR 5 0 kS]) (M := M) (md := (⟨"IceParliament$Trial", "judge", "(LIceParliament$Session;)V"⟩, prog_10_method_2_code, 3, (Option.none : Option Jvm.ClassFile.FieldType), 8, 8)) rfl rfl).trans (j137 (evD d) (evp0 (lkE (codT 137)) (hdT 137) (evD d)) kS M))
set_option maxRecDepth 100000 in
theorem g137_19 (call : Nat → List AV → Mem → Res) (back : Nat → Lv → Mem → Res) (kS : Nat) (l2 : Int32) (M : Mem) : stepK call back (evj (lkE cd_137) [19, 65, 98] call back 4000) (.iload_n 2, 1, 2, 0, 0, 0, 0) 19 [some (vR 8 0 105), some (vR 5 0 kS), some (vI l2)] [] M =
  ic (l2 < M.1 kS 3) (
    ic (l2 < 0 ∨ 40 ≤ l2.toNatClampNeg) none (
      ic (l2 < 0 ∨ 40 ≤ l2.toNatClampNeg) none (
        ic (l2 < 0 ∨ 40 ≤ l2.toNatClampNeg) none (
          cIn (call 138 [vR 8 0 105, vI (M.1 (kS + 1) l2.toNatClampNeg), vI (M.1 (kS + 2) l2.toNatClampNeg), vI (M.1 (kS + 3) l2.toNatClampNeg)] M) fun v4 M3 =>
          ic (v4 = 0) (
            ic (M3.1 105 0 = (-1)) (
              back 65 [some (vR 8 0 105), some (vR 5 0 kS), some (vI l2)] (sI M3 105 0 l2)) (
              back 65 [some (vR 8 0 105), some (vR 5 0 kS), some (vI l2)] M3)) (
            back 65 [some (vR 8 0 105), some (vR 5 0 kS), some (vI l2)] M3))))) (
    cIn (call 113 [vR 6 0 106] M) fun v2 M1 =>
    some (none, sI M1 105 2 v2)) := rfl
set_option maxRecDepth 100000 in
theorem e137_19 (d F : Nat) (kS : Nat) (l2 : Int32) (M : Mem) : lp d 137 (F + 1) 19 [some (vR 8 0 105), some (vR 5 0 kS), some (vI l2)] M =
  ic (l2 < M.1 kS 3) (
    ic (l2 < 0 ∨ 40 ≤ l2.toNatClampNeg) none (
      ic (l2 < 0 ∨ 40 ≤ l2.toNatClampNeg) none (
        ic (l2 < 0 ∨ 40 ≤ l2.toNatClampNeg) none (
          cIn (evD d 138 [vR 8 0 105, vI (M.1 (kS + 1) l2.toNatClampNeg), vI (M.1 (kS + 2) l2.toNatClampNeg), vI (M.1 (kS + 3) l2.toNatClampNeg)] M) fun v4 M3 =>
          ic (v4 = 0) (
            ic (M3.1 105 0 = (-1)) (
              lp d 137 F 65 [some (vR 8 0 105), some (vR 5 0 kS), some (vI l2)] (sI M3 105 0 l2)) (
              lp d 137 F 65 [some (vR 8 0 105), some (vR 5 0 kS), some (vI l2)] M3)) (
            lp d 137 F 65 [some (vR 8 0 105), some (vR 5 0 kS), some (vI l2)] M3))))) (
    cIn (evD d 113 [vR 6 0 106] M) fun v2 M1 =>
    some (none, sI M1 105 2 v2)) := ((evp_step (code := lkE (codT 137)) (hd := hdT 137) (call := evD d) (F := F) (pc := 19) (lv := [some (vR 8 0 105), some (vR 5 0 kS), some (vI l2)]) (M := M) (e := (.iload_n 2, 1, 2, 0, 0, 0, 0)) rfl).trans (g137_19 (evD d) (evp (lkE (codT 137)) (hdT 137) (evD d) F) kS l2 M))
set_option maxRecDepth 100000 in
theorem g137_65 (call : Nat → List AV → Mem → Res) (back : Nat → Lv → Mem → Res) (kS : Nat) (l2 : Int32) (M : Mem) : stepK call back (evj (lkE cd_137) [19, 65, 98] call back 4000) (.aload_n 1, 1, 1, 0, 0, 0, 0) 65 [some (vR 8 0 105), some (vR 5 0 kS), some (vI l2)] [] M =
  ic (l2 < 0 ∨ 40 ≤ l2.toNatClampNeg) none (
    ic (M.1 (kS + 1) l2.toNatClampNeg = 4) (
      ic (M.1 105 1 = (-1)) (
        cIn (call 110 [vR 6 0 106] M) fun v2 M1 =>
        ic (v2 = 0) (
          back 98 [some (vR 8 0 105), some (vR 5 0 kS), some (vI l2)] (sI M1 105 1 l2)) (
          back 98 [some (vR 8 0 105), some (vR 5 0 kS), some (vI l2)] M1)) (
        back 98 [some (vR 8 0 105), some (vR 5 0 kS), some (vI l2)] M)) (
      back 98 [some (vR 8 0 105), some (vR 5 0 kS), some (vI l2)] M)) := rfl
set_option maxRecDepth 100000 in
theorem e137_65 (d F : Nat) (kS : Nat) (l2 : Int32) (M : Mem) : lp d 137 (F + 1) 65 [some (vR 8 0 105), some (vR 5 0 kS), some (vI l2)] M =
  ic (l2 < 0 ∨ 40 ≤ l2.toNatClampNeg) none (
    ic (M.1 (kS + 1) l2.toNatClampNeg = 4) (
      ic (M.1 105 1 = (-1)) (
        cIn (evD d 110 [vR 6 0 106] M) fun v2 M1 =>
        ic (v2 = 0) (
          lp d 137 F 98 [some (vR 8 0 105), some (vR 5 0 kS), some (vI l2)] (sI M1 105 1 l2)) (
          lp d 137 F 98 [some (vR 8 0 105), some (vR 5 0 kS), some (vI l2)] M1)) (
        lp d 137 F 98 [some (vR 8 0 105), some (vR 5 0 kS), some (vI l2)] M)) (
      lp d 137 F 98 [some (vR 8 0 105), some (vR 5 0 kS), some (vI l2)] M)) := ((evp_step (code := lkE (codT 137)) (hd := hdT 137) (call := evD d) (F := F) (pc := 65) (lv := [some (vR 8 0 105), some (vR 5 0 kS), some (vI l2)]) (M := M) (e := (.aload_n 1, 1, 1, 0, 0, 0, 0)) rfl).trans (g137_65 (evD d) (evp (lkE (codT 137)) (hdT 137) (evD d) F) kS l2 M))
set_option maxRecDepth 100000 in
theorem g137_98 (call : Nat → List AV → Mem → Res) (back : Nat → Lv → Mem → Res) (kS : Nat) (l2 : Int32) (M : Mem) : stepK call back (evj (lkE cd_137) [19, 65, 98] call back 4000) (.iinc 2 (1), 3, 2, 0, 0, 1, 0) 98 [some (vR 8 0 105), some (vR 5 0 kS), some (vI l2)] [] M =
  back 19 [some (vR 8 0 105), some (vR 5 0 kS), some (vI (l2 + 1))] M := rfl
set_option maxRecDepth 100000 in
theorem e137_98 (d F : Nat) (kS : Nat) (l2 : Int32) (M : Mem) : lp d 137 (F + 1) 98 [some (vR 8 0 105), some (vR 5 0 kS), some (vI l2)] M =
  lp d 137 F 19 [some (vR 8 0 105), some (vR 5 0 kS), some (vI (l2 + 1))] M := ((evp_step (code := lkE (codT 137)) (hd := hdT 137) (call := evD d) (F := F) (pc := 98) (lv := [some (vR 8 0 105), some (vR 5 0 kS), some (vI l2)]) (M := M) (e := (.iinc 2 (1), 3, 2, 0, 0, 1, 0)) rfl).trans (g137_98 (evD d) (evp (lkE (codT 137)) (hdT 137) (evD d) F) kS l2 M))
-- IceParliament$Trial follow(III)Z
set_option maxRecDepth 100000 in
theorem j138 (call : Nat → List AV → Mem → Res) (back : Nat → Lv → Mem → Res) (p0 : Int32) (p1 : Int32) (p2 : Int32) (M : Mem) : evj (lkE cd_138) [] call back 4000 0 [some (vR 8 0 105), some (vI p0), some (vI p1), some (vI p2)] [] M =
  ic (p0 = Int32.ofInt (0)) (
    cIn (call 139 [vR 8 0 105, vI p1, vI p2] M) fun v2 M1 =>
    ic (v2 &&& 1 = v2) (
      some (some (vI v2), M1)) none) (
    ic (p0 = Int32.ofInt (1)) (
      cIn (call 140 [vR 8 0 105, vI p1, vI p2] M) fun v4 M3 =>
      ic (v4 &&& 1 = v4) (
        some (some (vI v4), M3)) none) (
      ic (p0 = Int32.ofInt (2)) (
        cIn (call 128 [vR 6 0 106, vI p1] M) fun v6 M5 =>
        ic (v6 = 0) (
          ic ((0 : Int32) &&& 1 = 0) (
            some (some (vI 0), M5)) none) (
          ic (p1 < 0 ∨ 6 ≤ p1.toNatClampNeg) none (
            ic (p1 < 0 ∨ 6 ≤ p1.toNatClampNeg) none (
              ic ((1 : Int32) &&& 1 = 1) (
                some (some (vI 1), sI M5 109 p1.toNatClampNeg ((M5.1 109 p1.toNatClampNeg) + 1))) none)))) (
        ic (p0 = Int32.ofInt (3)) (
          cIn (call 97 [vR 6 0 106, vI p1] M) fun v8 M7 =>
          ic (v8 = 0) (
            ic ((0 : Int32) &&& 1 = 0) (
              some (some (vI 0), M7)) none) (
            cVd (call 130 [vR 6 0 106, vI p1] M7) fun M9 =>
            ic ((1 : Int32) &&& 1 = 1) (
              some (some (vI 1), M9)) none)) (
          cIn (call 133 [vR 6 0 106, vI 0] M) fun v11 M10 =>
          ic ((1 : Int32) &&& 1 = 1) (
            some (some (vI 1), M10)) none)))) := rfl
set_option maxRecDepth 100000 in
theorem e138 (d : Nat) (p0 : Int32) (p1 : Int32) (p2 : Int32) (M : Mem) : evD (d + 1) 138 [vR 8 0 105, vI p0, vI p1, vI p2] M =
  ic (p0 = Int32.ofInt (0)) (
    cIn (evD d 139 [vR 8 0 105, vI p1, vI p2] M) fun v2 M1 =>
    ic (v2 &&& 1 = v2) (
      some (some (vI v2), M1)) none) (
    ic (p0 = Int32.ofInt (1)) (
      cIn (evD d 140 [vR 8 0 105, vI p1, vI p2] M) fun v4 M3 =>
      ic (v4 &&& 1 = v4) (
        some (some (vI v4), M3)) none) (
      ic (p0 = Int32.ofInt (2)) (
        cIn (evD d 128 [vR 6 0 106, vI p1] M) fun v6 M5 =>
        ic (v6 = 0) (
          some (some (vI 0), M5)) (
          ic (p1 < 0 ∨ 6 ≤ p1.toNatClampNeg) none (
            ic (p1 < 0 ∨ 6 ≤ p1.toNatClampNeg) none (
              some (some (vI 1), sI M5 109 p1.toNatClampNeg ((M5.1 109 p1.toNatClampNeg) + 1)))))) (
        ic (p0 = Int32.ofInt (3)) (
          cIn (evD d 97 [vR 6 0 106, vI p1] M) fun v8 M7 =>
          ic (v8 = 0) (
            some (some (vI 0), M7)) (
            cVd (evD d 130 [vR 6 0 106, vI p1] M7) fun M9 =>
            some (some (vI 1), M9))) (
          cIn (evD d 133 [vR 6 0 106, vI 0] M) fun v11 M10 =>
          some (some (vI 1), M10))))) := ((evD_step (d := d) (x := 138) (as := [vR 8 0 105, vI p0, vI p1, vI p2]) (M := M) (md := (⟨"IceParliament$Trial", "follow", "(III)Z"⟩, prog_10_method_3_code, 4, (Option.some Jvm.ClassFile.FieldType.boolean), 8, 8)) rfl rfl).trans (j138 (evD d) (evp0 (lkE (codT 138)) (hdT 138) (evD d)) p0 p1 p2 M)).trans (by (try simp only [ic_t (show (1 : Int32) &&& 1 = 1 by decide), ic_t (show (0 : Int32) &&& 1 = 0 by decide)]))
-- IceParliament$Trial tryBegin(II)Z
set_option maxRecDepth 100000 in
theorem j139 (call : Nat → List AV → Mem → Res) (back : Nat → Lv → Mem → Res) (p0 : Int32) (p1 : Int32) (M : Mem) : evj (lkE cd_139) [] call back 4000 0 [some (vR 8 0 105), some (vI p0), some (vI p1)] [] M =
  cIn (call 118 [vR 6 0 106, vI p0, vI p1] M) fun v2 M1 =>
  ic (v2 = 0) (
    ic ((0 : Int32) &&& 1 = 0) (
      some (some (vI 0), M1)) none) (
    cVd (call 122 [vR 6 0 106, vI p0, vI p1] M1) fun M3 =>
    ic ((1 : Int32) &&& 1 = 1) (
      some (some (vI 1), M3)) none) := rfl
set_option maxRecDepth 100000 in
theorem e139 (d : Nat) (p0 : Int32) (p1 : Int32) (M : Mem) : evD (d + 1) 139 [vR 8 0 105, vI p0, vI p1] M =
  cIn (evD d 118 [vR 6 0 106, vI p0, vI p1] M) fun v2 M1 =>
  ic (v2 = 0) (
    some (some (vI 0), M1)) (
    cVd (evD d 122 [vR 6 0 106, vI p0, vI p1] M1) fun M3 =>
    some (some (vI 1), M3)) := ((evD_step (d := d) (x := 139) (as := [vR 8 0 105, vI p0, vI p1]) (M := M) (md := (⟨"IceParliament$Trial", "tryBegin", "(II)Z"⟩, prog_10_method_4_code, 3, (Option.some Jvm.ClassFile.FieldType.boolean), 8, 8)) rfl rfl).trans (j139 (evD d) (evp0 (lkE (codT 139)) (hdT 139) (evD d)) p0 p1 M)).trans (by (try simp only [ic_t (show (1 : Int32) &&& 1 = 1 by decide), ic_t (show (0 : Int32) &&& 1 = 0 by decide)]))
-- IceParliament$Trial tryCarve(II)Z
set_option maxRecDepth 100000 in
theorem j140 (call : Nat → List AV → Mem → Res) (back : Nat → Lv → Mem → Res) (p0 : Int32) (p1 : Int32) (M : Mem) : evj (lkE cd_140) [] call back 4000 0 [some (vR 8 0 105), some (vI p0), some (vI p1)] [] M =
  cIn (call 124 [vR 6 0 106, vI p0, vI p1] M) fun v2 M1 =>
  ic (v2 = 0) (
    ic ((0 : Int32) &&& 1 = 0) (
      some (some (vI 0), M1)) none) (
    cVd (call 125 [vR 6 0 106, vI p0, vI p1] M1) fun M3 =>
    ic ((1 : Int32) &&& 1 = 1) (
      some (some (vI 1), M3)) none) := rfl
set_option maxRecDepth 100000 in
theorem e140 (d : Nat) (p0 : Int32) (p1 : Int32) (M : Mem) : evD (d + 1) 140 [vR 8 0 105, vI p0, vI p1] M =
  cIn (evD d 124 [vR 6 0 106, vI p0, vI p1] M) fun v2 M1 =>
  ic (v2 = 0) (
    some (some (vI 0), M1)) (
    cVd (evD d 125 [vR 6 0 106, vI p0, vI p1] M1) fun M3 =>
    some (some (vI 1), M3)) := ((evD_step (d := d) (x := 140) (as := [vR 8 0 105, vI p0, vI p1]) (M := M) (md := (⟨"IceParliament$Trial", "tryCarve", "(II)Z"⟩, prog_10_method_5_code, 3, (Option.some Jvm.ClassFile.FieldType.boolean), 8, 8)) rfl rfl).trans (j140 (evD d) (evp0 (lkE (codT 140)) (hdT 140) (evD d)) p0 p1 M)).trans (by (try simp only [ic_t (show (1 : Int32) &&& 1 = 1 by decide), ic_t (show (0 : Int32) &&& 1 = 0 by decide)]))
-- IceParliament decades(III)I
set_option maxRecDepth 100000 in
theorem j141 (call : Nat → List AV → Mem → Res) (back : Nat → Lv → Mem → Res) (p0 : Int32) (p1 : Int32) (p2 : Int32) (M : Mem) : evj (lkE cd_141) [] call back 4000 0 [some (vR 11 0 0), some (vI p0), some (vI p1), some (vI p2)] [] M =
  ic (p0 < 0) (
    some (some (vI (-1)), M)) (
    ic (9999 < p0) (
      some (some (vI (-1)), M)) (
      ic (p1 < 1) (
        some (some (vI (-1)), M)) (
        ic (60 < p1) (
          some (some (vI (-1)), M)) (
          ic (p2 < 0) (
            some (some (vI (-1)), M)) (
            ic (2 < p2) (
              some (some (vI (-1)), M)) (
              cVd (call 142 [vR 8 0 105, vR 6 0 60, vI p0, vI p1] M) fun M1 =>
              ic (p2 = 0) (
                some (some (vI (M1.1 105 2)), M1)) (
                ic (p2 = 1) (
                  some (some (vI (M1.1 105 3)), M1)) (
                  some (some (vI (M1.1 105 4)), M1))))))))) := rfl
set_option maxRecDepth 100000 in
theorem e141 (d : Nat) (p0 : Int32) (p1 : Int32) (p2 : Int32) (M : Mem) : evD (d + 1) 141 [vR 11 0 0, vI p0, vI p1, vI p2] M =
  ic (p0 < 0) (
    some (some (vI (-1)), M)) (
    ic (9999 < p0) (
      some (some (vI (-1)), M)) (
      ic (p1 < 1) (
        some (some (vI (-1)), M)) (
        ic (60 < p1) (
          some (some (vI (-1)), M)) (
          ic (p2 < 0) (
            some (some (vI (-1)), M)) (
            ic (2 < p2) (
              some (some (vI (-1)), M)) (
              cVd (evD d 142 [vR 8 0 105, vR 6 0 60, vI p0, vI p1] M) fun M1 =>
              ic (p2 = 0) (
                some (some (vI (M1.1 105 2)), M1)) (
                ic (p2 = 1) (
                  some (some (vI (M1.1 105 3)), M1)) (
                  some (some (vI (M1.1 105 4)), M1))))))))) := ((evD_step (d := d) (x := 141) (as := [vR 11 0 0, vI p0, vI p1, vI p2]) (M := M) (md := (⟨"IceParliament", "decades", "(III)I"⟩, prog_1_method_19_code, 4, (Option.some Jvm.ClassFile.FieldType.int), 11, 11)) rfl rfl).trans (j141 (evD d) (evp0 (lkE (codT 141)) (hdT 141) (evD d)) p0 p1 p2 M))
-- IceParliament$Trial live(LIceParliament$State;II)V
set_option maxRecDepth 100000 in
theorem j142 (call : Nat → List AV → Mem → Res) (back : Nat → Lv → Mem → Res) (a : Nat) (p1 : Int32) (p2 : Int32) (M : Mem) : evj (lkE cd_142) [27] call back 4000 0 [some (vR 8 0 105), some (vR 6 0 a), some (vI p1), some (vI p2), none] [] M =
  cVd (call 121 [vR 6 0 106, vR 6 0 a] M) fun M1 =>
  back 27 [some (vR 8 0 105), some (vR 6 0 a), some (vI p1), some (vI p2), some (vI 0)] (sI (sI (sJ M1 105 7 p1.toInt64) 105 2 0) 105 3 0) := rfl
set_option maxRecDepth 100000 in
theorem e142 (d : Nat) (a : Nat) (p1 : Int32) (p2 : Int32) (M : Mem) : evD (d + 1) 142 [vR 8 0 105, vR 6 0 a, vI p1, vI p2] M =
  cVd (evD d 121 [vR 6 0 106, vR 6 0 a] M) fun M1 =>
  lp0 d 142 27 [some (vR 8 0 105), some (vR 6 0 a), some (vI p1), some (vI p2), some (vI 0)] (sI (sI (sJ M1 105 7 p1.toInt64) 105 2 0) 105 3 0) := ((evD_step (d := d) (x := 142) (as := [vR 8 0 105, vR 6 0 a, vI p1, vI p2]) (M := M) (md := (⟨"IceParliament$Trial", "live", "(LIceParliament$State;II)V"⟩, prog_10_method_6_code, 5, (Option.none : Option Jvm.ClassFile.FieldType), 8, 8)) rfl rfl).trans (j142 (evD d) (evp0 (lkE (codT 142)) (hdT 142) (evD d)) a p1 p2 M))
set_option maxRecDepth 100000 in
theorem g142_27 (call : Nat → List AV → Mem → Res) (back : Nat → Lv → Mem → Res) (o1 : Option AV) (o2 : Option AV) (l3 : Int32) (l4 : Int32) (M : Mem) : stepK call back (evj (lkE cd_142) [27] call back 4000) (.iload 4, 2, 4, 0, 0, 0, 0) 27 [some (vR 8 0 105), o1, o2, some (vI l3), some (vI l4)] [] M =
  ic (l4 < l3) (
    cVd (call 143 [vR 8 0 105] M) fun M3 =>
    cIn (call 144 [vR 8 0 105, vI 10] M3) fun v5 M4 =>
    ic (v5 < M4.1 3 15) (
      cIn (call 133 [vR 6 0 106, vI 3] M4) fun v11 M10 =>
      cIn (call 113 [vR 6 0 106] (sI M10 105 3 ((M3.1 105 3) + v11))) fun v13 M12 =>
      back 27 [some (vR 8 0 105), o1, o2, some (vI l3), some (vI (l4 + 1))] (sI M12 105 2 (((sI M10 105 3 ((M3.1 105 3) + v11)).1 105 2) + v13))) (
      cIn (call 133 [vR 6 0 106, vI 0] M4) fun v7 M6 =>
      cIn (call 113 [vR 6 0 106] (sI M6 105 3 ((M3.1 105 3) + v7))) fun v9 M8 =>
      back 27 [some (vR 8 0 105), o1, o2, some (vI l3), some (vI (l4 + 1))] (sI M8 105 2 (((sI M6 105 3 ((M3.1 105 3) + v7)).1 105 2) + v9)))) (
    cIn (call 145 [vI (M.1 106 9)] M) fun v2 M1 =>
    some (none, sI M1 105 4 v2)) := rfl
set_option maxRecDepth 100000 in
theorem e142_27 (d F : Nat) (o1 : Option AV) (o2 : Option AV) (l3 : Int32) (l4 : Int32) (M : Mem) : lp d 142 (F + 1) 27 [some (vR 8 0 105), o1, o2, some (vI l3), some (vI l4)] M =
  ic (l4 < l3) (
    cVd (evD d 143 [vR 8 0 105] M) fun M3 =>
    cIn (evD d 144 [vR 8 0 105, vI 10] M3) fun v5 M4 =>
    ic (v5 < M4.1 3 15) (
      cIn (evD d 133 [vR 6 0 106, vI 3] M4) fun v11 M10 =>
      cIn (evD d 113 [vR 6 0 106] (sI M10 105 3 ((M3.1 105 3) + v11))) fun v13 M12 =>
      lp d 142 F 27 [some (vR 8 0 105), o1, o2, some (vI l3), some (vI (l4 + 1))] (sI M12 105 2 (((sI M10 105 3 ((M3.1 105 3) + v11)).1 105 2) + v13))) (
      cIn (evD d 133 [vR 6 0 106, vI 0] M4) fun v7 M6 =>
      cIn (evD d 113 [vR 6 0 106] (sI M6 105 3 ((M3.1 105 3) + v7))) fun v9 M8 =>
      lp d 142 F 27 [some (vR 8 0 105), o1, o2, some (vI l3), some (vI (l4 + 1))] (sI M8 105 2 (((sI M6 105 3 ((M3.1 105 3) + v7)).1 105 2) + v9)))) (
    cIn (evD d 145 [vI (M.1 106 9)] M) fun v2 M1 =>
    some (none, sI M1 105 4 v2)) := ((evp_step (code := lkE (codT 142)) (hd := hdT 142) (call := evD d) (F := F) (pc := 27) (lv := [some (vR 8 0 105), o1, o2, some (vI l3), some (vI l4)]) (M := M) (e := (.iload 4, 2, 4, 0, 0, 0, 0)) rfl).trans (g142_27 (evD d) (evp (lkE (codT 142)) (hdT 142) (evD d) F) o1 o2 l3 l4 M))
-- IceParliament$Trial liveDay()V
set_option maxRecDepth 100000 in
theorem j143 (call : Nat → List AV → Mem → Res) (back : Nat → Lv → Mem → Res)  (M : Mem) : evj (lkE cd_143) [76] call back 4000 0 [some (vR 8 0 105), none] [] M =
  ic (0 < M.1 8 0) (
    ic (0 < M.1 4 0) (
      cIn (call 144 [vR 8 0 105, vI (M.1 8 0)] M) fun v2 M1 =>
      cIn (call 144 [vR 8 0 105, vI (M1.1 4 0)] M1) fun v4 M3 =>
      cIn (call 139 [vR 8 0 105, vI v2, vI v4] M3) fun v6 M5 =>
      ic (0 < M5.1 8 0) (
        back 76 [some (vR 8 0 105), some (vI 0)] M5) (
        some (none, M5))) (
      ic (0 < M.1 8 0) (
        back 76 [some (vR 8 0 105), some (vI 0)] M) (
        some (none, M)))) (
    ic (0 < M.1 8 0) (
      back 76 [some (vR 8 0 105), some (vI 0)] M) (
      some (none, M))) := rfl
set_option maxRecDepth 100000 in
theorem e143 (d : Nat)  (M : Mem) : evD (d + 1) 143 [vR 8 0 105] M =
  ic (0 < M.1 8 0) (
    ic (0 < M.1 4 0) (
      cIn (evD d 144 [vR 8 0 105, vI (M.1 8 0)] M) fun v2 M1 =>
      cIn (evD d 144 [vR 8 0 105, vI (M1.1 4 0)] M1) fun v4 M3 =>
      cIn (evD d 139 [vR 8 0 105, vI v2, vI v4] M3) fun v6 M5 =>
      ic (0 < M5.1 8 0) (
        lp0 d 143 76 [some (vR 8 0 105), some (vI 0)] M5) (
        some (none, M5))) (
      ic (0 < M.1 8 0) (
        lp0 d 143 76 [some (vR 8 0 105), some (vI 0)] M) (
        some (none, M)))) (
    ic (0 < M.1 8 0) (
      lp0 d 143 76 [some (vR 8 0 105), some (vI 0)] M) (
      some (none, M))) := ((evD_step (d := d) (x := 143) (as := [vR 8 0 105]) (M := M) (md := (⟨"IceParliament$Trial", "liveDay", "()V"⟩, prog_10_method_7_code, 2, (Option.none : Option Jvm.ClassFile.FieldType), 8, 8)) rfl rfl).trans (j143 (evD d) (evp0 (lkE (codT 143)) (hdT 143) (evD d))  M))
set_option maxRecDepth 100000 in
theorem g143_76 (call : Nat → List AV → Mem → Res) (back : Nat → Lv → Mem → Res) (l1 : Int32) (M : Mem) : stepK call back (evj (lkE cd_143) [76] call back 4000) (.iload_n 1, 1, 1, 0, 0, 0, 0) 76 [some (vR 8 0 105), some (vI l1)] [] M =
  ic (l1 < M.1 6 0) (
    cIn (call 144 [vR 8 0 105, vI (M.1 8 0)] M) fun v2 M1 =>
    cIn (call 140 [vR 8 0 105, vI l1, vI v2] M1) fun v4 M3 =>
    back 76 [some (vR 8 0 105), some (vI (l1 + 1))] M3) (
    some (none, M)) := rfl
set_option maxRecDepth 100000 in
theorem e143_76 (d F : Nat) (l1 : Int32) (M : Mem) : lp d 143 (F + 1) 76 [some (vR 8 0 105), some (vI l1)] M =
  ic (l1 < M.1 6 0) (
    cIn (evD d 144 [vR 8 0 105, vI (M.1 8 0)] M) fun v2 M1 =>
    cIn (evD d 140 [vR 8 0 105, vI l1, vI v2] M1) fun v4 M3 =>
    lp d 143 F 76 [some (vR 8 0 105), some (vI (l1 + 1))] M3) (
    some (none, M)) := ((evp_step (code := lkE (codT 143)) (hd := hdT 143) (call := evD d) (F := F) (pc := 76) (lv := [some (vR 8 0 105), some (vI l1)]) (M := M) (e := (.iload_n 1, 1, 1, 0, 0, 0, 0)) rfl).trans (g143_76 (evD d) (evp (lkE (codT 143)) (hdT 143) (evD d) F) l1 M))
-- IceParliament$Trial draw(I)I
set_option maxRecDepth 100000 in
theorem j144 (call : Nat → List AV → Mem → Res) (back : Nat → Lv → Mem → Res) (p0 : Int32) (M : Mem) : evj (lkE cd_144) [] call back 4000 0 [some (vR 8 0 105), some (vI p0)] [] M =
  ic ((2147483648 : Int64) = 0) none (
    ic (p0 < 1) (
      some (some (vI 0), sJ M 105 7 ((((M.2.1 105 7) * 1103515245) + 12345) - (((M.2.1 105 7) * 1103515245) + 12345) / 2147483648 * 2147483648))) (
      ic ((65536 : Int64) = 0) none (
        ic (p0.toInt64 = 0) none (
          some (some (vI (((((sJ M 105 7 ((((M.2.1 105 7) * 1103515245) + 12345) - (((M.2.1 105 7) * 1103515245) + 12345) / 2147483648 * 2147483648)).2.1 105 7) / 65536) - (((sJ M 105 7 ((((M.2.1 105 7) * 1103515245) + 12345) - (((M.2.1 105 7) * 1103515245) + 12345) / 2147483648 * 2147483648)).2.1 105 7) / 65536) / p0.toInt64 * p0.toInt64).toInt32)), sJ M 105 7 ((((M.2.1 105 7) * 1103515245) + 12345) - (((M.2.1 105 7) * 1103515245) + 12345) / 2147483648 * 2147483648)))))) := rfl
set_option maxRecDepth 100000 in
theorem e144 (d : Nat) (p0 : Int32) (M : Mem) : evD (d + 1) 144 [vR 8 0 105, vI p0] M =
  ic (p0 < 1) (
    some (some (vI 0), sJ M 105 7 ((((M.2.1 105 7) * 1103515245) + 12345) - (((M.2.1 105 7) * 1103515245) + 12345) / 2147483648 * 2147483648))) (
    ic (p0.toInt64 = 0) none (
      some (some (vI (((((sJ M 105 7 ((((M.2.1 105 7) * 1103515245) + 12345) - (((M.2.1 105 7) * 1103515245) + 12345) / 2147483648 * 2147483648)).2.1 105 7) / 65536) - (((sJ M 105 7 ((((M.2.1 105 7) * 1103515245) + 12345) - (((M.2.1 105 7) * 1103515245) + 12345) / 2147483648 * 2147483648)).2.1 105 7) / 65536) / p0.toInt64 * p0.toInt64).toInt32)), sJ M 105 7 ((((M.2.1 105 7) * 1103515245) + 12345) - (((M.2.1 105 7) * 1103515245) + 12345) / 2147483648 * 2147483648)))) := ((evD_step (d := d) (x := 144) (as := [vR 8 0 105, vI p0]) (M := M) (md := (⟨"IceParliament$Trial", "draw", "(I)I"⟩, prog_10_method_8_code, 2, (Option.some Jvm.ClassFile.FieldType.int), 8, 8)) rfl rfl).trans (j144 (evD d) (evp0 (lkE (codT 144)) (hdT 144) (evD d)) p0 M)).trans (by (try simp only [ic_f (show ¬ ((2147483648 : Int64) = 0) by decide), ic_f (show ¬ ((65536 : Int64) = 0) by decide)]))
-- java/lang/Integer bitCount(I)I
set_option maxRecDepth 100000 in
theorem j145 (call : Nat → List AV → Mem → Res) (back : Nat → Lv → Mem → Res) (p0 : Int32) (M : Mem) : evj (lkE cd_145) [] call back 4000 0 [some (vI p0)] [] M =
  some (some (vI ((((((((p0 - (((p0.toUInt32 >>> ((1 : Int32).toUInt32 &&& Int32.toUInt32 31)).toInt32) &&& 1431655765)) &&& 858993459) + ((((p0 - (((p0.toUInt32 >>> ((1 : Int32).toUInt32 &&& Int32.toUInt32 31)).toInt32) &&& 1431655765)).toUInt32 >>> ((2 : Int32).toUInt32 &&& Int32.toUInt32 31)).toInt32) &&& 858993459)) + (((((p0 - (((p0.toUInt32 >>> ((1 : Int32).toUInt32 &&& Int32.toUInt32 31)).toInt32) &&& 1431655765)) &&& 858993459) + ((((p0 - (((p0.toUInt32 >>> ((1 : Int32).toUInt32 &&& Int32.toUInt32 31)).toInt32) &&& 1431655765)).toUInt32 >>> ((2 : Int32).toUInt32 &&& Int32.toUInt32 31)).toInt32) &&& 858993459)).toUInt32 >>> ((4 : Int32).toUInt32 &&& Int32.toUInt32 31)).toInt32)) &&& 252645135) + (((((((p0 - (((p0.toUInt32 >>> ((1 : Int32).toUInt32 &&& Int32.toUInt32 31)).toInt32) &&& 1431655765)) &&& 858993459) + ((((p0 - (((p0.toUInt32 >>> ((1 : Int32).toUInt32 &&& Int32.toUInt32 31)).toInt32) &&& 1431655765)).toUInt32 >>> ((2 : Int32).toUInt32 &&& Int32.toUInt32 31)).toInt32) &&& 858993459)) + (((((p0 - (((p0.toUInt32 >>> ((1 : Int32).toUInt32 &&& Int32.toUInt32 31)).toInt32) &&& 1431655765)) &&& 858993459) + ((((p0 - (((p0.toUInt32 >>> ((1 : Int32).toUInt32 &&& Int32.toUInt32 31)).toInt32) &&& 1431655765)).toUInt32 >>> ((2 : Int32).toUInt32 &&& Int32.toUInt32 31)).toInt32) &&& 858993459)).toUInt32 >>> ((4 : Int32).toUInt32 &&& Int32.toUInt32 31)).toInt32)) &&& 252645135).toUInt32 >>> ((8 : Int32).toUInt32 &&& Int32.toUInt32 31)).toInt32)) + ((((((((p0 - (((p0.toUInt32 >>> ((1 : Int32).toUInt32 &&& Int32.toUInt32 31)).toInt32) &&& 1431655765)) &&& 858993459) + ((((p0 - (((p0.toUInt32 >>> ((1 : Int32).toUInt32 &&& Int32.toUInt32 31)).toInt32) &&& 1431655765)).toUInt32 >>> ((2 : Int32).toUInt32 &&& Int32.toUInt32 31)).toInt32) &&& 858993459)) + (((((p0 - (((p0.toUInt32 >>> ((1 : Int32).toUInt32 &&& Int32.toUInt32 31)).toInt32) &&& 1431655765)) &&& 858993459) + ((((p0 - (((p0.toUInt32 >>> ((1 : Int32).toUInt32 &&& Int32.toUInt32 31)).toInt32) &&& 1431655765)).toUInt32 >>> ((2 : Int32).toUInt32 &&& Int32.toUInt32 31)).toInt32) &&& 858993459)).toUInt32 >>> ((4 : Int32).toUInt32 &&& Int32.toUInt32 31)).toInt32)) &&& 252645135) + (((((((p0 - (((p0.toUInt32 >>> ((1 : Int32).toUInt32 &&& Int32.toUInt32 31)).toInt32) &&& 1431655765)) &&& 858993459) + ((((p0 - (((p0.toUInt32 >>> ((1 : Int32).toUInt32 &&& Int32.toUInt32 31)).toInt32) &&& 1431655765)).toUInt32 >>> ((2 : Int32).toUInt32 &&& Int32.toUInt32 31)).toInt32) &&& 858993459)) + (((((p0 - (((p0.toUInt32 >>> ((1 : Int32).toUInt32 &&& Int32.toUInt32 31)).toInt32) &&& 1431655765)) &&& 858993459) + ((((p0 - (((p0.toUInt32 >>> ((1 : Int32).toUInt32 &&& Int32.toUInt32 31)).toInt32) &&& 1431655765)).toUInt32 >>> ((2 : Int32).toUInt32 &&& Int32.toUInt32 31)).toInt32) &&& 858993459)).toUInt32 >>> ((4 : Int32).toUInt32 &&& Int32.toUInt32 31)).toInt32)) &&& 252645135).toUInt32 >>> ((8 : Int32).toUInt32 &&& Int32.toUInt32 31)).toInt32)).toUInt32 >>> ((16 : Int32).toUInt32 &&& Int32.toUInt32 31)).toInt32)) &&& 63)), M) := rfl
set_option maxRecDepth 100000 in
theorem e145 (d : Nat) (p0 : Int32) (M : Mem) : evD (d + 1) 145 [vI p0] M =
  some (some (vI ((((((((p0 - (((p0.toUInt32 >>> ((1 : Int32).toUInt32 &&& Int32.toUInt32 31)).toInt32) &&& 1431655765)) &&& 858993459) + ((((p0 - (((p0.toUInt32 >>> ((1 : Int32).toUInt32 &&& Int32.toUInt32 31)).toInt32) &&& 1431655765)).toUInt32 >>> ((2 : Int32).toUInt32 &&& Int32.toUInt32 31)).toInt32) &&& 858993459)) + (((((p0 - (((p0.toUInt32 >>> ((1 : Int32).toUInt32 &&& Int32.toUInt32 31)).toInt32) &&& 1431655765)) &&& 858993459) + ((((p0 - (((p0.toUInt32 >>> ((1 : Int32).toUInt32 &&& Int32.toUInt32 31)).toInt32) &&& 1431655765)).toUInt32 >>> ((2 : Int32).toUInt32 &&& Int32.toUInt32 31)).toInt32) &&& 858993459)).toUInt32 >>> ((4 : Int32).toUInt32 &&& Int32.toUInt32 31)).toInt32)) &&& 252645135) + (((((((p0 - (((p0.toUInt32 >>> ((1 : Int32).toUInt32 &&& Int32.toUInt32 31)).toInt32) &&& 1431655765)) &&& 858993459) + ((((p0 - (((p0.toUInt32 >>> ((1 : Int32).toUInt32 &&& Int32.toUInt32 31)).toInt32) &&& 1431655765)).toUInt32 >>> ((2 : Int32).toUInt32 &&& Int32.toUInt32 31)).toInt32) &&& 858993459)) + (((((p0 - (((p0.toUInt32 >>> ((1 : Int32).toUInt32 &&& Int32.toUInt32 31)).toInt32) &&& 1431655765)) &&& 858993459) + ((((p0 - (((p0.toUInt32 >>> ((1 : Int32).toUInt32 &&& Int32.toUInt32 31)).toInt32) &&& 1431655765)).toUInt32 >>> ((2 : Int32).toUInt32 &&& Int32.toUInt32 31)).toInt32) &&& 858993459)).toUInt32 >>> ((4 : Int32).toUInt32 &&& Int32.toUInt32 31)).toInt32)) &&& 252645135).toUInt32 >>> ((8 : Int32).toUInt32 &&& Int32.toUInt32 31)).toInt32)) + ((((((((p0 - (((p0.toUInt32 >>> ((1 : Int32).toUInt32 &&& Int32.toUInt32 31)).toInt32) &&& 1431655765)) &&& 858993459) + ((((p0 - (((p0.toUInt32 >>> ((1 : Int32).toUInt32 &&& Int32.toUInt32 31)).toInt32) &&& 1431655765)).toUInt32 >>> ((2 : Int32).toUInt32 &&& Int32.toUInt32 31)).toInt32) &&& 858993459)) + (((((p0 - (((p0.toUInt32 >>> ((1 : Int32).toUInt32 &&& Int32.toUInt32 31)).toInt32) &&& 1431655765)) &&& 858993459) + ((((p0 - (((p0.toUInt32 >>> ((1 : Int32).toUInt32 &&& Int32.toUInt32 31)).toInt32) &&& 1431655765)).toUInt32 >>> ((2 : Int32).toUInt32 &&& Int32.toUInt32 31)).toInt32) &&& 858993459)).toUInt32 >>> ((4 : Int32).toUInt32 &&& Int32.toUInt32 31)).toInt32)) &&& 252645135) + (((((((p0 - (((p0.toUInt32 >>> ((1 : Int32).toUInt32 &&& Int32.toUInt32 31)).toInt32) &&& 1431655765)) &&& 858993459) + ((((p0 - (((p0.toUInt32 >>> ((1 : Int32).toUInt32 &&& Int32.toUInt32 31)).toInt32) &&& 1431655765)).toUInt32 >>> ((2 : Int32).toUInt32 &&& Int32.toUInt32 31)).toInt32) &&& 858993459)) + (((((p0 - (((p0.toUInt32 >>> ((1 : Int32).toUInt32 &&& Int32.toUInt32 31)).toInt32) &&& 1431655765)) &&& 858993459) + ((((p0 - (((p0.toUInt32 >>> ((1 : Int32).toUInt32 &&& Int32.toUInt32 31)).toInt32) &&& 1431655765)).toUInt32 >>> ((2 : Int32).toUInt32 &&& Int32.toUInt32 31)).toInt32) &&& 858993459)).toUInt32 >>> ((4 : Int32).toUInt32 &&& Int32.toUInt32 31)).toInt32)) &&& 252645135).toUInt32 >>> ((8 : Int32).toUInt32 &&& Int32.toUInt32 31)).toInt32)).toUInt32 >>> ((16 : Int32).toUInt32 &&& Int32.toUInt32 31)).toInt32)) &&& 63)), M) := ((evD_step (d := d) (x := 145) (as := [vI p0]) (M := M) (md := (⟨"java/lang/Integer", "bitCount", "(I)I"⟩, prog_20_method_49_code, 1, (Option.some Jvm.ClassFile.FieldType.int), 17, 99)) rfl rfl).trans (j145 (evD d) (evp0 (lkE (codT 145)) (hdT 145) (evD d)) p0 M))
-- IceParliament falls(I)I
set_option maxRecDepth 100000 in
theorem j146 (call : Nat → List AV → Mem → Res) (back : Nat → Lv → Mem → Res) (p0 : Int32) (M : Mem) : evj (lkE cd_146) [] call back 4000 0 [some (vR 11 0 0), some (vI p0), none] [] M =
  cIn (call 94 [vR 11 0 0, vI p0] M) fun v2 M1 =>
  ic (v2 = 0) (
    some (some (vI (-1)), M1)) (
    cIn (call 97 [vR 6 0 60, vI p0] M1) fun v4 M3 =>
    ic (v4 = 0) (
      some (some (vI (-1)), M3)) (
      ic (p0 < 0 ∨ 6 ≤ p0.toNatClampNeg) none (
        cIn (call 147 [vR 6 0 60, vI p0, vI (M3.1 63 p0.toNatClampNeg), vI 40] M3) fun v6 M5 =>
        ic (40 < v6) (
          some (some (vI (-1)), M5)) (
          some (some (vI v6), M5))))) := rfl
set_option maxRecDepth 100000 in
theorem e146 (d : Nat) (p0 : Int32) (M : Mem) : evD (d + 1) 146 [vR 11 0 0, vI p0] M =
  cIn (evD d 94 [vR 11 0 0, vI p0] M) fun v2 M1 =>
  ic (v2 = 0) (
    some (some (vI (-1)), M1)) (
    cIn (evD d 97 [vR 6 0 60, vI p0] M1) fun v4 M3 =>
    ic (v4 = 0) (
      some (some (vI (-1)), M3)) (
      ic (p0 < 0 ∨ 6 ≤ p0.toNatClampNeg) none (
        cIn (evD d 147 [vR 6 0 60, vI p0, vI (M3.1 63 p0.toNatClampNeg), vI 40] M3) fun v6 M5 =>
        ic (40 < v6) (
          some (some (vI (-1)), M5)) (
          some (some (vI v6), M5))))) := ((evD_step (d := d) (x := 146) (as := [vR 11 0 0, vI p0]) (M := M) (md := (⟨"IceParliament", "falls", "(I)I"⟩, prog_1_method_20_code, 3, (Option.some Jvm.ClassFile.FieldType.int), 11, 11)) rfl rfl).trans (j146 (evD d) (evp0 (lkE (codT 146)) (hdT 146) (evD d)) p0 M))
-- IceParliament$State fallsIn(III)I
set_option maxRecDepth 100000 in
theorem j147 (call : Nat → List AV → Mem → Res) (back : Nat → Lv → Mem → Res) (a : Nat) (p0 : Int32) (p1 : Int32) (p2 : Int32) (M : Mem) : evj (lkE cd_147) [] call back 4000 0 [some (vR 6 0 a), some (vI p0), some (vI p1), some (vI p2)] [] M =
  ic (p0 < 0 ∨ 6 ≤ p0.toNatClampNeg) none (
    ic (p0 < 0 ∨ 6 ≤ p0.toNatClampNeg) none (
      cIn (call 148 [vR 9 0 3, vI p0, vI (M.1 (a + 4) p0.toNatClampNeg), vI (M.1 (a + 1) p0.toNatClampNeg), vI p1, vI (M.1 a 0), vI p2] M) fun v2 M1 =>
      some (some (vI v2), M1))) := rfl
set_option maxRecDepth 100000 in
theorem e147 (d : Nat) (a : Nat) (p0 : Int32) (p1 : Int32) (p2 : Int32) (M : Mem) : evD (d + 1) 147 [vR 6 0 a, vI p0, vI p1, vI p2] M =
  ic (p0 < 0 ∨ 6 ≤ p0.toNatClampNeg) none (
    ic (p0 < 0 ∨ 6 ≤ p0.toNatClampNeg) none (
      cIn (evD d 148 [vR 9 0 3, vI p0, vI (M.1 (a + 4) p0.toNatClampNeg), vI (M.1 (a + 1) p0.toNatClampNeg), vI p1, vI (M.1 a 0), vI p2] M) fun v2 M1 =>
      some (some (vI v2), M1))) := ((evD_step (d := d) (x := 147) (as := [vR 6 0 a, vI p0, vI p1, vI p2]) (M := M) (md := (⟨"IceParliament$State", "fallsIn", "(III)I"⟩, prog_8_method_20_code, 4, (Option.some Jvm.ClassFile.FieldType.int), 6, 6)) rfl rfl).trans (j147 (evD d) (evp0 (lkE (codT 147)) (hdT 147) (evD d)) a p0 p1 p2 M))
-- IceParliament$Yard fallsIn(IIIIII)I
set_option maxRecDepth 100000 in
theorem j148 (call : Nat → List AV → Mem → Res) (back : Nat → Lv → Mem → Res) (kY : Nat) (p0 : Int32) (p1 : Int32) (p2 : Int32) (p3 : Int32) (p4 : Int32) (p5 : Int32) (M : Mem) : evj (lkE cd_148) [6] call back 4000 0 [some (vR 9 0 kY), some (vI p0), some (vI p1), some (vI p2), some (vI p3), some (vI p4), some (vI p5), none, none] [] M =
  back 6 [some (vR 9 0 kY), some (vI p0), some (vI p1), some (vI p2), some (vI p3), some (vI p4), some (vI p5), some (vI p2), some (vI 0)] M := rfl
set_option maxRecDepth 100000 in
theorem e148 (d : Nat) (kY : Nat) (p0 : Int32) (p1 : Int32) (p2 : Int32) (p3 : Int32) (p4 : Int32) (p5 : Int32) (M : Mem) : evD (d + 1) 148 [vR 9 0 kY, vI p0, vI p1, vI p2, vI p3, vI p4, vI p5] M =
  lp0 d 148 6 [some (vR 9 0 kY), some (vI p0), some (vI p1), some (vI p2), some (vI p3), some (vI p4), some (vI p5), some (vI p2), some (vI 0)] M := ((evD_step (d := d) (x := 148) (as := [vR 9 0 kY, vI p0, vI p1, vI p2, vI p3, vI p4, vI p5]) (M := M) (md := (⟨"IceParliament$Yard", "fallsIn", "(IIIIII)I"⟩, prog_11_method_11_code, 9, (Option.some Jvm.ClassFile.FieldType.int), 9, 9)) rfl rfl).trans (j148 (evD d) (evp0 (lkE (codT 148)) (hdT 148) (evD d)) kY p0 p1 p2 p3 p4 p5 M))
set_option maxRecDepth 100000 in
theorem g148_6 (call : Nat → List AV → Mem → Res) (back : Nat → Lv → Mem → Res) (kY : Nat) (l1 : Int32) (l2 : Int32) (o3 : Option AV) (l4 : Int32) (l5 : Int32) (l6 : Int32) (l7 : Int32) (l8 : Int32) (M : Mem) : stepK call back (evj (lkE cd_148) [6] call back 4000) (.iload 8, 2, 8, 0, 0, 0, 0) 6 [some (vR 9 0 kY), some (vI l1), some (vI l2), o3, some (vI l4), some (vI l5), some (vI l6), some (vI l7), some (vI l8)] [] M =
  ic (l8 < l6) (
    cIn (call 101 [vR 9 0 kY, vI (l5 + l8)] M) fun v2 M1 =>
    cIn (call 103 [vR 9 0 kY, vI l1, vI l2, vI l7, vI l4, vI v2] M1) fun v4 M3 =>
    ic (0 < l7 - v4) (
      back 6 [some (vR 9 0 kY), some (vI l1), some (vI l2), o3, some (vI l4), some (vI l5), some (vI l6), some (vI (l7 - v4)), some (vI (l8 + 1))] M3) (
      some (some (vI (l8 + 1)), M3))) (
    some (some (vI (l6 + 1)), M)) := rfl
set_option maxRecDepth 100000 in
theorem e148_6 (d F : Nat) (kY : Nat) (l1 : Int32) (l2 : Int32) (o3 : Option AV) (l4 : Int32) (l5 : Int32) (l6 : Int32) (l7 : Int32) (l8 : Int32) (M : Mem) : lp d 148 (F + 1) 6 [some (vR 9 0 kY), some (vI l1), some (vI l2), o3, some (vI l4), some (vI l5), some (vI l6), some (vI l7), some (vI l8)] M =
  ic (l8 < l6) (
    cIn (evD d 101 [vR 9 0 kY, vI (l5 + l8)] M) fun v2 M1 =>
    cIn (evD d 103 [vR 9 0 kY, vI l1, vI l2, vI l7, vI l4, vI v2] M1) fun v4 M3 =>
    ic (0 < l7 - v4) (
      lp d 148 F 6 [some (vR 9 0 kY), some (vI l1), some (vI l2), o3, some (vI l4), some (vI l5), some (vI l6), some (vI (l7 - v4)), some (vI (l8 + 1))] M3) (
      some (some (vI (l8 + 1)), M3))) (
    some (some (vI (l6 + 1)), M)) := ((evp_step (code := lkE (codT 148)) (hd := hdT 148) (call := evD d) (F := F) (pc := 6) (lv := [some (vR 9 0 kY), some (vI l1), some (vI l2), o3, some (vI l4), some (vI l5), some (vI l6), some (vI l7), some (vI l8)]) (M := M) (e := (.iload 8, 2, 8, 0, 0, 0, 0)) rfl).trans (g148_6 (evD d) (evp (lkE (codT 148)) (hdT 148) (evD d) F) kY l1 l2 o3 l4 l5 l6 l7 l8 M))
-- IceParliament clashes()I
set_option maxRecDepth 100000 in
theorem j149 (call : Nat → List AV → Mem → Res) (back : Nat → Lv → Mem → Res)  (M : Mem) : evj (lkE cd_149) [] call back 4000 0 [some (vR 11 0 0)] [] M =
  cIn (call 110 [vR 6 0 60] M) fun v2 M1 =>
  cIn (call 150 [vR 9 0 3, vI v2] M1) fun v4 M3 =>
  some (some (vI v4), M3) := rfl
set_option maxRecDepth 100000 in
theorem e149 (d : Nat)  (M : Mem) : evD (d + 1) 149 [vR 11 0 0] M =
  cIn (evD d 110 [vR 6 0 60] M) fun v2 M1 =>
  cIn (evD d 150 [vR 9 0 3, vI v2] M1) fun v4 M3 =>
  some (some (vI v4), M3) := ((evD_step (d := d) (x := 149) (as := [vR 11 0 0]) (M := M) (md := (⟨"IceParliament", "clashes", "()I"⟩, prog_1_method_21_code, 1, (Option.some Jvm.ClassFile.FieldType.int), 11, 11)) rfl rfl).trans (j149 (evD d) (evp0 (lkE (codT 149)) (hdT 149) (evD d))  M))
-- IceParliament$Yard clashesIn(I)I
set_option maxRecDepth 100000 in
theorem j150 (call : Nat → List AV → Mem → Res) (back : Nat → Lv → Mem → Res) (kY : Nat) (p0 : Int32) (M : Mem) : evj (lkE cd_150) [4] call back 4000 0 [some (vR 9 0 kY), some (vI p0), none, none] [] M =
  back 4 [some (vR 9 0 kY), some (vI p0), some (vI 0), some (vI 0)] M := rfl
set_option maxRecDepth 100000 in
theorem e150 (d : Nat) (kY : Nat) (p0 : Int32) (M : Mem) : evD (d + 1) 150 [vR 9 0 kY, vI p0] M =
  lp0 d 150 4 [some (vR 9 0 kY), some (vI p0), some (vI 0), some (vI 0)] M := ((evD_step (d := d) (x := 150) (as := [vR 9 0 kY, vI p0]) (M := M) (md := (⟨"IceParliament$Yard", "clashesIn", "(I)I"⟩, prog_11_method_13_code, 4, (Option.some Jvm.ClassFile.FieldType.int), 9, 9)) rfl rfl).trans (j150 (evD d) (evp0 (lkE (codT 150)) (hdT 150) (evD d)) kY p0 M))
set_option maxRecDepth 100000 in
theorem g150_4 (call : Nat → List AV → Mem → Res) (back : Nat → Lv → Mem → Res) (kY : Nat) (l1 : Int32) (l2 : Int32) (l3 : Int32) (M : Mem) : stepK call back (evj (lkE cd_150) [4] call back 4000) (.iload_n 3, 1, 3, 0, 0, 0, 0) 4 [some (vR 9 0 kY), some (vI l1), some (vI l2), some (vI l3)] [] M =
  ic (l3 < M.1 (kY + 5) 0) (
    cIn (call 64 [vI l1, vI l3] M) fun v2 M1 =>
    ic (v2 = 0) (
      back 4 [some (vR 9 0 kY), some (vI l1), some (vI (l2 + 0)), some (vI (l3 + 1))] M1) (
      ic (l3 < 0 ∨ 6 ≤ l3.toNatClampNeg) none (
        cIn (call 145 [vI ((M1.1 (kY + 15) l3.toNatClampNeg) &&& l1)] M1) fun v4 M3 =>
        back 4 [some (vR 9 0 kY), some (vI l1), some (vI (l2 + v4)), some (vI (l3 + 1))] M3))) (
    ic ((2 : Int32) = 0) none (
      some (some (vI (l2 / 2)), M))) := rfl
set_option maxRecDepth 100000 in
theorem e150_4 (d F : Nat) (kY : Nat) (l1 : Int32) (l2 : Int32) (l3 : Int32) (M : Mem) : lp d 150 (F + 1) 4 [some (vR 9 0 kY), some (vI l1), some (vI l2), some (vI l3)] M =
  ic (l3 < M.1 (kY + 5) 0) (
    cIn (evD d 64 [vI l1, vI l3] M) fun v2 M1 =>
    ic (v2 = 0) (
      lp d 150 F 4 [some (vR 9 0 kY), some (vI l1), some (vI (l2 + 0)), some (vI (l3 + 1))] M1) (
      ic (l3 < 0 ∨ 6 ≤ l3.toNatClampNeg) none (
        cIn (evD d 145 [vI ((M1.1 (kY + 15) l3.toNatClampNeg) &&& l1)] M1) fun v4 M3 =>
        lp d 150 F 4 [some (vR 9 0 kY), some (vI l1), some (vI (l2 + v4)), some (vI (l3 + 1))] M3))) (
    some (some (vI (l2 / 2)), M)) := ((evp_step (code := lkE (codT 150)) (hd := hdT 150) (call := evD d) (F := F) (pc := 4) (lv := [some (vR 9 0 kY), some (vI l1), some (vI l2), some (vI l3)]) (M := M) (e := (.iload_n 3, 1, 3, 0, 0, 0, 0)) rfl).trans (g150_4 (evD d) (evp (lkE (codT 150)) (hdT 150) (evD d) F) kY l1 l2 l3 M)).trans (by (try simp only [ic_f (show ¬ ((2 : Int32) = 0) by decide)]))
-- IceParliament mend(I)I
set_option maxRecDepth 100000 in
theorem j151 (call : Nat → List AV → Mem → Res) (back : Nat → Lv → Mem → Res) (p0 : Int32) (M : Mem) : evj (lkE cd_151) [] call back 4000 0 [some (vR 11 0 0), some (vI p0), none] [] M =
  ic (p0 < 0) (
    some (some (vI (-1)), M)) (
    ic (1 < p0) (
      some (some (vI (-1)), M)) (
      cIn (call 152 [vR 3 0 69] M) fun v2 M1 =>
      ic (p0 = 0) (
        cIn (call 114 [vR 9 0 3, vI v2] M1) fun v4 M3 =>
        some (some (vI v4), M3)) (
        some (some (vI v2), M1)))) := rfl
set_option maxRecDepth 100000 in
theorem e151 (d : Nat) (p0 : Int32) (M : Mem) : evD (d + 1) 151 [vR 11 0 0, vI p0] M =
  ic (p0 < 0) (
    some (some (vI (-1)), M)) (
    ic (1 < p0) (
      some (some (vI (-1)), M)) (
      cIn (evD d 152 [vR 3 0 69] M) fun v2 M1 =>
      ic (p0 = 0) (
        cIn (evD d 114 [vR 9 0 3, vI v2] M1) fun v4 M3 =>
        some (some (vI v4), M3)) (
        some (some (vI v2), M1)))) := ((evD_step (d := d) (x := 151) (as := [vR 11 0 0, vI p0]) (M := M) (md := (⟨"IceParliament", "mend", "(I)I"⟩, prog_1_method_22_code, 3, (Option.some Jvm.ClassFile.FieldType.int), 11, 11)) rfl rfl).trans (j151 (evD d) (evp0 (lkE (codT 151)) (hdT 151) (evD d)) p0 M))
-- IceParliament$Planner leastToLetGo()I
set_option maxRecDepth 100000 in
theorem j152 (call : Nat → List AV → Mem → Res) (back : Nat → Lv → Mem → Res)  (M : Mem) : evj (lkE cd_152) [24] call back 4000 0 [some (vR 3 0 69), none, none, none, none] [] M =
  cIn (call 110 [vR 6 0 60] M) fun v2 M1 =>
  cIn (call 114 [vR 9 0 3, vI v2] M1) fun v4 M3 =>
  back 24 [some (vR 3 0 69), some (vI v2), some (vI v2), some (vI (v4 + 1)), some (vI 0)] M3 := rfl
set_option maxRecDepth 100000 in
theorem e152 (d : Nat)  (M : Mem) : evD (d + 1) 152 [vR 3 0 69] M =
  cIn (evD d 110 [vR 6 0 60] M) fun v2 M1 =>
  cIn (evD d 114 [vR 9 0 3, vI v2] M1) fun v4 M3 =>
  lp0 d 152 24 [some (vR 3 0 69), some (vI v2), some (vI v2), some (vI (v4 + 1)), some (vI 0)] M3 := ((evD_step (d := d) (x := 152) (as := [vR 3 0 69]) (M := M) (md := (⟨"IceParliament$Planner", "leastToLetGo", "()I"⟩, prog_5_method_2_code, 5, (Option.some Jvm.ClassFile.FieldType.int), 3, 3)) rfl rfl).trans (j152 (evD d) (evp0 (lkE (codT 152)) (hdT 152) (evD d))  M))
set_option maxRecDepth 100000 in
theorem g152_24 (call : Nat → List AV → Mem → Res) (back : Nat → Lv → Mem → Res) (l1 : Int32) (l2 : Int32) (l3 : Int32) (l4 : Int32) (M : Mem) : stepK call back (evj (lkE cd_152) [24] call back 4000) (.iload 4, 2, 4, 0, 0, 0, 0) 24 [some (vR 3 0 69), some (vI l1), some (vI l2), some (vI l3), some (vI l4)] [] M =
  ic (l4 < 64) (
    ic (l4 &&& (l1 ^^^ (-1)) = 0) (
      cIn (call 150 [vR 9 0 3, vI (l1 &&& (l4 ^^^ (-1)))] M) fun v2 M1 =>
      ic (v2 = 0) (
        cIn (call 114 [vR 9 0 3, vI l4] M1) fun v4 M3 =>
        ic (v4 < l3) (
          cIn (call 114 [vR 9 0 3, vI l4] M3) fun v6 M5 =>
          back 24 [some (vR 3 0 69), some (vI l1), some (vI l4), some (vI v6), some (vI (l4 + 1))] M5) (
          back 24 [some (vR 3 0 69), some (vI l1), some (vI l2), some (vI l3), some (vI (l4 + 1))] M3)) (
        back 24 [some (vR 3 0 69), some (vI l1), some (vI l2), some (vI l3), some (vI (l4 + 1))] M1)) (
      back 24 [some (vR 3 0 69), some (vI l1), some (vI l2), some (vI l3), some (vI (l4 + 1))] M)) (
    some (some (vI l2), M)) := rfl
set_option maxRecDepth 100000 in
theorem e152_24 (d F : Nat) (l1 : Int32) (l2 : Int32) (l3 : Int32) (l4 : Int32) (M : Mem) : lp d 152 (F + 1) 24 [some (vR 3 0 69), some (vI l1), some (vI l2), some (vI l3), some (vI l4)] M =
  ic (l4 < 64) (
    ic (l4 &&& (l1 ^^^ (-1)) = 0) (
      cIn (evD d 150 [vR 9 0 3, vI (l1 &&& (l4 ^^^ (-1)))] M) fun v2 M1 =>
      ic (v2 = 0) (
        cIn (evD d 114 [vR 9 0 3, vI l4] M1) fun v4 M3 =>
        ic (v4 < l3) (
          cIn (evD d 114 [vR 9 0 3, vI l4] M3) fun v6 M5 =>
          lp d 152 F 24 [some (vR 3 0 69), some (vI l1), some (vI l4), some (vI v6), some (vI (l4 + 1))] M5) (
          lp d 152 F 24 [some (vR 3 0 69), some (vI l1), some (vI l2), some (vI l3), some (vI (l4 + 1))] M3)) (
        lp d 152 F 24 [some (vR 3 0 69), some (vI l1), some (vI l2), some (vI l3), some (vI (l4 + 1))] M1)) (
      lp d 152 F 24 [some (vR 3 0 69), some (vI l1), some (vI l2), some (vI l3), some (vI (l4 + 1))] M)) (
    some (some (vI l2), M)) := ((evp_step (code := lkE (codT 152)) (hd := hdT 152) (call := evD d) (F := F) (pc := 24) (lv := [some (vR 3 0 69), some (vI l1), some (vI l2), some (vI l3), some (vI l4)]) (M := M) (e := (.iload 4, 2, 4, 0, 0, 0, 0)) rfl).trans (g152_24 (evD d) (evp (lkE (codT 152)) (hdT 152) (evD d) F) l1 l2 l3 l4 M))
-- IceParliament work(II)I
set_option maxRecDepth 100000 in
theorem j153 (call : Nat → List AV → Mem → Res) (back : Nat → Lv → Mem → Res) (p0 : Int32) (p1 : Int32) (M : Mem) : evj (lkE cd_153) [] call back 4000 0 [some (vR 11 0 0), some (vI p0), some (vI p1), none] [] M =
  ic (p0 < 1) (
    some (some (vI (-2)), M)) (
    ic (6 < p0) (
      some (some (vI (-2)), M)) (
      ic (p1 < 0) (
        some (some (vI (-2)), M)) (
        ic (M.1 6 0 < p1) (
          some (some (vI (-2)), M)) (
          cIn (call 154 [vR 3 0 69, vI p0] M) fun v2 M1 =>
          ic (p1 = 0) (
            some (some (vI v2), M1)) (
            ic (p1 - 1 < 0 ∨ 6 ≤ (p1 - 1).toNatClampNeg) none (
              some (some (vI (M1.1 70 (p1 - 1).toNatClampNeg)), M1))))))) := rfl
set_option maxRecDepth 100000 in
theorem e153 (d : Nat) (p0 : Int32) (p1 : Int32) (M : Mem) : evD (d + 1) 153 [vR 11 0 0, vI p0, vI p1] M =
  ic (p0 < 1) (
    some (some (vI (-2)), M)) (
    ic (6 < p0) (
      some (some (vI (-2)), M)) (
      ic (p1 < 0) (
        some (some (vI (-2)), M)) (
        ic (M.1 6 0 < p1) (
          some (some (vI (-2)), M)) (
          cIn (evD d 154 [vR 3 0 69, vI p0] M) fun v2 M1 =>
          ic (p1 = 0) (
            some (some (vI v2), M1)) (
            ic (p1 - 1 < 0 ∨ 6 ≤ (p1 - 1).toNatClampNeg) none (
              some (some (vI (M1.1 70 (p1 - 1).toNatClampNeg)), M1))))))) := ((evD_step (d := d) (x := 153) (as := [vR 11 0 0, vI p0, vI p1]) (M := M) (md := (⟨"IceParliament", "work", "(II)I"⟩, prog_1_method_23_code, 4, (Option.some Jvm.ClassFile.FieldType.int), 11, 11)) rfl rfl).trans (j153 (evD d) (evp0 (lkE (codT 153)) (hdT 153) (evD d)) p0 p1 M))
-- IceParliament$Planner shareWork(I)I
set_option maxRecDepth 100000 in
theorem j154 (call : Nat → List AV → Mem → Res) (back : Nat → Lv → Mem → Res) (p0 : Int32) (M : Mem) : evj (lkE cd_154) [10, 20, 88] call back 4000 0 [some (vR 3 0 69), some (vI p0), none, none, none, none] [] M =
  cVd (call 155 [vR 3 0 69] M) fun M1 =>
  cVd (call 156 [vR 3 0 69] M1) fun M2 =>
  back 10 [some (vR 3 0 69), some (vI p0), some (vI 0), none, none, none] M2 := rfl
set_option maxRecDepth 100000 in
theorem e154 (d : Nat) (p0 : Int32) (M : Mem) : evD (d + 1) 154 [vR 3 0 69, vI p0] M =
  cVd (evD d 155 [vR 3 0 69] M) fun M1 =>
  cVd (evD d 156 [vR 3 0 69] M1) fun M2 =>
  lp0 d 154 10 [some (vR 3 0 69), some (vI p0), some (vI 0), none, none, none] M2 := ((evD_step (d := d) (x := 154) (as := [vR 3 0 69, vI p0]) (M := M) (md := (⟨"IceParliament$Planner", "shareWork", "(I)I"⟩, prog_5_method_3_code, 6, (Option.some Jvm.ClassFile.FieldType.int), 3, 3)) rfl rfl).trans (j154 (evD d) (evp0 (lkE (codT 154)) (hdT 154) (evD d)) p0 M))
set_option maxRecDepth 100000 in
theorem g154_10 (call : Nat → List AV → Mem → Res) (back : Nat → Lv → Mem → Res) (l1 : Int32) (l2 : Int32) (o3 : Option AV) (o4 : Option AV) (o5 : Option AV) (M : Mem) : stepK call back (evj (lkE cd_154) [10, 20, 88] call back 4000) (.iload_n 2, 1, 2, 0, 0, 0, 0) 10 [some (vR 3 0 69), some (vI l1), some (vI l2), o3, o4, o5] [] M =
  ic (l2 < M.1 69 7) (
    back 20 [some (vR 3 0 69), some (vI l1), some (vI l2), some (vI 0), o4, o5] M) (
    cVd (call 2 [vR 20 6 70, vI (-1)] M) fun M1 =>
    cVd (call 2 [vR 20 4 81, vI 0] M1) fun M2 =>
    cIn (call 159 [vR 3 0 69] M2) fun v4 M3 =>
    back 88 [some (vR 3 0 69), some (vI l1), some (vI (-1)), some (vI v4), some (vI 0), o5] M3) := rfl
set_option maxRecDepth 100000 in
theorem e154_10 (d F : Nat) (l1 : Int32) (l2 : Int32) (o3 : Option AV) (o4 : Option AV) (o5 : Option AV) (M : Mem) : lp d 154 (F + 1) 10 [some (vR 3 0 69), some (vI l1), some (vI l2), o3, o4, o5] M =
  ic (l2 < M.1 69 7) (
    lp d 154 F 20 [some (vR 3 0 69), some (vI l1), some (vI l2), some (vI 0), o4, o5] M) (
    cVd (evD d 2 [vR 20 6 70, vI (-1)] M) fun M1 =>
    cVd (evD d 2 [vR 20 4 81, vI 0] M1) fun M2 =>
    cIn (evD d 159 [vR 3 0 69] M2) fun v4 M3 =>
    lp d 154 F 88 [some (vR 3 0 69), some (vI l1), some (vI (-1)), some (vI v4), some (vI 0), o5] M3) := ((evp_step (code := lkE (codT 154)) (hd := hdT 154) (call := evD d) (F := F) (pc := 10) (lv := [some (vR 3 0 69), some (vI l1), some (vI l2), o3, o4, o5]) (M := M) (e := (.iload_n 2, 1, 2, 0, 0, 0, 0)) rfl).trans (g154_10 (evD d) (evp (lkE (codT 154)) (hdT 154) (evD d) F) l1 l2 o3 o4 o5 M))
set_option maxRecDepth 100000 in
theorem g154_88a (call : Nat → List AV → Mem → Res) (back : Nat → Lv → Mem → Res) (l2 : Int32) (l3 : Int32) (l4 : Int32) (o5 : Option AV) (M : Mem) : stepK call back (evj (lkE cd_154) [10, 20, 88] call back 4000) (.iload 4, 2, 4, 0, 0, 0, 0) 88 [some (vR 3 0 69), none, some (vI l2), some (vI l3), some (vI l4), o5] [] M =
  ic (l4 < l3) (
    cIn (call 160 [vR 3 0 69] M) fun v2 M1 =>
    ic (l2 < v2) (
      cVd (call 161 [vR 3 0 69] M1) fun M4 =>
      cVd (call 162 [vR 3 0 69] M4) fun M5 =>
      back 88 [some (vR 3 0 69), none, some (vI v2), some (vI l3), some (vI (l4 + 1)), some (vI v2)] M5) (
      cVd (call 162 [vR 3 0 69] M1) fun M3 =>
      back 88 [some (vR 3 0 69), none, some (vI l2), some (vI l3), some (vI (l4 + 1)), some (vI v2)] M3)) (
    some (some (vI l2), M)) := rfl
set_option maxRecDepth 100000 in
theorem e154_88a (d F : Nat) (l2 : Int32) (l3 : Int32) (l4 : Int32) (o5 : Option AV) (M : Mem) : lp d 154 (F + 1) 88 [some (vR 3 0 69), none, some (vI l2), some (vI l3), some (vI l4), o5] M =
  ic (l4 < l3) (
    cIn (evD d 160 [vR 3 0 69] M) fun v2 M1 =>
    ic (l2 < v2) (
      cVd (evD d 161 [vR 3 0 69] M1) fun M4 =>
      cVd (evD d 162 [vR 3 0 69] M4) fun M5 =>
      lp d 154 F 88 [some (vR 3 0 69), none, some (vI v2), some (vI l3), some (vI (l4 + 1)), some (vI v2)] M5) (
      cVd (evD d 162 [vR 3 0 69] M1) fun M3 =>
      lp d 154 F 88 [some (vR 3 0 69), none, some (vI l2), some (vI l3), some (vI (l4 + 1)), some (vI v2)] M3)) (
    some (some (vI l2), M)) := ((evp_step (code := lkE (codT 154)) (hd := hdT 154) (call := evD d) (F := F) (pc := 88) (lv := [some (vR 3 0 69), none, some (vI l2), some (vI l3), some (vI l4), o5]) (M := M) (e := (.iload 4, 2, 4, 0, 0, 0, 0)) rfl).trans (g154_88a (evD d) (evp (lkE (codT 154)) (hdT 154) (evD d) F) l2 l3 l4 o5 M))
set_option maxRecDepth 100000 in
theorem g154_88b (call : Nat → List AV → Mem → Res) (back : Nat → Lv → Mem → Res) (o1 : Int32) (l2 : Int32) (l3 : Int32) (l4 : Int32) (o5 : Option AV) (M : Mem) : stepK call back (evj (lkE cd_154) [10, 20, 88] call back 4000) (.iload 4, 2, 4, 0, 0, 0, 0) 88 [some (vR 3 0 69), some (vI o1), some (vI l2), some (vI l3), some (vI l4), o5] [] M =
  ic (l4 < l3) (
    cIn (call 160 [vR 3 0 69] M) fun v2 M1 =>
    ic (l2 < v2) (
      cVd (call 161 [vR 3 0 69] M1) fun M4 =>
      cVd (call 162 [vR 3 0 69] M4) fun M5 =>
      back 88 [some (vR 3 0 69), some (vI o1), some (vI v2), some (vI l3), some (vI (l4 + 1)), some (vI v2)] M5) (
      cVd (call 162 [vR 3 0 69] M1) fun M3 =>
      back 88 [some (vR 3 0 69), some (vI o1), some (vI l2), some (vI l3), some (vI (l4 + 1)), some (vI v2)] M3)) (
    some (some (vI l2), M)) := rfl
set_option maxRecDepth 100000 in
theorem e154_88b (d F : Nat) (o1 : Int32) (l2 : Int32) (l3 : Int32) (l4 : Int32) (o5 : Option AV) (M : Mem) : lp d 154 (F + 1) 88 [some (vR 3 0 69), some (vI o1), some (vI l2), some (vI l3), some (vI l4), o5] M =
  ic (l4 < l3) (
    cIn (evD d 160 [vR 3 0 69] M) fun v2 M1 =>
    ic (l2 < v2) (
      cVd (evD d 161 [vR 3 0 69] M1) fun M4 =>
      cVd (evD d 162 [vR 3 0 69] M4) fun M5 =>
      lp d 154 F 88 [some (vR 3 0 69), some (vI o1), some (vI v2), some (vI l3), some (vI (l4 + 1)), some (vI v2)] M5) (
      cVd (evD d 162 [vR 3 0 69] M1) fun M3 =>
      lp d 154 F 88 [some (vR 3 0 69), some (vI o1), some (vI l2), some (vI l3), some (vI (l4 + 1)), some (vI v2)] M3)) (
    some (some (vI l2), M)) := ((evp_step (code := lkE (codT 154)) (hd := hdT 154) (call := evD d) (F := F) (pc := 88) (lv := [some (vR 3 0 69), some (vI o1), some (vI l2), some (vI l3), some (vI l4), o5]) (M := M) (e := (.iload 4, 2, 4, 0, 0, 0, 0)) rfl).trans (g154_88b (evD d) (evp (lkE (codT 154)) (hdT 154) (evD d) F) o1 l2 l3 l4 o5 M))
set_option maxRecDepth 100000 in
theorem g154_20 (call : Nat → List AV → Mem → Res) (back : Nat → Lv → Mem → Res) (l1 : Int32) (l2 : Int32) (l3 : Int32) (o4 : Option AV) (o5 : Option AV) (M : Mem) : stepK call back (evj (lkE cd_154) [10, 20, 88] call back 4000) (.iload_n 3, 1, 3, 0, 0, 0, 0) 20 [some (vR 3 0 69), some (vI l1), some (vI l2), some (vI l3), o4, o5] [] M =
  ic (l3 < 1 <<< ((M.1 69 5) &&& 31)) (
    ic (l2 < 0 ∨ 6 ≤ l2.toNatClampNeg) none (
      ic (l2 < 0 ∨ 6 ≤ l2.toNatClampNeg) none (
        cIn (call 157 [vR 3 0 69, vI (M.1 73 l2.toNatClampNeg), vI l3, vI l1] M) fun v2 M1 =>
        ic (l3 < 0 ∨ 16 ≤ l3.toNatClampNeg) none (
          back 20 [some (vR 3 0 69), some (vI l1), some (vI l2), some (vI (l3 + 1)), o4, o5] (sI M1 (74 + 1 + l2.toNatClampNeg) l3.toNatClampNeg v2))))) (
    back 10 [some (vR 3 0 69), some (vI l1), some (vI (l2 + 1)), some (vI l3), o4, o5] M) := rfl
set_option maxRecDepth 100000 in
theorem e154_20 (d F : Nat) (l1 : Int32) (l2 : Int32) (l3 : Int32) (o4 : Option AV) (o5 : Option AV) (M : Mem) : lp d 154 (F + 1) 20 [some (vR 3 0 69), some (vI l1), some (vI l2), some (vI l3), o4, o5] M =
  ic (l3 < 1 <<< ((M.1 69 5) &&& 31)) (
    ic (l2 < 0 ∨ 6 ≤ l2.toNatClampNeg) none (
      ic (l2 < 0 ∨ 6 ≤ l2.toNatClampNeg) none (
        cIn (evD d 157 [vR 3 0 69, vI (M.1 73 l2.toNatClampNeg), vI l3, vI l1] M) fun v2 M1 =>
        ic (l3 < 0 ∨ 16 ≤ l3.toNatClampNeg) none (
          lp d 154 F 20 [some (vR 3 0 69), some (vI l1), some (vI l2), some (vI (l3 + 1)), o4, o5] (sI M1 (74 + 1 + l2.toNatClampNeg) l3.toNatClampNeg v2))))) (
    lp d 154 F 10 [some (vR 3 0 69), some (vI l1), some (vI (l2 + 1)), some (vI l3), o4, o5] M) := ((evp_step (code := lkE (codT 154)) (hd := hdT 154) (call := evD d) (F := F) (pc := 20) (lv := [some (vR 3 0 69), some (vI l1), some (vI l2), some (vI l3), o4, o5]) (M := M) (e := (.iload_n 3, 1, 3, 0, 0, 0, 0)) rfl).trans (g154_20 (evD d) (evp (lkE (codT 154)) (hdT 154) (evD d) F) l1 l2 l3 o4 o5 M))
-- IceParliament$Planner callWorkers()V
set_option maxRecDepth 100000 in
theorem j155 (call : Nat → List AV → Mem → Res) (back : Nat → Lv → Mem → Res)  (M : Mem) : evj (lkE cd_155) [7] call back 4000 0 [some (vR 3 0 69), none] [] M =
  back 7 [some (vR 3 0 69), some (vI 0)] (sI M 69 5 0) := rfl
set_option maxRecDepth 100000 in
theorem e155 (d : Nat)  (M : Mem) : evD (d + 1) 155 [vR 3 0 69] M =
  lp0 d 155 7 [some (vR 3 0 69), some (vI 0)] (sI M 69 5 0) := ((evD_step (d := d) (x := 155) (as := [vR 3 0 69]) (M := M) (md := (⟨"IceParliament$Planner", "callWorkers", "()V"⟩, prog_5_method_4_code, 2, (Option.none : Option Jvm.ClassFile.FieldType), 3, 3)) rfl rfl).trans (j155 (evD d) (evp0 (lkE (codT 155)) (hdT 155) (evD d))  M))
set_option maxRecDepth 100000 in
theorem g155_7 (call : Nat → List AV → Mem → Res) (back : Nat → Lv → Mem → Res) (l1 : Int32) (M : Mem) : stepK call back (evj (lkE cd_155) [7] call back 4000) (.iload_n 1, 1, 1, 0, 0, 0, 0) 7 [some (vR 3 0 69), some (vI l1)] [] M =
  ic (l1 < M.1 6 0) (
    ic (M.1 69 5 < 4) (
      cIn (call 64 [vI (M.1 60 9), vI l1] M) fun v2 M1 =>
      ic (v2 = 0) (
        ic (M1.1 69 5 < 0 ∨ 4 ≤ (M1.1 69 5).toNatClampNeg) none (
          back 7 [some (vR 3 0 69), some (vI (l1 + 1))] (sI (sI M1 72 ((M1.1 69 5).toNatClampNeg) l1) 69 5 (((sI M1 72 ((M1.1 69 5).toNatClampNeg) l1).1 69 5) + 1)))) (
        back 7 [some (vR 3 0 69), some (vI (l1 + 1))] M1)) (
      some (none, M))) (
    some (none, M)) := rfl
set_option maxRecDepth 100000 in
theorem e155_7 (d F : Nat) (l1 : Int32) (M : Mem) : lp d 155 (F + 1) 7 [some (vR 3 0 69), some (vI l1)] M =
  ic (l1 < M.1 6 0) (
    ic (M.1 69 5 < 4) (
      cIn (evD d 64 [vI (M.1 60 9), vI l1] M) fun v2 M1 =>
      ic (v2 = 0) (
        ic (M1.1 69 5 < 0 ∨ 4 ≤ (M1.1 69 5).toNatClampNeg) none (
          lp d 155 F 7 [some (vR 3 0 69), some (vI (l1 + 1))] (sI (sI M1 72 ((M1.1 69 5).toNatClampNeg) l1) 69 5 (((sI M1 72 ((M1.1 69 5).toNatClampNeg) l1).1 69 5) + 1)))) (
        lp d 155 F 7 [some (vR 3 0 69), some (vI (l1 + 1))] M1)) (
      some (none, M))) (
    some (none, M)) := ((evp_step (code := lkE (codT 155)) (hd := hdT 155) (call := evD d) (F := F) (pc := 7) (lv := [some (vR 3 0 69), some (vI l1)]) (M := M) (e := (.iload_n 1, 1, 1, 0, 0, 0, 0)) rfl).trans (g155_7 (evD d) (evp (lkE (codT 155)) (hdT 155) (evD d) F) l1 M))
-- IceParliament$Planner listStanding()V
set_option maxRecDepth 100000 in
theorem j156 (call : Nat → List AV → Mem → Res) (back : Nat → Lv → Mem → Res)  (M : Mem) : evj (lkE cd_156) [7] call back 4000 0 [some (vR 3 0 69), none] [] M =
  back 7 [some (vR 3 0 69), some (vI 0)] (sI M 69 7 0) := rfl
set_option maxRecDepth 100000 in
theorem e156 (d : Nat)  (M : Mem) : evD (d + 1) 156 [vR 3 0 69] M =
  lp0 d 156 7 [some (vR 3 0 69), some (vI 0)] (sI M 69 7 0) := ((evD_step (d := d) (x := 156) (as := [vR 3 0 69]) (M := M) (md := (⟨"IceParliament$Planner", "listStanding", "()V"⟩, prog_5_method_5_code, 2, (Option.none : Option Jvm.ClassFile.FieldType), 3, 3)) rfl rfl).trans (j156 (evD d) (evp0 (lkE (codT 156)) (hdT 156) (evD d))  M))
set_option maxRecDepth 100000 in
theorem g156_7 (call : Nat → List AV → Mem → Res) (back : Nat → Lv → Mem → Res) (l1 : Int32) (M : Mem) : stepK call back (evj (lkE cd_156) [7] call back 4000) (.iload_n 1, 1, 1, 0, 0, 0, 0) 7 [some (vR 3 0 69), some (vI l1)] [] M =
  ic (l1 < M.1 8 0) (
    cIn (call 97 [vR 6 0 60, vI l1] M) fun v2 M1 =>
    ic (v2 = 0) (
      back 7 [some (vR 3 0 69), some (vI (l1 + 1))] M1) (
      ic (M1.1 69 7 < 0 ∨ 6 ≤ (M1.1 69 7).toNatClampNeg) none (
        back 7 [some (vR 3 0 69), some (vI (l1 + 1))] (sI (sI M1 73 ((M1.1 69 7).toNatClampNeg) l1) 69 7 (((sI M1 73 ((M1.1 69 7).toNatClampNeg) l1).1 69 7) + 1))))) (
    some (none, M)) := rfl
set_option maxRecDepth 100000 in
theorem e156_7 (d F : Nat) (l1 : Int32) (M : Mem) : lp d 156 (F + 1) 7 [some (vR 3 0 69), some (vI l1)] M =
  ic (l1 < M.1 8 0) (
    cIn (evD d 97 [vR 6 0 60, vI l1] M) fun v2 M1 =>
    ic (v2 = 0) (
      lp d 156 F 7 [some (vR 3 0 69), some (vI (l1 + 1))] M1) (
      ic (M1.1 69 7 < 0 ∨ 6 ≤ (M1.1 69 7).toNatClampNeg) none (
        lp d 156 F 7 [some (vR 3 0 69), some (vI (l1 + 1))] (sI (sI M1 73 ((M1.1 69 7).toNatClampNeg) l1) 69 7 (((sI M1 73 ((M1.1 69 7).toNatClampNeg) l1).1 69 7) + 1))))) (
    some (none, M)) := ((evp_step (code := lkE (codT 156)) (hd := hdT 156) (call := evD d) (F := F) (pc := 7) (lv := [some (vR 3 0 69), some (vI l1)]) (M := M) (e := (.iload_n 1, 1, 1, 0, 0, 0, 0)) rfl).trans (g156_7 (evD d) (evp (lkE (codT 156)) (hdT 156) (evD d) F) l1 M))
-- IceParliament$Planner worthByCrew(III)I
set_option maxRecDepth 100000 in
theorem j157 (call : Nat → List AV → Mem → Res) (back : Nat → Lv → Mem → Res) (p0 : Int32) (p1 : Int32) (p2 : Int32) (M : Mem) : evj (lkE cd_157) [35, 44] call back 4000 0 [some (vR 3 0 69), some (vI p0), some (vI p1), some (vI p2), none, none, none, none, none] [] M =
  ic (p0 < 0 ∨ 6 ≤ p0.toNatClampNeg) none (
    ic (p0 < 0 ∨ 6 ≤ p0.toNatClampNeg) none (
      cIn (call 95 [vR 9 0 3, vI p0] M) fun v2 M1 =>
      back 35 [some (vR 3 0 69), some (vI p0), some (vI p1), some (vI p2), some (vI (M.1 61 p0.toNatClampNeg)), some (vI (M.1 62 p0.toNatClampNeg)), some (vI v2), some (vI 0), none] M1)) := rfl
set_option maxRecDepth 100000 in
theorem e157 (d : Nat) (p0 : Int32) (p1 : Int32) (p2 : Int32) (M : Mem) : evD (d + 1) 157 [vR 3 0 69, vI p0, vI p1, vI p2] M =
  ic (p0 < 0 ∨ 6 ≤ p0.toNatClampNeg) none (
    ic (p0 < 0 ∨ 6 ≤ p0.toNatClampNeg) none (
      cIn (evD d 95 [vR 9 0 3, vI p0] M) fun v2 M1 =>
      lp0 d 157 35 [some (vR 3 0 69), some (vI p0), some (vI p1), some (vI p2), some (vI (M.1 61 p0.toNatClampNeg)), some (vI (M.1 62 p0.toNatClampNeg)), some (vI v2), some (vI 0), none] M1)) := ((evD_step (d := d) (x := 157) (as := [vR 3 0 69, vI p0, vI p1, vI p2]) (M := M) (md := (⟨"IceParliament$Planner", "worthByCrew", "(III)I"⟩, prog_5_method_6_code, 9, (Option.some Jvm.ClassFile.FieldType.int), 3, 3)) rfl rfl).trans (j157 (evD d) (evp0 (lkE (codT 157)) (hdT 157) (evD d)) p0 p1 p2 M))
set_option maxRecDepth 100000 in
theorem g157_35 (call : Nat → List AV → Mem → Res) (back : Nat → Lv → Mem → Res) (l1 : Int32) (l2 : Int32) (l3 : Int32) (l4 : Int32) (l5 : Int32) (l6 : Int32) (l7 : Int32) (o8 : Option AV) (M : Mem) : stepK call back (evj (lkE cd_157) [35, 44] call back 4000) (.iload 7, 2, 7, 0, 0, 0, 0) 35 [some (vR 3 0 69), some (vI l1), some (vI l2), some (vI l3), some (vI l4), some (vI l5), some (vI l6), some (vI l7), o8] [] M =
  ic (l7 < l3) (
    back 44 [some (vR 3 0 69), some (vI l1), some (vI l2), some (vI l3), some (vI l4), some (vI l5), some (vI l6), some (vI l7), some (vI 0)] M) (
    ic (l5 < l6) (
      some (some (vI 0), M)) (
      ic (l1 < 0 ∨ 6 ≤ l1.toNatClampNeg) none (
        some (some (vI (M.1 16 l1.toNatClampNeg)), M)))) := rfl
set_option maxRecDepth 100000 in
theorem e157_35 (d F : Nat) (l1 : Int32) (l2 : Int32) (l3 : Int32) (l4 : Int32) (l5 : Int32) (l6 : Int32) (l7 : Int32) (o8 : Option AV) (M : Mem) : lp d 157 (F + 1) 35 [some (vR 3 0 69), some (vI l1), some (vI l2), some (vI l3), some (vI l4), some (vI l5), some (vI l6), some (vI l7), o8] M =
  ic (l7 < l3) (
    lp d 157 F 44 [some (vR 3 0 69), some (vI l1), some (vI l2), some (vI l3), some (vI l4), some (vI l5), some (vI l6), some (vI l7), some (vI 0)] M) (
    ic (l5 < l6) (
      some (some (vI 0), M)) (
      ic (l1 < 0 ∨ 6 ≤ l1.toNatClampNeg) none (
        some (some (vI (M.1 16 l1.toNatClampNeg)), M)))) := ((evp_step (code := lkE (codT 157)) (hd := hdT 157) (call := evD d) (F := F) (pc := 35) (lv := [some (vR 3 0 69), some (vI l1), some (vI l2), some (vI l3), some (vI l4), some (vI l5), some (vI l6), some (vI l7), o8]) (M := M) (e := (.iload 7, 2, 7, 0, 0, 0, 0)) rfl).trans (g157_35 (evD d) (evp (lkE (codT 157)) (hdT 157) (evD d) F) l1 l2 l3 l4 l5 l6 l7 o8 M))
set_option maxRecDepth 100000 in
theorem g157_44 (call : Nat → List AV → Mem → Res) (back : Nat → Lv → Mem → Res) (l1 : Int32) (l2 : Int32) (l3 : Int32) (l4 : Int32) (l5 : Int32) (l6 : Int32) (l7 : Int32) (l8 : Int32) (M : Mem) : stepK call back (evj (lkE cd_157) [35, 44] call back 4000) (.iload 8, 2, 8, 0, 0, 0, 0) 44 [some (vR 3 0 69), some (vI l1), some (vI l2), some (vI l3), some (vI l4), some (vI l5), some (vI l6), some (vI l7), some (vI l8)] [] M =
  ic (l8 < M.1 69 5) (
    cIn (call 64 [vI l2, vI l8] M) fun v6 M5 =>
    ic (v6 = 0) (
      back 44 [some (vR 3 0 69), some (vI l1), some (vI l2), some (vI l3), some (vI l4), some (vI l5), some (vI l6), some (vI l7), some (vI (l8 + 1))] M5) (
      ic (l5 < l6) (
        ic (l8 < 0 ∨ 4 ≤ l8.toNatClampNeg) none (
          cIn (call 158 [vR 3 0 69, vI (M5.1 72 l8.toNatClampNeg), vI l7] M5) fun v8 M7 =>
          ic (v8 = 0) (
            back 44 [some (vR 3 0 69), some (vI l1), some (vI l2), some (vI l3), some (vI l4), some (vI l5), some (vI l6), some (vI l7), some (vI (l8 + 1))] M7) (
            ic (l8 < 0 ∨ 4 ≤ l8.toNatClampNeg) none (
              cIn (call 126 [vR 9 0 3, vI (M7.1 72 l8.toNatClampNeg), vI l4, vI l5] M7) fun v10 M9 =>
              back 44 [some (vR 3 0 69), some (vI l1), some (vI l2), some (vI l3), some (vI l4), some (vI v10), some (vI l6), some (vI l7), some (vI (l8 + 1))] M9)))) (
        back 44 [some (vR 3 0 69), some (vI l1), some (vI l2), some (vI l3), some (vI l4), some (vI l5), some (vI l6), some (vI l7), some (vI (l8 + 1))] M5))) (
    ic (l1 < 0 ∨ 6 ≤ l1.toNatClampNeg) none (
      ic (l1 < 0 ∨ 6 ≤ l1.toNatClampNeg) none (
        cIn (call 101 [vR 9 0 3, vI ((M.1 60 0) + l7)] M) fun v2 M1 =>
        cIn (call 103 [vR 9 0 3, vI l1, vI (M.1 64 l1.toNatClampNeg), vI l4, vI (M.1 63 l1.toNatClampNeg), vI v2] M1) fun v4 M3 =>
        ic (0 < l4 - v4) (
          back 35 [some (vR 3 0 69), some (vI l1), some (vI l2), some (vI l3), some (vI (l4 - v4)), some (vI l5), some (vI l6), some (vI (l7 + 1)), some (vI l8)] M3) (
          some (some (vI 0), M3))))) := rfl
set_option maxRecDepth 100000 in
theorem e157_44 (d F : Nat) (l1 : Int32) (l2 : Int32) (l3 : Int32) (l4 : Int32) (l5 : Int32) (l6 : Int32) (l7 : Int32) (l8 : Int32) (M : Mem) : lp d 157 (F + 1) 44 [some (vR 3 0 69), some (vI l1), some (vI l2), some (vI l3), some (vI l4), some (vI l5), some (vI l6), some (vI l7), some (vI l8)] M =
  ic (l8 < M.1 69 5) (
    cIn (evD d 64 [vI l2, vI l8] M) fun v6 M5 =>
    ic (v6 = 0) (
      lp d 157 F 44 [some (vR 3 0 69), some (vI l1), some (vI l2), some (vI l3), some (vI l4), some (vI l5), some (vI l6), some (vI l7), some (vI (l8 + 1))] M5) (
      ic (l5 < l6) (
        ic (l8 < 0 ∨ 4 ≤ l8.toNatClampNeg) none (
          cIn (evD d 158 [vR 3 0 69, vI (M5.1 72 l8.toNatClampNeg), vI l7] M5) fun v8 M7 =>
          ic (v8 = 0) (
            lp d 157 F 44 [some (vR 3 0 69), some (vI l1), some (vI l2), some (vI l3), some (vI l4), some (vI l5), some (vI l6), some (vI l7), some (vI (l8 + 1))] M7) (
            ic (l8 < 0 ∨ 4 ≤ l8.toNatClampNeg) none (
              cIn (evD d 126 [vR 9 0 3, vI (M7.1 72 l8.toNatClampNeg), vI l4, vI l5] M7) fun v10 M9 =>
              lp d 157 F 44 [some (vR 3 0 69), some (vI l1), some (vI l2), some (vI l3), some (vI l4), some (vI v10), some (vI l6), some (vI l7), some (vI (l8 + 1))] M9)))) (
        lp d 157 F 44 [some (vR 3 0 69), some (vI l1), some (vI l2), some (vI l3), some (vI l4), some (vI l5), some (vI l6), some (vI l7), some (vI (l8 + 1))] M5))) (
    ic (l1 < 0 ∨ 6 ≤ l1.toNatClampNeg) none (
      ic (l1 < 0 ∨ 6 ≤ l1.toNatClampNeg) none (
        cIn (evD d 101 [vR 9 0 3, vI ((M.1 60 0) + l7)] M) fun v2 M1 =>
        cIn (evD d 103 [vR 9 0 3, vI l1, vI (M.1 64 l1.toNatClampNeg), vI l4, vI (M.1 63 l1.toNatClampNeg), vI v2] M1) fun v4 M3 =>
        ic (0 < l4 - v4) (
          lp d 157 F 35 [some (vR 3 0 69), some (vI l1), some (vI l2), some (vI l3), some (vI (l4 - v4)), some (vI l5), some (vI l6), some (vI (l7 + 1)), some (vI l8)] M3) (
          some (some (vI 0), M3))))) := ((evp_step (code := lkE (codT 157)) (hd := hdT 157) (call := evD d) (F := F) (pc := 44) (lv := [some (vR 3 0 69), some (vI l1), some (vI l2), some (vI l3), some (vI l4), some (vI l5), some (vI l6), some (vI l7), some (vI l8)]) (M := M) (e := (.iload 8, 2, 8, 0, 0, 0, 0)) rfl).trans (g157_44 (evD d) (evp (lkE (codT 157)) (hdT 157) (evD d) F) l1 l2 l3 l4 l5 l6 l7 l8 M))
-- IceParliament$Planner canWork(II)Z
set_option maxRecDepth 100000 in
theorem j158 (call : Nat → List AV → Mem → Res) (back : Nat → Lv → Mem → Res) (p0 : Int32) (p1 : Int32) (M : Mem) : evj (lkE cd_158) [] call back 4000 0 [some (vR 3 0 69), some (vI p0), some (vI p1), none] [] M =
  ic (p0 < 0 ∨ 6 ≤ p0.toNatClampNeg) none (
    ic (M.1 65 p0.toNatClampNeg = (-1)) (
      ic ((1 : Int32) &&& 1 = 1) (
        some (some (vI 1), M)) none) (
      ic (p1 = 0) (
        ic ((0 : Int32) &&& 1 = 0) (
          some (some (vI 0), M)) none) (
        ic (M.1 65 p0.toNatClampNeg < 0 ∨ 6 ≤ (M.1 65 p0.toNatClampNeg).toNatClampNeg) none (
          ic (M.1 17 (M.1 65 p0.toNatClampNeg).toNatClampNeg = p0) (
            cIn (call 97 [vR 6 0 60, vI (M.1 65 p0.toNatClampNeg)] M) fun v2 M1 =>
            ic (v2 = 0) (
              ic ((1 : Int32) &&& 1 = 1) (
                some (some (vI 1), M1)) none) (
              cIn (call 100 [vR 6 0 60, vI (M.1 65 p0.toNatClampNeg), vI 0] M1) fun v4 M3 =>
              ic (M.1 65 p0.toNatClampNeg < 0 ∨ 6 ≤ (M.1 65 p0.toNatClampNeg).toNatClampNeg) none (
                ic (v4 < M3.1 61 (M.1 65 p0.toNatClampNeg).toNatClampNeg) (
                  ic ((1 : Int32) &&& 1 = 1) (
                    some (some (vI 1), M3)) none) (
                  ic ((0 : Int32) &&& 1 = 0) (
                    some (some (vI 0), M3)) none)))) (
            ic ((1 : Int32) &&& 1 = 1) (
              some (some (vI 1), M)) none))))) := rfl
set_option maxRecDepth 100000 in
theorem e158 (d : Nat) (p0 : Int32) (p1 : Int32) (M : Mem) : evD (d + 1) 158 [vR 3 0 69, vI p0, vI p1] M =
  ic (p0 < 0 ∨ 6 ≤ p0.toNatClampNeg) none (
    ic (M.1 65 p0.toNatClampNeg = (-1)) (
      some (some (vI 1), M)) (
      ic (p1 = 0) (
        some (some (vI 0), M)) (
        ic (M.1 65 p0.toNatClampNeg < 0 ∨ 6 ≤ (M.1 65 p0.toNatClampNeg).toNatClampNeg) none (
          ic (M.1 17 (M.1 65 p0.toNatClampNeg).toNatClampNeg = p0) (
            cIn (evD d 97 [vR 6 0 60, vI (M.1 65 p0.toNatClampNeg)] M) fun v2 M1 =>
            ic (v2 = 0) (
              some (some (vI 1), M1)) (
              cIn (evD d 100 [vR 6 0 60, vI (M.1 65 p0.toNatClampNeg), vI 0] M1) fun v4 M3 =>
              ic (M.1 65 p0.toNatClampNeg < 0 ∨ 6 ≤ (M.1 65 p0.toNatClampNeg).toNatClampNeg) none (
                ic (v4 < M3.1 61 (M.1 65 p0.toNatClampNeg).toNatClampNeg) (
                  some (some (vI 1), M3)) (
                  some (some (vI 0), M3))))) (
            some (some (vI 1), M)))))) := ((evD_step (d := d) (x := 158) (as := [vR 3 0 69, vI p0, vI p1]) (M := M) (md := (⟨"IceParliament$Planner", "canWork", "(II)Z"⟩, prog_5_method_7_code, 4, (Option.some Jvm.ClassFile.FieldType.boolean), 3, 3)) rfl rfl).trans (j158 (evD d) (evp0 (lkE (codT 158)) (hdT 158) (evD d)) p0 p1 M)).trans (by (try simp only [ic_t (show (1 : Int32) &&& 1 = 1 by decide), ic_t (show (0 : Int32) &&& 1 = 0 by decide)]))
-- IceParliament$Planner howManyRows()I
set_option maxRecDepth 100000 in
theorem j159 (call : Nat → List AV → Mem → Res) (back : Nat → Lv → Mem → Res)  (M : Mem) : evj (lkE cd_159) [4] call back 4000 0 [some (vR 3 0 69), none, none] [] M =
  back 4 [some (vR 3 0 69), some (vI 1), some (vI 0)] M := rfl
set_option maxRecDepth 100000 in
theorem e159 (d : Nat)  (M : Mem) : evD (d + 1) 159 [vR 3 0 69] M =
  lp0 d 159 4 [some (vR 3 0 69), some (vI 1), some (vI 0)] M := ((evD_step (d := d) (x := 159) (as := [vR 3 0 69]) (M := M) (md := (⟨"IceParliament$Planner", "howManyRows", "()I"⟩, prog_5_method_8_code, 3, (Option.some Jvm.ClassFile.FieldType.int), 3, 3)) rfl rfl).trans (j159 (evD d) (evp0 (lkE (codT 159)) (hdT 159) (evD d))  M))
set_option maxRecDepth 100000 in
theorem g159_4 (call : Nat → List AV → Mem → Res) (back : Nat → Lv → Mem → Res) (l1 : Int32) (l2 : Int32) (M : Mem) : stepK call back (evj (lkE cd_159) [4] call back 4000) (.iload_n 2, 1, 2, 0, 0, 0, 0) 4 [some (vR 3 0 69), some (vI l1), some (vI l2)] [] M =
  ic (l2 < M.1 69 5) (
    back 4 [some (vR 3 0 69), some (vI (l1 * ((M.1 69 7) + 1))), some (vI (l2 + 1))] M) (
    some (some (vI l1), M)) := rfl
set_option maxRecDepth 100000 in
theorem e159_4 (d F : Nat) (l1 : Int32) (l2 : Int32) (M : Mem) : lp d 159 (F + 1) 4 [some (vR 3 0 69), some (vI l1), some (vI l2)] M =
  ic (l2 < M.1 69 5) (
    lp d 159 F 4 [some (vR 3 0 69), some (vI (l1 * ((M.1 69 7) + 1))), some (vI (l2 + 1))] M) (
    some (some (vI l1), M)) := ((evp_step (code := lkE (codT 159)) (hd := hdT 159) (call := evD d) (F := F) (pc := 4) (lv := [some (vR 3 0 69), some (vI l1), some (vI l2)]) (M := M) (e := (.iload_n 2, 1, 2, 0, 0, 0, 0)) rfl).trans (g159_4 (evD d) (evp (lkE (codT 159)) (hdT 159) (evD d) F) l1 l2 M))
-- IceParliament$Planner worthOfRow()I
set_option maxRecDepth 100000 in
theorem j160 (call : Nat → List AV → Mem → Res) (back : Nat → Lv → Mem → Res)  (M : Mem) : evj (lkE cd_160) [10, 45] call back 4000 0 [some (vR 3 0 69), none, none] [] M =
  cVd (call 2 [vR 20 7 82, vI 0] M) fun M1 =>
  back 10 [some (vR 3 0 69), some (vI 0), none] M1 := rfl
set_option maxRecDepth 100000 in
theorem e160 (d : Nat)  (M : Mem) : evD (d + 1) 160 [vR 3 0 69] M =
  cVd (evD d 2 [vR 20 7 82, vI 0] M) fun M1 =>
  lp0 d 160 10 [some (vR 3 0 69), some (vI 0), none] M1 := ((evD_step (d := d) (x := 160) (as := [vR 3 0 69]) (M := M) (md := (⟨"IceParliament$Planner", "worthOfRow", "()I"⟩, prog_5_method_9_code, 3, (Option.some Jvm.ClassFile.FieldType.int), 3, 3)) rfl rfl).trans (j160 (evD d) (evp0 (lkE (codT 160)) (hdT 160) (evD d))  M))
set_option maxRecDepth 100000 in
theorem g160_10 (call : Nat → List AV → Mem → Res) (back : Nat → Lv → Mem → Res) (l1 : Int32) (o2 : Option AV) (M : Mem) : stepK call back (evj (lkE cd_160) [10, 45] call back 4000) (.iload_n 1, 1, 1, 0, 0, 0, 0) 10 [some (vR 3 0 69), some (vI l1), o2] [] M =
  ic (l1 < M.1 69 5) (
    ic (l1 < 0 ∨ 4 ≤ l1.toNatClampNeg) none (
      ic (M.1 81 l1.toNatClampNeg < 0 ∨ 7 ≤ (M.1 81 l1.toNatClampNeg).toNatClampNeg) none (
        ic (M.1 81 l1.toNatClampNeg < 0 ∨ 7 ≤ (M.1 81 l1.toNatClampNeg).toNatClampNeg) none (
          back 10 [some (vR 3 0 69), some (vI (l1 + 1)), o2] (sI M 82 ((M.1 81 l1.toNatClampNeg).toNatClampNeg) ((M.1 82 (M.1 81 l1.toNatClampNeg).toNatClampNeg) ||| (1 <<< (l1 &&& 31)))))))) (
    back 45 [some (vR 3 0 69), some (vI 0), some (vI 0)] M) := rfl
set_option maxRecDepth 100000 in
theorem e160_10 (d F : Nat) (l1 : Int32) (o2 : Option AV) (M : Mem) : lp d 160 (F + 1) 10 [some (vR 3 0 69), some (vI l1), o2] M =
  ic (l1 < M.1 69 5) (
    ic (l1 < 0 ∨ 4 ≤ l1.toNatClampNeg) none (
      ic (M.1 81 l1.toNatClampNeg < 0 ∨ 7 ≤ (M.1 81 l1.toNatClampNeg).toNatClampNeg) none (
        ic (M.1 81 l1.toNatClampNeg < 0 ∨ 7 ≤ (M.1 81 l1.toNatClampNeg).toNatClampNeg) none (
          lp d 160 F 10 [some (vR 3 0 69), some (vI (l1 + 1)), o2] (sI M 82 ((M.1 81 l1.toNatClampNeg).toNatClampNeg) ((M.1 82 (M.1 81 l1.toNatClampNeg).toNatClampNeg) ||| (1 <<< (l1 &&& 31)))))))) (
    lp d 160 F 45 [some (vR 3 0 69), some (vI 0), some (vI 0)] M) := ((evp_step (code := lkE (codT 160)) (hd := hdT 160) (call := evD d) (F := F) (pc := 10) (lv := [some (vR 3 0 69), some (vI l1), o2]) (M := M) (e := (.iload_n 1, 1, 1, 0, 0, 0, 0)) rfl).trans (g160_10 (evD d) (evp (lkE (codT 160)) (hdT 160) (evD d) F) l1 o2 M))
set_option maxRecDepth 100000 in
theorem g160_45 (call : Nat → List AV → Mem → Res) (back : Nat → Lv → Mem → Res) (l1 : Int32) (l2 : Int32) (M : Mem) : stepK call back (evj (lkE cd_160) [10, 45] call back 4000) (.iload_n 2, 1, 2, 0, 0, 0, 0) 45 [some (vR 3 0 69), some (vI l1), some (vI l2)] [] M =
  ic (l2 < M.1 69 7) (
    ic (l2 < 0 ∨ 6 ≤ l2.toNatClampNeg) none (
      ic (l2 < 0 ∨ 7 ≤ l2.toNatClampNeg) none (
        ic (M.1 82 l2.toNatClampNeg < 0 ∨ 16 ≤ (M.1 82 l2.toNatClampNeg).toNatClampNeg) none (
          back 45 [some (vR 3 0 69), some (vI (l1 + (M.1 (74 + 1 + l2.toNatClampNeg) (M.1 82 l2.toNatClampNeg).toNatClampNeg))), some (vI (l2 + 1))] M)))) (
    some (some (vI l1), M)) := rfl
set_option maxRecDepth 100000 in
theorem e160_45 (d F : Nat) (l1 : Int32) (l2 : Int32) (M : Mem) : lp d 160 (F + 1) 45 [some (vR 3 0 69), some (vI l1), some (vI l2)] M =
  ic (l2 < M.1 69 7) (
    ic (l2 < 0 ∨ 6 ≤ l2.toNatClampNeg) none (
      ic (l2 < 0 ∨ 7 ≤ l2.toNatClampNeg) none (
        ic (M.1 82 l2.toNatClampNeg < 0 ∨ 16 ≤ (M.1 82 l2.toNatClampNeg).toNatClampNeg) none (
          lp d 160 F 45 [some (vR 3 0 69), some (vI (l1 + (M.1 (74 + 1 + l2.toNatClampNeg) (M.1 82 l2.toNatClampNeg).toNatClampNeg))), some (vI (l2 + 1))] M)))) (
    some (some (vI l1), M)) := ((evp_step (code := lkE (codT 160)) (hd := hdT 160) (call := evD d) (F := F) (pc := 45) (lv := [some (vR 3 0 69), some (vI l1), some (vI l2)]) (M := M) (e := (.iload_n 2, 1, 2, 0, 0, 0, 0)) rfl).trans (g160_45 (evD d) (evp (lkE (codT 160)) (hdT 160) (evD d) F) l1 l2 M))
-- IceParliament$Planner keepRow()V
set_option maxRecDepth 100000 in
theorem j161 (call : Nat → List AV → Mem → Res) (back : Nat → Lv → Mem → Res)  (M : Mem) : evj (lkE cd_161) [2] call back 4000 0 [some (vR 3 0 69), none] [] M =
  back 2 [some (vR 3 0 69), some (vI 0)] M := rfl
set_option maxRecDepth 100000 in
theorem e161 (d : Nat)  (M : Mem) : evD (d + 1) 161 [vR 3 0 69] M =
  lp0 d 161 2 [some (vR 3 0 69), some (vI 0)] M := ((evD_step (d := d) (x := 161) (as := [vR 3 0 69]) (M := M) (md := (⟨"IceParliament$Planner", "keepRow", "()V"⟩, prog_5_method_10_code, 2, (Option.none : Option Jvm.ClassFile.FieldType), 3, 3)) rfl rfl).trans (j161 (evD d) (evp0 (lkE (codT 161)) (hdT 161) (evD d))  M))
set_option maxRecDepth 100000 in
theorem g161_2 (call : Nat → List AV → Mem → Res) (back : Nat → Lv → Mem → Res) (l1 : Int32) (M : Mem) : stepK call back (evj (lkE cd_161) [2] call back 4000) (.iload_n 1, 1, 1, 0, 0, 0, 0) 2 [some (vR 3 0 69), some (vI l1)] [] M =
  ic (l1 < M.1 69 5) (
    ic (l1 < 0 ∨ 4 ≤ l1.toNatClampNeg) none (
      ic (l1 < 0 ∨ 4 ≤ l1.toNatClampNeg) none (
        ic (M.1 81 l1.toNatClampNeg < M.1 69 7) (
          ic (l1 < 0 ∨ 4 ≤ l1.toNatClampNeg) none (
            ic (M.1 81 l1.toNatClampNeg < 0 ∨ 6 ≤ (M.1 81 l1.toNatClampNeg).toNatClampNeg) none (
              ic (M.1 72 l1.toNatClampNeg < 0 ∨ 6 ≤ (M.1 72 l1.toNatClampNeg).toNatClampNeg) none (
                back 2 [some (vR 3 0 69), some (vI (l1 + 1))] (sI M 70 ((M.1 72 l1.toNatClampNeg).toNatClampNeg) (M.1 73 (M.1 81 l1.toNatClampNeg).toNatClampNeg)))))) (
          ic (M.1 72 l1.toNatClampNeg < 0 ∨ 6 ≤ (M.1 72 l1.toNatClampNeg).toNatClampNeg) none (
            back 2 [some (vR 3 0 69), some (vI (l1 + 1))] (sI M 70 ((M.1 72 l1.toNatClampNeg).toNatClampNeg) (-1))))))) (
    some (none, M)) := rfl
set_option maxRecDepth 100000 in
theorem e161_2 (d F : Nat) (l1 : Int32) (M : Mem) : lp d 161 (F + 1) 2 [some (vR 3 0 69), some (vI l1)] M =
  ic (l1 < M.1 69 5) (
    ic (l1 < 0 ∨ 4 ≤ l1.toNatClampNeg) none (
      ic (l1 < 0 ∨ 4 ≤ l1.toNatClampNeg) none (
        ic (M.1 81 l1.toNatClampNeg < M.1 69 7) (
          ic (l1 < 0 ∨ 4 ≤ l1.toNatClampNeg) none (
            ic (M.1 81 l1.toNatClampNeg < 0 ∨ 6 ≤ (M.1 81 l1.toNatClampNeg).toNatClampNeg) none (
              ic (M.1 72 l1.toNatClampNeg < 0 ∨ 6 ≤ (M.1 72 l1.toNatClampNeg).toNatClampNeg) none (
                lp d 161 F 2 [some (vR 3 0 69), some (vI (l1 + 1))] (sI M 70 ((M.1 72 l1.toNatClampNeg).toNatClampNeg) (M.1 73 (M.1 81 l1.toNatClampNeg).toNatClampNeg)))))) (
          ic (M.1 72 l1.toNatClampNeg < 0 ∨ 6 ≤ (M.1 72 l1.toNatClampNeg).toNatClampNeg) none (
            lp d 161 F 2 [some (vR 3 0 69), some (vI (l1 + 1))] (sI M 70 ((M.1 72 l1.toNatClampNeg).toNatClampNeg) (-1))))))) (
    some (none, M)) := ((evp_step (code := lkE (codT 161)) (hd := hdT 161) (call := evD d) (F := F) (pc := 2) (lv := [some (vR 3 0 69), some (vI l1)]) (M := M) (e := (.iload_n 1, 1, 1, 0, 0, 0, 0)) rfl).trans (g161_2 (evD d) (evp (lkE (codT 161)) (hdT 161) (evD d) F) l1 M))
-- IceParliament$Planner stepRow()V
set_option maxRecDepth 100000 in
theorem j162 (call : Nat → List AV → Mem → Res) (back : Nat → Lv → Mem → Res)  (M : Mem) : evj (lkE cd_162) [7] call back 4000 0 [some (vR 3 0 69), none] [] M =
  back 7 [some (vR 3 0 69), some (vI ((M.1 69 5) - 1))] M := rfl
set_option maxRecDepth 100000 in
theorem e162 (d : Nat)  (M : Mem) : evD (d + 1) 162 [vR 3 0 69] M =
  lp0 d 162 7 [some (vR 3 0 69), some (vI ((M.1 69 5) - 1))] M := ((evD_step (d := d) (x := 162) (as := [vR 3 0 69]) (M := M) (md := (⟨"IceParliament$Planner", "stepRow", "()V"⟩, prog_5_method_11_code, 2, (Option.none : Option Jvm.ClassFile.FieldType), 3, 3)) rfl rfl).trans (j162 (evD d) (evp0 (lkE (codT 162)) (hdT 162) (evD d))  M))
set_option maxRecDepth 100000 in
theorem g162_7 (call : Nat → List AV → Mem → Res) (back : Nat → Lv → Mem → Res) (l1 : Int32) (M : Mem) : stepK call back (evj (lkE cd_162) [7] call back 4000) (.iload_n 1, 1, 1, 0, 0, 0, 0) 7 [some (vR 3 0 69), some (vI l1)] [] M =
  ic (l1 < 0) (
    some (none, M)) (
    ic (l1 < 0 ∨ 4 ≤ l1.toNatClampNeg) none (
      ic (M.1 81 l1.toNatClampNeg < M.1 69 7) (
        ic (l1 < 0 ∨ 4 ≤ l1.toNatClampNeg) none (
          ic (l1 < 0 ∨ 4 ≤ l1.toNatClampNeg) none (
            some (none, sI M 81 l1.toNatClampNeg ((M.1 81 l1.toNatClampNeg) + 1))))) (
        ic (l1 < 0 ∨ 4 ≤ l1.toNatClampNeg) none (
          back 7 [some (vR 3 0 69), some (vI (l1 + (-1)))] (sI M 81 l1.toNatClampNeg 0))))) := rfl
set_option maxRecDepth 100000 in
theorem e162_7 (d F : Nat) (l1 : Int32) (M : Mem) : lp d 162 (F + 1) 7 [some (vR 3 0 69), some (vI l1)] M =
  ic (l1 < 0) (
    some (none, M)) (
    ic (l1 < 0 ∨ 4 ≤ l1.toNatClampNeg) none (
      ic (M.1 81 l1.toNatClampNeg < M.1 69 7) (
        ic (l1 < 0 ∨ 4 ≤ l1.toNatClampNeg) none (
          ic (l1 < 0 ∨ 4 ≤ l1.toNatClampNeg) none (
            some (none, sI M 81 l1.toNatClampNeg ((M.1 81 l1.toNatClampNeg) + 1))))) (
        ic (l1 < 0 ∨ 4 ≤ l1.toNatClampNeg) none (
          lp d 162 F 7 [some (vR 3 0 69), some (vI (l1 + (-1)))] (sI M 81 l1.toNatClampNeg 0))))) := ((evp_step (code := lkE (codT 162)) (hd := hdT 162) (call := evD d) (F := F) (pc := 7) (lv := [some (vR 3 0 69), some (vI l1)]) (M := M) (e := (.iload_n 1, 1, 1, 0, 0, 0, 0)) rfl).trans (g162_7 (evD d) (evp (lkE (codT 162)) (hdT 162) (evD d) F) l1 M))
-- IceParliament places(I)I
set_option maxRecDepth 100000 in
theorem j163 (call : Nat → List AV → Mem → Res) (back : Nat → Lv → Mem → Res) (p0 : Int32) (M : Mem) : evj (lkE cd_163) [] call back 4000 0 [some (vR 11 0 0), some (vI p0), none] [] M =
  ic (p0 = (-1)) (
    cIn (call 164 [vR 3 0 69] M) fun v2 M1 =>
    ic (p0 = (-1)) (
      some (some (vI v2), M1)) (
      ic (p0 < 0 ∨ 6 ≤ p0.toNatClampNeg) none (
        some (some (vI (M1.1 71 p0.toNatClampNeg)), M1)))) (
    cIn (call 94 [vR 11 0 0, vI p0] M) fun v4 M3 =>
    ic (v4 = 0) (
      some (some (vI (-2)), M3)) (
      cIn (call 164 [vR 3 0 69] M3) fun v6 M5 =>
      ic (p0 = (-1)) (
        some (some (vI v6), M5)) (
        ic (p0 < 0 ∨ 6 ≤ p0.toNatClampNeg) none (
          some (some (vI (M5.1 71 p0.toNatClampNeg)), M5))))) := rfl
set_option maxRecDepth 100000 in
theorem e163 (d : Nat) (p0 : Int32) (M : Mem) : evD (d + 1) 163 [vR 11 0 0, vI p0] M =
  ic (p0 = (-1)) (
    cIn (evD d 164 [vR 3 0 69] M) fun v2 M1 =>
    ic (p0 = (-1)) (
      some (some (vI v2), M1)) (
      ic (p0 < 0 ∨ 6 ≤ p0.toNatClampNeg) none (
        some (some (vI (M1.1 71 p0.toNatClampNeg)), M1)))) (
    cIn (evD d 94 [vR 11 0 0, vI p0] M) fun v4 M3 =>
    ic (v4 = 0) (
      some (some (vI (-2)), M3)) (
      cIn (evD d 164 [vR 3 0 69] M3) fun v6 M5 =>
      ic (p0 = (-1)) (
        some (some (vI v6), M5)) (
        ic (p0 < 0 ∨ 6 ≤ p0.toNatClampNeg) none (
          some (some (vI (M5.1 71 p0.toNatClampNeg)), M5))))) := ((evD_step (d := d) (x := 163) (as := [vR 11 0 0, vI p0]) (M := M) (md := (⟨"IceParliament", "places", "(I)I"⟩, prog_1_method_24_code, 3, (Option.some Jvm.ClassFile.FieldType.int), 11, 11)) rfl rfl).trans (j163 (evD d) (evp0 (lkE (codT 163)) (hdT 163) (evD d)) p0 M))
-- IceParliament$Planner findPlaces()I
set_option maxRecDepth 100000 in
theorem j164 (call : Nat → List AV → Mem → Res) (back : Nat → Lv → Mem → Res)  (M : Mem) : evj (lkE cd_164) [12] call back 4000 0 [some (vR 3 0 69), none, none] [] M =
  cVd (call 165 [vR 3 0 69] M) fun M1 =>
  cVd (call 166 [vR 3 0 69] M1) fun M2 =>
  back 12 [some (vR 3 0 69), some (vI 0), some (vI 0)] M2 := rfl
set_option maxRecDepth 100000 in
theorem e164 (d : Nat)  (M : Mem) : evD (d + 1) 164 [vR 3 0 69] M =
  cVd (evD d 165 [vR 3 0 69] M) fun M1 =>
  cVd (evD d 166 [vR 3 0 69] M1) fun M2 =>
  lp0 d 164 12 [some (vR 3 0 69), some (vI 0), some (vI 0)] M2 := ((evD_step (d := d) (x := 164) (as := [vR 3 0 69]) (M := M) (md := (⟨"IceParliament$Planner", "findPlaces", "()I"⟩, prog_5_method_12_code, 3, (Option.some Jvm.ClassFile.FieldType.int), 3, 3)) rfl rfl).trans (j164 (evD d) (evp0 (lkE (codT 164)) (hdT 164) (evD d))  M))
set_option maxRecDepth 100000 in
theorem g164_12 (call : Nat → List AV → Mem → Res) (back : Nat → Lv → Mem → Res) (l1 : Int32) (l2 : Int32) (M : Mem) : stepK call back (evj (lkE cd_164) [12] call back 4000) (.iload_n 2, 1, 2, 0, 0, 0, 0) 12 [some (vR 3 0 69), some (vI l1), some (vI l2)] [] M =
  ic (l2 < M.1 8 0) (
    cIn (call 167 [vR 3 0 69, vI l2, vI l1] M) fun v2 M1 =>
    ic (l2 < 0 ∨ 6 ≤ l2.toNatClampNeg) none (
      ic (l2 < 0 ∨ 6 ≤ l2.toNatClampNeg) none (
        ic ((sI M1 71 l2.toNatClampNeg v2).1 71 l2.toNatClampNeg = (-1)) (
          back 12 [some (vR 3 0 69), some (vI (l1 ||| 0)), some (vI (l2 + 1))] (sI M1 71 l2.toNatClampNeg v2)) (
          ic (l2 < 0 ∨ 6 ≤ l2.toNatClampNeg) none (
            back 12 [some (vR 3 0 69), some (vI (l1 ||| (1 <<< (((sI M1 71 l2.toNatClampNeg v2).1 71 l2.toNatClampNeg) &&& 31)))), some (vI (l2 + 1))] (sI M1 71 l2.toNatClampNeg v2)))))) (
    ic ((0 : Int32) < 0 ∨ 7 ≤ (0 : Int32).toNatClampNeg) none (
      ic ((0 : Int32) < 0 ∨ 64 ≤ (0 : Int32).toNatClampNeg) none (
        ic ((1000 : Int32) = 0) none (
          some (some (vI ((M.1 (90 + 1 + (0 : Int32).toNatClampNeg) (0 : Int32).toNatClampNeg) - (M.1 (90 + 1 + (0 : Int32).toNatClampNeg) (0 : Int32).toNatClampNeg) / 1000 * 1000)), M))))) := rfl
set_option maxRecDepth 100000 in
theorem e164_12 (d F : Nat) (l1 : Int32) (l2 : Int32) (M : Mem) : lp d 164 (F + 1) 12 [some (vR 3 0 69), some (vI l1), some (vI l2)] M =
  ic (l2 < M.1 8 0) (
    cIn (evD d 167 [vR 3 0 69, vI l2, vI l1] M) fun v2 M1 =>
    ic (l2 < 0 ∨ 6 ≤ l2.toNatClampNeg) none (
      ic (l2 < 0 ∨ 6 ≤ l2.toNatClampNeg) none (
        ic ((sI M1 71 l2.toNatClampNeg v2).1 71 l2.toNatClampNeg = (-1)) (
          lp d 164 F 12 [some (vR 3 0 69), some (vI (l1 ||| 0)), some (vI (l2 + 1))] (sI M1 71 l2.toNatClampNeg v2)) (
          ic (l2 < 0 ∨ 6 ≤ l2.toNatClampNeg) none (
            lp d 164 F 12 [some (vR 3 0 69), some (vI (l1 ||| (1 <<< (((sI M1 71 l2.toNatClampNeg v2).1 71 l2.toNatClampNeg) &&& 31)))), some (vI (l2 + 1))] (sI M1 71 l2.toNatClampNeg v2)))))) (
    some (some (vI ((M.1 (90 + 1 + 0) 0) - (M.1 (90 + 1 + 0) 0) / 1000 * 1000)), M)) := ((evp_step (code := lkE (codT 164)) (hd := hdT 164) (call := evD d) (F := F) (pc := 12) (lv := [some (vR 3 0 69), some (vI l1), some (vI l2)]) (M := M) (e := (.iload_n 2, 1, 2, 0, 0, 0, 0)) rfl).trans (g164_12 (evD d) (evp (lkE (codT 164)) (hdT 164) (evD d) F) l1 l2 M)).trans (by (try simp only [ic_f (show ¬ ((0 : Int32) < 0 ∨ 7 ≤ (0 : Int32).toNatClampNeg) by decide), ic_f (show ¬ ((0 : Int32) < 0 ∨ 64 ≤ (0 : Int32).toNatClampNeg) by decide), ic_f (show ¬ ((1000 : Int32) = 0) by decide)]); (try simp only [show (0 : Int32).toNatClampNeg = 0 from rfl]))
-- IceParliament$Planner fillGains()V
set_option maxRecDepth 100000 in
theorem j165 (call : Nat → List AV → Mem → Res) (back : Nat → Lv → Mem → Res)  (M : Mem) : evj (lkE cd_165) [2, 18] call back 4000 0 [some (vR 3 0 69), none, none] [] M =
  back 2 [some (vR 3 0 69), some (vI 0), none] M := rfl
set_option maxRecDepth 100000 in
theorem e165 (d : Nat)  (M : Mem) : evD (d + 1) 165 [vR 3 0 69] M =
  lp0 d 165 2 [some (vR 3 0 69), some (vI 0), none] M := ((evD_step (d := d) (x := 165) (as := [vR 3 0 69]) (M := M) (md := (⟨"IceParliament$Planner", "fillGains", "()V"⟩, prog_5_method_14_code, 3, (Option.none : Option Jvm.ClassFile.FieldType), 3, 3)) rfl rfl).trans (j165 (evD d) (evp0 (lkE (codT 165)) (hdT 165) (evD d))  M))
set_option maxRecDepth 100000 in
theorem g165_2 (call : Nat → List AV → Mem → Res) (back : Nat → Lv → Mem → Res) (l1 : Int32) (o2 : Option AV) (M : Mem) : stepK call back (evj (lkE cd_165) [2, 18] call back 4000) (.iload_n 1, 1, 1, 0, 0, 0, 0) 2 [some (vR 3 0 69), some (vI l1), o2] [] M =
  ic (l1 < M.1 8 0) (
    back 18 [some (vR 3 0 69), some (vI l1), some (vI 0)] M) (
    some (none, M)) := rfl
set_option maxRecDepth 100000 in
theorem e165_2 (d F : Nat) (l1 : Int32) (o2 : Option AV) (M : Mem) : lp d 165 (F + 1) 2 [some (vR 3 0 69), some (vI l1), o2] M =
  ic (l1 < M.1 8 0) (
    lp d 165 F 18 [some (vR 3 0 69), some (vI l1), some (vI 0)] M) (
    some (none, M)) := ((evp_step (code := lkE (codT 165)) (hd := hdT 165) (call := evD d) (F := F) (pc := 2) (lv := [some (vR 3 0 69), some (vI l1), o2]) (M := M) (e := (.iload_n 1, 1, 1, 0, 0, 0, 0)) rfl).trans (g165_2 (evD d) (evp (lkE (codT 165)) (hdT 165) (evD d) F) l1 o2 M))
set_option maxRecDepth 100000 in
theorem g165_18 (call : Nat → List AV → Mem → Res) (back : Nat → Lv → Mem → Res) (l1 : Int32) (l2 : Int32) (M : Mem) : stepK call back (evj (lkE cd_165) [2, 18] call back 4000) (.iload_n 2, 1, 2, 0, 0, 0, 0) 18 [some (vR 3 0 69), some (vI l1), some (vI l2)] [] M =
  ic (l2 < M.1 4 0) (
    ic (l1 < 0 ∨ 6 ≤ l1.toNatClampNeg) none (
      cIn (call 118 [vR 6 0 60, vI l1, vI l2] M) fun v2 M1 =>
      ic (v2 = 0) (
        ic (l2 < 0 ∨ 6 ≤ l2.toNatClampNeg) none (
          back 18 [some (vR 3 0 69), some (vI l1), some (vI (l2 + 1))] (sI M1 (83 + 1 + l1.toNatClampNeg) l2.toNatClampNeg 0))) (
        ic (l1 < 0 ∨ 6 ≤ l1.toNatClampNeg) none (
          cIn (call 148 [vR 9 0 3, vI l1, vI l2, vI (M1.1 14 l1.toNatClampNeg), vI 0, vI (M1.1 60 0), vI 40] M1) fun v4 M3 =>
          ic (l2 < 0 ∨ 6 ≤ l2.toNatClampNeg) none (
            back 18 [some (vR 3 0 69), some (vI l1), some (vI (l2 + 1))] (sI M3 (83 + 1 + l1.toNatClampNeg) l2.toNatClampNeg (1000 + v4))))))) (
    back 2 [some (vR 3 0 69), some (vI (l1 + 1)), some (vI l2)] M) := rfl
set_option maxRecDepth 100000 in
theorem e165_18 (d F : Nat) (l1 : Int32) (l2 : Int32) (M : Mem) : lp d 165 (F + 1) 18 [some (vR 3 0 69), some (vI l1), some (vI l2)] M =
  ic (l2 < M.1 4 0) (
    ic (l1 < 0 ∨ 6 ≤ l1.toNatClampNeg) none (
      cIn (evD d 118 [vR 6 0 60, vI l1, vI l2] M) fun v2 M1 =>
      ic (v2 = 0) (
        ic (l2 < 0 ∨ 6 ≤ l2.toNatClampNeg) none (
          lp d 165 F 18 [some (vR 3 0 69), some (vI l1), some (vI (l2 + 1))] (sI M1 (83 + 1 + l1.toNatClampNeg) l2.toNatClampNeg 0))) (
        ic (l1 < 0 ∨ 6 ≤ l1.toNatClampNeg) none (
          cIn (evD d 148 [vR 9 0 3, vI l1, vI l2, vI (M1.1 14 l1.toNatClampNeg), vI 0, vI (M1.1 60 0), vI 40] M1) fun v4 M3 =>
          ic (l2 < 0 ∨ 6 ≤ l2.toNatClampNeg) none (
            lp d 165 F 18 [some (vR 3 0 69), some (vI l1), some (vI (l2 + 1))] (sI M3 (83 + 1 + l1.toNatClampNeg) l2.toNatClampNeg (1000 + v4))))))) (
    lp d 165 F 2 [some (vR 3 0 69), some (vI (l1 + 1)), some (vI l2)] M) := ((evp_step (code := lkE (codT 165)) (hd := hdT 165) (call := evD d) (F := F) (pc := 18) (lv := [some (vR 3 0 69), some (vI l1), some (vI l2)]) (M := M) (e := (.iload_n 2, 1, 2, 0, 0, 0, 0)) rfl).trans (g165_18 (evD d) (evp (lkE (codT 165)) (hdT 165) (evD d) F) l1 l2 M))
-- IceParliament$Planner fillBest()V
set_option maxRecDepth 100000 in
theorem j166 (call : Nat → List AV → Mem → Res) (back : Nat → Lv → Mem → Res)  (M : Mem) : evj (lkE cd_166) [45, 51, 71] call back 4000 0 [some (vR 3 0 69), none, none, none, none, none] [] M =
  ic (M.1 8 0 < 0 ∨ 7 ≤ (M.1 8 0).toNatClampNeg) none (
    cVd (call 2 [vR 20 64 (90 + 1 + (M.1 8 0).toNatClampNeg), vI 0] M) fun M1 =>
    back 45 [some (vR 3 0 69), some (vI (1 <<< ((M.1 4 0) &&& 31))), some (vI ((M1.1 8 0) - 1)), none, none, none] M1) := rfl
set_option maxRecDepth 100000 in
theorem e166 (d : Nat)  (M : Mem) : evD (d + 1) 166 [vR 3 0 69] M =
  ic (M.1 8 0 < 0 ∨ 7 ≤ (M.1 8 0).toNatClampNeg) none (
    cVd (evD d 2 [vR 20 64 (90 + 1 + (M.1 8 0).toNatClampNeg), vI 0] M) fun M1 =>
    lp0 d 166 45 [some (vR 3 0 69), some (vI (1 <<< ((M.1 4 0) &&& 31))), some (vI ((M1.1 8 0) - 1)), none, none, none] M1) := ((evD_step (d := d) (x := 166) (as := [vR 3 0 69]) (M := M) (md := (⟨"IceParliament$Planner", "fillBest", "()V"⟩, prog_5_method_15_code, 6, (Option.none : Option Jvm.ClassFile.FieldType), 3, 3)) rfl rfl).trans (j166 (evD d) (evp0 (lkE (codT 166)) (hdT 166) (evD d))  M))
set_option maxRecDepth 100000 in
theorem g166_45 (call : Nat → List AV → Mem → Res) (back : Nat → Lv → Mem → Res) (l1 : Int32) (l2 : Int32) (o3 : Option AV) (o4 : Option AV) (o5 : Option AV) (M : Mem) : stepK call back (evj (lkE cd_166) [45, 51, 71] call back 4000) (.iload_n 2, 1, 2, 0, 0, 0, 0) 45 [some (vR 3 0 69), some (vI l1), some (vI l2), o3, o4, o5] [] M =
  ic (l2 < 0) (
    some (none, M)) (
    back 51 [some (vR 3 0 69), some (vI l1), some (vI l2), some (vI 0), o4, o5] M) := rfl
set_option maxRecDepth 100000 in
theorem e166_45 (d F : Nat) (l1 : Int32) (l2 : Int32) (o3 : Option AV) (o4 : Option AV) (o5 : Option AV) (M : Mem) : lp d 166 (F + 1) 45 [some (vR 3 0 69), some (vI l1), some (vI l2), o3, o4, o5] M =
  ic (l2 < 0) (
    some (none, M)) (
    lp d 166 F 51 [some (vR 3 0 69), some (vI l1), some (vI l2), some (vI 0), o4, o5] M) := ((evp_step (code := lkE (codT 166)) (hd := hdT 166) (call := evD d) (F := F) (pc := 45) (lv := [some (vR 3 0 69), some (vI l1), some (vI l2), o3, o4, o5]) (M := M) (e := (.iload_n 2, 1, 2, 0, 0, 0, 0)) rfl).trans (g166_45 (evD d) (evp (lkE (codT 166)) (hdT 166) (evD d) F) l1 l2 o3 o4 o5 M))
set_option maxRecDepth 100000 in
theorem g166_51 (call : Nat → List AV → Mem → Res) (back : Nat → Lv → Mem → Res) (l1 : Int32) (l2 : Int32) (l3 : Int32) (o4 : Option AV) (o5 : Option AV) (M : Mem) : stepK call back (evj (lkE cd_166) [45, 51, 71] call back 4000) (.iload_n 3, 1, 3, 0, 0, 0, 0) 51 [some (vR 3 0 69), some (vI l1), some (vI l2), some (vI l3), o4, o5] [] M =
  ic (l3 < l1) (
    ic (l2 + 1 < 0 ∨ 7 ≤ (l2 + 1).toNatClampNeg) none (
      ic (l3 < 0 ∨ 64 ≤ l3.toNatClampNeg) none (
        back 71 [some (vR 3 0 69), some (vI l1), some (vI l2), some (vI l3), some (vI (M.1 (90 + 1 + (l2 + 1).toNatClampNeg) l3.toNatClampNeg)), some (vI 0)] M))) (
    back 45 [some (vR 3 0 69), some (vI l1), some (vI (l2 + (-1))), some (vI l3), o4, o5] M) := rfl
set_option maxRecDepth 100000 in
theorem e166_51 (d F : Nat) (l1 : Int32) (l2 : Int32) (l3 : Int32) (o4 : Option AV) (o5 : Option AV) (M : Mem) : lp d 166 (F + 1) 51 [some (vR 3 0 69), some (vI l1), some (vI l2), some (vI l3), o4, o5] M =
  ic (l3 < l1) (
    ic (l2 + 1 < 0 ∨ 7 ≤ (l2 + 1).toNatClampNeg) none (
      ic (l3 < 0 ∨ 64 ≤ l3.toNatClampNeg) none (
        lp d 166 F 71 [some (vR 3 0 69), some (vI l1), some (vI l2), some (vI l3), some (vI (M.1 (90 + 1 + (l2 + 1).toNatClampNeg) l3.toNatClampNeg)), some (vI 0)] M))) (
    lp d 166 F 45 [some (vR 3 0 69), some (vI l1), some (vI (l2 + (-1))), some (vI l3), o4, o5] M) := ((evp_step (code := lkE (codT 166)) (hd := hdT 166) (call := evD d) (F := F) (pc := 51) (lv := [some (vR 3 0 69), some (vI l1), some (vI l2), some (vI l3), o4, o5]) (M := M) (e := (.iload_n 3, 1, 3, 0, 0, 0, 0)) rfl).trans (g166_51 (evD d) (evp (lkE (codT 166)) (hdT 166) (evD d) F) l1 l2 l3 o4 o5 M))
set_option maxRecDepth 100000 in
theorem g166_71 (call : Nat → List AV → Mem → Res) (back : Nat → Lv → Mem → Res) (l1 : Int32) (l2 : Int32) (l3 : Int32) (l4 : Int32) (l5 : Int32) (M : Mem) : stepK call back (evj (lkE cd_166) [45, 51, 71] call back 4000) (.iload 5, 2, 5, 0, 0, 0, 0) 71 [some (vR 3 0 69), some (vI l1), some (vI l2), some (vI l3), some (vI l4), some (vI l5)] [] M =
  ic (l5 < M.1 4 0) (
    ic (l2 < 0 ∨ 6 ≤ l2.toNatClampNeg) none (
      ic (l5 < 0 ∨ 6 ≤ l5.toNatClampNeg) none (
        ic (0 < M.1 (83 + 1 + l2.toNatClampNeg) l5.toNatClampNeg) (
          cIn (call 64 [vI l3, vI l5] M) fun v2 M1 =>
          ic (v2 = 0) (
            ic (l2 < 0 ∨ 6 ≤ l2.toNatClampNeg) none (
              ic (l5 < 0 ∨ 6 ≤ l5.toNatClampNeg) none (
                ic (l2 + 1 < 0 ∨ 7 ≤ (l2 + 1).toNatClampNeg) none (
                  ic (l3 ||| (1 <<< (l5 &&& 31)) < 0 ∨ 64 ≤ (l3 ||| (1 <<< (l5 &&& 31))).toNatClampNeg) none (
                    cIn (call 21 [vI l4, vI ((M1.1 (83 + 1 + l2.toNatClampNeg) l5.toNatClampNeg) + (M1.1 (90 + 1 + (l2 + 1).toNatClampNeg) (l3 ||| (1 <<< (l5 &&& 31))).toNatClampNeg))] M1) fun v4 M3 =>
                    back 71 [some (vR 3 0 69), some (vI l1), some (vI l2), some (vI l3), some (vI v4), some (vI (l5 + 1))] M3))))) (
            back 71 [some (vR 3 0 69), some (vI l1), some (vI l2), some (vI l3), some (vI l4), some (vI (l5 + 1))] M1)) (
          back 71 [some (vR 3 0 69), some (vI l1), some (vI l2), some (vI l3), some (vI l4), some (vI (l5 + 1))] M)))) (
    ic (l2 < 0 ∨ 7 ≤ l2.toNatClampNeg) none (
      ic (l3 < 0 ∨ 64 ≤ l3.toNatClampNeg) none (
        back 51 [some (vR 3 0 69), some (vI l1), some (vI l2), some (vI (l3 + 1)), some (vI l4), some (vI l5)] (sI M (90 + 1 + l2.toNatClampNeg) l3.toNatClampNeg l4)))) := rfl
set_option maxRecDepth 100000 in
theorem e166_71 (d F : Nat) (l1 : Int32) (l2 : Int32) (l3 : Int32) (l4 : Int32) (l5 : Int32) (M : Mem) : lp d 166 (F + 1) 71 [some (vR 3 0 69), some (vI l1), some (vI l2), some (vI l3), some (vI l4), some (vI l5)] M =
  ic (l5 < M.1 4 0) (
    ic (l2 < 0 ∨ 6 ≤ l2.toNatClampNeg) none (
      ic (l5 < 0 ∨ 6 ≤ l5.toNatClampNeg) none (
        ic (0 < M.1 (83 + 1 + l2.toNatClampNeg) l5.toNatClampNeg) (
          cIn (evD d 64 [vI l3, vI l5] M) fun v2 M1 =>
          ic (v2 = 0) (
            ic (l2 < 0 ∨ 6 ≤ l2.toNatClampNeg) none (
              ic (l5 < 0 ∨ 6 ≤ l5.toNatClampNeg) none (
                ic (l2 + 1 < 0 ∨ 7 ≤ (l2 + 1).toNatClampNeg) none (
                  ic (l3 ||| (1 <<< (l5 &&& 31)) < 0 ∨ 64 ≤ (l3 ||| (1 <<< (l5 &&& 31))).toNatClampNeg) none (
                    cIn (evD d 21 [vI l4, vI ((M1.1 (83 + 1 + l2.toNatClampNeg) l5.toNatClampNeg) + (M1.1 (90 + 1 + (l2 + 1).toNatClampNeg) (l3 ||| (1 <<< (l5 &&& 31))).toNatClampNeg))] M1) fun v4 M3 =>
                    lp d 166 F 71 [some (vR 3 0 69), some (vI l1), some (vI l2), some (vI l3), some (vI v4), some (vI (l5 + 1))] M3))))) (
            lp d 166 F 71 [some (vR 3 0 69), some (vI l1), some (vI l2), some (vI l3), some (vI l4), some (vI (l5 + 1))] M1)) (
          lp d 166 F 71 [some (vR 3 0 69), some (vI l1), some (vI l2), some (vI l3), some (vI l4), some (vI (l5 + 1))] M)))) (
    ic (l2 < 0 ∨ 7 ≤ l2.toNatClampNeg) none (
      ic (l3 < 0 ∨ 64 ≤ l3.toNatClampNeg) none (
        lp d 166 F 51 [some (vR 3 0 69), some (vI l1), some (vI l2), some (vI (l3 + 1)), some (vI l4), some (vI l5)] (sI M (90 + 1 + l2.toNatClampNeg) l3.toNatClampNeg l4)))) := ((evp_step (code := lkE (codT 166)) (hd := hdT 166) (call := evD d) (F := F) (pc := 71) (lv := [some (vR 3 0 69), some (vI l1), some (vI l2), some (vI l3), some (vI l4), some (vI l5)]) (M := M) (e := (.iload 5, 2, 5, 0, 0, 0, 0)) rfl).trans (g166_71 (evD d) (evp (lkE (codT 166)) (hdT 166) (evD d) F) l1 l2 l3 l4 l5 M))
-- IceParliament$Planner firstPlace(II)I
set_option maxRecDepth 100000 in
theorem j167 (call : Nat → List AV → Mem → Res) (back : Nat → Lv → Mem → Res) (p0 : Int32) (p1 : Int32) (M : Mem) : evj (lkE cd_167) [2] call back 4000 0 [some (vR 3 0 69), some (vI p0), some (vI p1), none] [] M =
  back 2 [some (vR 3 0 69), some (vI p0), some (vI p1), some (vI 0)] M := rfl
set_option maxRecDepth 100000 in
theorem e167 (d : Nat) (p0 : Int32) (p1 : Int32) (M : Mem) : evD (d + 1) 167 [vR 3 0 69, vI p0, vI p1] M =
  lp0 d 167 2 [some (vR 3 0 69), some (vI p0), some (vI p1), some (vI 0)] M := ((evD_step (d := d) (x := 167) (as := [vR 3 0 69, vI p0, vI p1]) (M := M) (md := (⟨"IceParliament$Planner", "firstPlace", "(II)I"⟩, prog_5_method_13_code, 4, (Option.some Jvm.ClassFile.FieldType.int), 3, 3)) rfl rfl).trans (j167 (evD d) (evp0 (lkE (codT 167)) (hdT 167) (evD d)) p0 p1 M))
set_option maxRecDepth 100000 in
theorem g167_2 (call : Nat → List AV → Mem → Res) (back : Nat → Lv → Mem → Res) (l1 : Int32) (l2 : Int32) (l3 : Int32) (M : Mem) : stepK call back (evj (lkE cd_167) [2] call back 4000) (.iload_n 3, 1, 3, 0, 0, 0, 0) 2 [some (vR 3 0 69), some (vI l1), some (vI l2), some (vI l3)] [] M =
  ic (l3 < M.1 4 0) (
    ic (l1 < 0 ∨ 6 ≤ l1.toNatClampNeg) none (
      ic (l3 < 0 ∨ 6 ≤ l3.toNatClampNeg) none (
        ic (0 < M.1 (83 + 1 + l1.toNatClampNeg) l3.toNatClampNeg) (
          cIn (call 64 [vI l2, vI l3] M) fun v2 M1 =>
          ic (v2 = 0) (
            ic (l1 < 0 ∨ 6 ≤ l1.toNatClampNeg) none (
              ic (l3 < 0 ∨ 6 ≤ l3.toNatClampNeg) none (
                ic (l1 + 1 < 0 ∨ 7 ≤ (l1 + 1).toNatClampNeg) none (
                  ic (l2 ||| (1 <<< (l3 &&& 31)) < 0 ∨ 64 ≤ (l2 ||| (1 <<< (l3 &&& 31))).toNatClampNeg) none (
                    ic (l1 < 0 ∨ 7 ≤ l1.toNatClampNeg) none (
                      ic (l2 < 0 ∨ 64 ≤ l2.toNatClampNeg) none (
                        ic ((M1.1 (83 + 1 + l1.toNatClampNeg) l3.toNatClampNeg) + (M1.1 (90 + 1 + (l1 + 1).toNatClampNeg) (l2 ||| (1 <<< (l3 &&& 31))).toNatClampNeg) = M1.1 (90 + 1 + l1.toNatClampNeg) l2.toNatClampNeg) (
                          some (some (vI l3), M1)) (
                          back 2 [some (vR 3 0 69), some (vI l1), some (vI l2), some (vI (l3 + 1))] M1)))))))) (
            back 2 [some (vR 3 0 69), some (vI l1), some (vI l2), some (vI (l3 + 1))] M1)) (
          back 2 [some (vR 3 0 69), some (vI l1), some (vI l2), some (vI (l3 + 1))] M)))) (
    some (some (vI (-1)), M)) := rfl
set_option maxRecDepth 100000 in
theorem e167_2 (d F : Nat) (l1 : Int32) (l2 : Int32) (l3 : Int32) (M : Mem) : lp d 167 (F + 1) 2 [some (vR 3 0 69), some (vI l1), some (vI l2), some (vI l3)] M =
  ic (l3 < M.1 4 0) (
    ic (l1 < 0 ∨ 6 ≤ l1.toNatClampNeg) none (
      ic (l3 < 0 ∨ 6 ≤ l3.toNatClampNeg) none (
        ic (0 < M.1 (83 + 1 + l1.toNatClampNeg) l3.toNatClampNeg) (
          cIn (evD d 64 [vI l2, vI l3] M) fun v2 M1 =>
          ic (v2 = 0) (
            ic (l1 < 0 ∨ 6 ≤ l1.toNatClampNeg) none (
              ic (l3 < 0 ∨ 6 ≤ l3.toNatClampNeg) none (
                ic (l1 + 1 < 0 ∨ 7 ≤ (l1 + 1).toNatClampNeg) none (
                  ic (l2 ||| (1 <<< (l3 &&& 31)) < 0 ∨ 64 ≤ (l2 ||| (1 <<< (l3 &&& 31))).toNatClampNeg) none (
                    ic (l1 < 0 ∨ 7 ≤ l1.toNatClampNeg) none (
                      ic (l2 < 0 ∨ 64 ≤ l2.toNatClampNeg) none (
                        ic ((M1.1 (83 + 1 + l1.toNatClampNeg) l3.toNatClampNeg) + (M1.1 (90 + 1 + (l1 + 1).toNatClampNeg) (l2 ||| (1 <<< (l3 &&& 31))).toNatClampNeg) = M1.1 (90 + 1 + l1.toNatClampNeg) l2.toNatClampNeg) (
                          some (some (vI l3), M1)) (
                          lp d 167 F 2 [some (vR 3 0 69), some (vI l1), some (vI l2), some (vI (l3 + 1))] M1)))))))) (
            lp d 167 F 2 [some (vR 3 0 69), some (vI l1), some (vI l2), some (vI (l3 + 1))] M1)) (
          lp d 167 F 2 [some (vR 3 0 69), some (vI l1), some (vI l2), some (vI (l3 + 1))] M)))) (
    some (some (vI (-1)), M)) := ((evp_step (code := lkE (codT 167)) (hd := hdT 167) (call := evD d) (F := F) (pc := 2) (lv := [some (vR 3 0 69), some (vI l1), some (vI l2), some (vI l3)]) (M := M) (e := (.iload_n 3, 1, 3, 0, 0, 0, 0)) rfl).trans (g167_2 (evD d) (evp (lkE (codT 167)) (hdT 167) (evD d) F) l1 l2 l3 M))
-- IceParliament thin(III)I
set_option maxRecDepth 100000 in
theorem j168 (call : Nat → List AV → Mem → Res) (back : Nat → Lv → Mem → Res) (p0 : Int32) (p1 : Int32) (p2 : Int32) (M : Mem) : evj (lkE cd_168) [32] call back 4000 0 [some (vR 11 0 0), some (vI p0), some (vI p1), some (vI p2), none] [] M =
  cIn (call 94 [vR 11 0 0, vI p0] M) fun v2 M1 =>
  ic (v2 = 0) (
    some (some (vI (-1)), M1)) (
    cIn (call 117 [vR 11 0 0, vI p1] M1) fun v4 M3 =>
    ic (v4 = 0) (
      some (some (vI (-1)), M3)) (
      ic (p2 < 1) (
        some (some (vI (-1)), M3)) (
        ic (30 < p2) (
          some (some (vI (-1)), M3)) (
          back 32 [some (vR 11 0 0), some (vI p0), some (vI p1), some (vI p2), some (vI 1)] M3)))) := rfl
set_option maxRecDepth 100000 in
theorem e168 (d : Nat) (p0 : Int32) (p1 : Int32) (p2 : Int32) (M : Mem) : evD (d + 1) 168 [vR 11 0 0, vI p0, vI p1, vI p2] M =
  cIn (evD d 94 [vR 11 0 0, vI p0] M) fun v2 M1 =>
  ic (v2 = 0) (
    some (some (vI (-1)), M1)) (
    cIn (evD d 117 [vR 11 0 0, vI p1] M1) fun v4 M3 =>
    ic (v4 = 0) (
      some (some (vI (-1)), M3)) (
      ic (p2 < 1) (
        some (some (vI (-1)), M3)) (
        ic (30 < p2) (
          some (some (vI (-1)), M3)) (
          lp0 d 168 32 [some (vR 11 0 0), some (vI p0), some (vI p1), some (vI p2), some (vI 1)] M3)))) := ((evD_step (d := d) (x := 168) (as := [vR 11 0 0, vI p0, vI p1, vI p2]) (M := M) (md := (⟨"IceParliament", "thin", "(III)I"⟩, prog_1_method_25_code, 5, (Option.some Jvm.ClassFile.FieldType.int), 11, 11)) rfl rfl).trans (j168 (evD d) (evp0 (lkE (codT 168)) (hdT 168) (evD d)) p0 p1 p2 M))
set_option maxRecDepth 100000 in
theorem g168_32 (call : Nat → List AV → Mem → Res) (back : Nat → Lv → Mem → Res) (l1 : Int32) (l2 : Int32) (l3 : Int32) (l4 : Int32) (M : Mem) : stepK call back (evj (lkE cd_168) [32] call back 4000) (.iload 4, 2, 4, 0, 0, 0, 0) 32 [some (vR 11 0 0), some (vI l1), some (vI l2), some (vI l3), some (vI l4)] [] M =
  ic (40 < l4) (
    some (some (vI (-1)), M)) (
    cIn (call 148 [vR 9 0 3, vI l1, vI l2, vI l4, vI 0, vI (M.1 60 0), vI l3] M) fun v2 M1 =>
    ic (l3 < v2) (
      some (some (vI l4), M1)) (
      back 32 [some (vR 11 0 0), some (vI l1), some (vI l2), some (vI l3), some (vI (l4 + 1))] M1)) := rfl
set_option maxRecDepth 100000 in
theorem e168_32 (d F : Nat) (l1 : Int32) (l2 : Int32) (l3 : Int32) (l4 : Int32) (M : Mem) : lp d 168 (F + 1) 32 [some (vR 11 0 0), some (vI l1), some (vI l2), some (vI l3), some (vI l4)] M =
  ic (40 < l4) (
    some (some (vI (-1)), M)) (
    cIn (evD d 148 [vR 9 0 3, vI l1, vI l2, vI l4, vI 0, vI (M.1 60 0), vI l3] M) fun v2 M1 =>
    ic (l3 < v2) (
      some (some (vI l4), M1)) (
      lp d 168 F 32 [some (vR 11 0 0), some (vI l1), some (vI l2), some (vI l3), some (vI (l4 + 1))] M1)) := ((evp_step (code := lkE (codT 168)) (hd := hdT 168) (call := evD d) (F := F) (pc := 32) (lv := [some (vR 11 0 0), some (vI l1), some (vI l2), some (vI l3), some (vI l4)]) (M := M) (e := (.iload 4, 2, 4, 0, 0, 0, 0)) rfl).trans (g168_32 (evD d) (evp (lkE (codT 168)) (hdT 168) (evD d) F) l1 l2 l3 l4 M))
-- IceParliament stands(II)I
set_option maxRecDepth 100000 in
theorem j169 (call : Nat → List AV → Mem → Res) (back : Nat → Lv → Mem → Res) (p0 : Int32) (p1 : Int32) (M : Mem) : evj (lkE cd_169) [] call back 4000 0 [some (vR 11 0 0), some (vI p0), some (vI p1)] [] M =
  cIn (call 94 [vR 11 0 0, vI p0] M) fun v2 M1 =>
  ic (v2 = 0) (
    some (some (vI (-1)), M1)) (
    cIn (call 97 [vR 6 0 60, vI p0] M1) fun v4 M3 =>
    ic (v4 = 0) (
      some (some (vI (-1)), M3)) (
      ic (p1 < 1) (
        some (some (vI (-1)), M3)) (
        ic (8 < p1) (
          some (some (vI (-1)), M3)) (
          cIn (call 170 [vR 3 0 69, vI p0, vI p1] M3) fun v6 M5 =>
          some (some (vI v6), M5))))) := rfl
set_option maxRecDepth 100000 in
theorem e169 (d : Nat) (p0 : Int32) (p1 : Int32) (M : Mem) : evD (d + 1) 169 [vR 11 0 0, vI p0, vI p1] M =
  cIn (evD d 94 [vR 11 0 0, vI p0] M) fun v2 M1 =>
  ic (v2 = 0) (
    some (some (vI (-1)), M1)) (
    cIn (evD d 97 [vR 6 0 60, vI p0] M1) fun v4 M3 =>
    ic (v4 = 0) (
      some (some (vI (-1)), M3)) (
      ic (p1 < 1) (
        some (some (vI (-1)), M3)) (
        ic (8 < p1) (
          some (some (vI (-1)), M3)) (
          cIn (evD d 170 [vR 3 0 69, vI p0, vI p1] M3) fun v6 M5 =>
          some (some (vI v6), M5))))) := ((evD_step (d := d) (x := 169) (as := [vR 11 0 0, vI p0, vI p1]) (M := M) (md := (⟨"IceParliament", "stands", "(II)I"⟩, prog_1_method_26_code, 3, (Option.some Jvm.ClassFile.FieldType.int), 11, 11)) rfl rfl).trans (j169 (evD d) (evp0 (lkE (codT 169)) (hdT 169) (evD d)) p0 p1 M))
-- IceParliament$Planner chanceToStand(II)I
set_option maxRecDepth 100000 in
theorem j170 (call : Nat → List AV → Mem → Res) (back : Nat → Lv → Mem → Res) (p0 : Int32) (p1 : Int32) (M : Mem) : evj (lkE cd_170) [28, 130] call back 4000 0 [some (vR 3 0 69), some (vI p0), some (vI p1), none, none, none, none, none] [] M =
  cVd (call 171 [vR 23 21 98, vJ 0] M) fun M1 =>
  ic (p0 < 0 ∨ 6 ≤ p0.toNatClampNeg) none (
    ic (M1.1 61 p0.toNatClampNeg < 0 ∨ 21 ≤ (M1.1 61 p0.toNatClampNeg).toNatClampNeg) none (
      back 28 [some (vR 3 0 69), some (vI p0), some (vI p1), some (vJ 1), none, some (vI 0), none, none] (sJ M1 98 ((M1.1 61 p0.toNatClampNeg).toNatClampNeg) 1))) := rfl
set_option maxRecDepth 100000 in
theorem e170 (d : Nat) (p0 : Int32) (p1 : Int32) (M : Mem) : evD (d + 1) 170 [vR 3 0 69, vI p0, vI p1] M =
  cVd (evD d 171 [vR 23 21 98, vJ 0] M) fun M1 =>
  ic (p0 < 0 ∨ 6 ≤ p0.toNatClampNeg) none (
    ic (M1.1 61 p0.toNatClampNeg < 0 ∨ 21 ≤ (M1.1 61 p0.toNatClampNeg).toNatClampNeg) none (
      lp0 d 170 28 [some (vR 3 0 69), some (vI p0), some (vI p1), some (vJ 1), none, some (vI 0), none, none] (sJ M1 98 ((M1.1 61 p0.toNatClampNeg).toNatClampNeg) 1))) := ((evD_step (d := d) (x := 170) (as := [vR 3 0 69, vI p0, vI p1]) (M := M) (md := (⟨"IceParliament$Planner", "chanceToStand", "(II)I"⟩, prog_5_method_16_code, 8, (Option.some Jvm.ClassFile.FieldType.int), 3, 3)) rfl rfl).trans (j170 (evD d) (evp0 (lkE (codT 170)) (hdT 170) (evD d)) p0 p1 M))
set_option maxRecDepth 100000 in
theorem g170_28 (call : Nat → List AV → Mem → Res) (back : Nat → Lv → Mem → Res) (l1 : Int32) (l2 : Int32) (l3 : Int64) (l5 : Int32) (o6 : Option AV) (o7 : Option AV) (M : Mem) : stepK call back (evj (lkE cd_170) [28, 130] call back 4000) (.iload 5, 2, 5, 0, 0, 0, 0) 28 [some (vR 3 0 69), some (vI l1), some (vI l2), some (vJ l3), none, some (vI l5), o6, o7] [] M =
  ic (l5 < l2) (
    cIn (call 101 [vR 9 0 3, vI ((M.1 60 0) + l5)] M) fun v2 M1 =>
    cVd (call 171 [vR 23 21 99, vJ 0] M1) fun M3 =>
    cVd (call 172 [vR 3 0 69, vI l1, vI v2, vI (10 - (M3.1 3 15))] M3) fun M4 =>
    cVd (call 172 [vR 3 0 69, vI l1, vI (v2 + 3), vI (M4.1 3 15)] M4) fun M5 =>
    ic ((0 : Int32) < 0 ∨ (0 : Int32) < 0 ∨ Int32.ofNat 21 < 0 ∨ 21 < (0 : Int32).toNatClampNeg + (Int32.ofNat 21).toNatClampNeg ∨ 21 < (0 : Int32).toNatClampNeg + (Int32.ofNat 21).toNatClampNeg) none (
      back 28 [some (vR 3 0 69), some (vI l1), some (vI l2), some (vJ (l3 * 10)), none, some (vI (l5 + 1)), some (vI v2), o7] (cpJ M5 99 ((0 : Int32).toNatClampNeg) 98 ((0 : Int32).toNatClampNeg) ((Int32.ofNat 21).toNatClampNeg)))) (
    back 130 [some (vR 3 0 69), some (vI l1), some (vI l2), some (vJ l3), none, some (vJ 0), none, some (vI 1)] M) := rfl
set_option maxRecDepth 100000 in
theorem e170_28 (d F : Nat) (l1 : Int32) (l2 : Int32) (l3 : Int64) (l5 : Int32) (o6 : Option AV) (o7 : Option AV) (M : Mem) : lp d 170 (F + 1) 28 [some (vR 3 0 69), some (vI l1), some (vI l2), some (vJ l3), none, some (vI l5), o6, o7] M =
  ic (l5 < l2) (
    cIn (evD d 101 [vR 9 0 3, vI ((M.1 60 0) + l5)] M) fun v2 M1 =>
    cVd (evD d 171 [vR 23 21 99, vJ 0] M1) fun M3 =>
    cVd (evD d 172 [vR 3 0 69, vI l1, vI v2, vI (10 - (M3.1 3 15))] M3) fun M4 =>
    cVd (evD d 172 [vR 3 0 69, vI l1, vI (v2 + 3), vI (M4.1 3 15)] M4) fun M5 =>
    ic ((0 : Int32) < 0 ∨ (0 : Int32) < 0 ∨ Int32.ofNat 21 < 0 ∨ 21 < 0 + (Int32.ofNat 21).toNatClampNeg ∨ 21 < 0 + (Int32.ofNat 21).toNatClampNeg) none (
      lp d 170 F 28 [some (vR 3 0 69), some (vI l1), some (vI l2), some (vJ (l3 * 10)), none, some (vI (l5 + 1)), some (vI v2), o7] (cpJ M5 99 0 98 0 ((Int32.ofNat 21).toNatClampNeg)))) (
    lp d 170 F 130 [some (vR 3 0 69), some (vI l1), some (vI l2), some (vJ l3), none, some (vJ 0), none, some (vI 1)] M) := ((evp_step (code := lkE (codT 170)) (hd := hdT 170) (call := evD d) (F := F) (pc := 28) (lv := [some (vR 3 0 69), some (vI l1), some (vI l2), some (vJ l3), none, some (vI l5), o6, o7]) (M := M) (e := (.iload 5, 2, 5, 0, 0, 0, 0)) rfl).trans (g170_28 (evD d) (evp (lkE (codT 170)) (hdT 170) (evD d) F) l1 l2 l3 l5 o6 o7 M)).trans (by (try simp only [show (0 : Int32).toNatClampNeg = 0 from rfl]))
set_option maxRecDepth 100000 in
theorem g170_130 (call : Nat → List AV → Mem → Res) (back : Nat → Lv → Mem → Res) (o1 : Option AV) (o2 : Option AV) (l3 : Int64) (l5 : Int64) (l7 : Int32) (M : Mem) : stepK call back (evj (lkE cd_170) [28, 130] call back 4000) (.iload 7, 2, 7, 0, 0, 0, 0) 130 [some (vR 3 0 69), o1, o2, some (vJ l3), none, some (vJ l5), none, some (vI l7)] [] M =
  ic (l7 < Int32.ofNat 21) (
    ic (l7 < 0 ∨ 21 ≤ l7.toNatClampNeg) none (
      back 130 [some (vR 3 0 69), o1, o2, some (vJ l3), none, some (vJ (l5 + (M.2.1 98 l7.toNatClampNeg))), none, some (vI (l7 + 1))] M)) (
    ic (lg_cmp l3 1 < 0) (
      some (some (vI 0), M)) (
      ic (l3 = 0) none (
        some (some (vI (((l5 * 1000000) / l3).toInt32)), M)))) := rfl
set_option maxRecDepth 100000 in
theorem e170_130 (d F : Nat) (o1 : Option AV) (o2 : Option AV) (l3 : Int64) (l5 : Int64) (l7 : Int32) (M : Mem) : lp d 170 (F + 1) 130 [some (vR 3 0 69), o1, o2, some (vJ l3), none, some (vJ l5), none, some (vI l7)] M =
  ic (l7 < Int32.ofNat 21) (
    ic (l7 < 0 ∨ 21 ≤ l7.toNatClampNeg) none (
      lp d 170 F 130 [some (vR 3 0 69), o1, o2, some (vJ l3), none, some (vJ (l5 + (M.2.1 98 l7.toNatClampNeg))), none, some (vI (l7 + 1))] M)) (
    ic (lg_cmp l3 1 < 0) (
      some (some (vI 0), M)) (
      ic (l3 = 0) none (
        some (some (vI (((l5 * 1000000) / l3).toInt32)), M)))) := ((evp_step (code := lkE (codT 170)) (hd := hdT 170) (call := evD d) (F := F) (pc := 130) (lv := [some (vR 3 0 69), o1, o2, some (vJ l3), none, some (vJ l5), none, some (vI l7)]) (M := M) (e := (.iload 7, 2, 7, 0, 0, 0, 0)) rfl).trans (g170_130 (evD d) (evp (lkE (codT 170)) (hdT 170) (evD d) F) o1 o2 l3 l5 l7 M))
-- java/util/Arrays fill([JJ)V
set_option maxRecDepth 100000 in
theorem j171 (call : Nat → List AV → Mem → Res) (back : Nat → Lv → Mem → Res) (n0 : Nat) (k0 : Nat) (p1 : Int64) (M : Mem) : evj (lkE cd_171) [6] call back 4000 0 [some (vR 23 n0 k0), some (vJ p1), none, none, none] [] M =
  back 6 [some (vR 23 n0 k0), some (vJ p1), none, some (vI 0), some (vI (Int32.ofNat n0))] M := rfl
set_option maxRecDepth 100000 in
theorem e171 (d : Nat) (n0 : Nat) (k0 : Nat) (p1 : Int64) (M : Mem) : evD (d + 1) 171 [vR 23 n0 k0, vJ p1] M =
  lp0 d 171 6 [some (vR 23 n0 k0), some (vJ p1), none, some (vI 0), some (vI (Int32.ofNat n0))] M := ((evD_step (d := d) (x := 171) (as := [vR 23 n0 k0, vJ p1]) (M := M) (md := (⟨"java/util/Arrays", "fill", "([JJ)V"⟩, prog_30_method_101_code, 5, (Option.none : Option Jvm.ClassFile.FieldType), 18, 99)) rfl rfl).trans (j171 (evD d) (evp0 (lkE (codT 171)) (hdT 171) (evD d)) n0 k0 p1 M))
set_option maxRecDepth 100000 in
theorem g171_6 (call : Nat → List AV → Mem → Res) (back : Nat → Lv → Mem → Res) (n0 : Nat) (k0 : Nat) (l1 : Int64) (l3 : Int32) (l4 : Int32) (M : Mem) : stepK call back (evj (lkE cd_171) [6] call back 4000) (.iload_n 3, 1, 3, 0, 0, 0, 0) 6 [some (vR 23 n0 k0), some (vJ l1), none, some (vI l3), some (vI l4)] [] M =
  ic (l3 < l4) (
    ic (l3 < 0 ∨ n0 ≤ l3.toNatClampNeg) none (
      back 6 [some (vR 23 n0 k0), some (vJ l1), none, some (vI (l3 + 1)), some (vI l4)] (sJ M k0 l3.toNatClampNeg l1))) (
    some (none, M)) := rfl
set_option maxRecDepth 100000 in
theorem e171_6 (d F : Nat) (n0 : Nat) (k0 : Nat) (l1 : Int64) (l3 : Int32) (l4 : Int32) (M : Mem) : lp d 171 (F + 1) 6 [some (vR 23 n0 k0), some (vJ l1), none, some (vI l3), some (vI l4)] M =
  ic (l3 < l4) (
    ic (l3 < 0 ∨ n0 ≤ l3.toNatClampNeg) none (
      lp d 171 F 6 [some (vR 23 n0 k0), some (vJ l1), none, some (vI (l3 + 1)), some (vI l4)] (sJ M k0 l3.toNatClampNeg l1))) (
    some (none, M)) := ((evp_step (code := lkE (codT 171)) (hd := hdT 171) (call := evD d) (F := F) (pc := 6) (lv := [some (vR 23 n0 k0), some (vJ l1), none, some (vI l3), some (vI l4)]) (M := M) (e := (.iload_n 3, 1, 3, 0, 0, 0, 0)) rfl).trans (g171_6 (evD d) (evp (lkE (codT 171)) (hdT 171) (evD d) F) n0 k0 l1 l3 l4 M))
-- IceParliament$Planner spreadOdds(III)V
set_option maxRecDepth 100000 in
theorem j172 (call : Nat → List AV → Mem → Res) (back : Nat → Lv → Mem → Res) (p0 : Int32) (p1 : Int32) (p2 : Int32) (M : Mem) : evj (lkE cd_172) [3] call back 4000 0 [some (vR 3 0 69), some (vI p0), some (vI p1), some (vI p2), none, none] [] M =
  back 3 [some (vR 3 0 69), some (vI p0), some (vI p1), some (vI p2), some (vI 1), none] M := rfl
set_option maxRecDepth 100000 in
theorem e172 (d : Nat) (p0 : Int32) (p1 : Int32) (p2 : Int32) (M : Mem) : evD (d + 1) 172 [vR 3 0 69, vI p0, vI p1, vI p2] M =
  lp0 d 172 3 [some (vR 3 0 69), some (vI p0), some (vI p1), some (vI p2), some (vI 1), none] M := ((evD_step (d := d) (x := 172) (as := [vR 3 0 69, vI p0, vI p1, vI p2]) (M := M) (md := (⟨"IceParliament$Planner", "spreadOdds", "(III)V"⟩, prog_5_method_17_code, 6, (Option.none : Option Jvm.ClassFile.FieldType), 3, 3)) rfl rfl).trans (j172 (evD d) (evp0 (lkE (codT 172)) (hdT 172) (evD d)) p0 p1 p2 M))
set_option maxRecDepth 100000 in
theorem g172_3 (call : Nat → List AV → Mem → Res) (back : Nat → Lv → Mem → Res) (l1 : Int32) (l2 : Int32) (l3 : Int32) (l4 : Int32) (o5 : Option AV) (M : Mem) : stepK call back (evj (lkE cd_172) [3] call back 4000) (.iload 4, 2, 4, 0, 0, 0, 0) 3 [some (vR 3 0 69), some (vI l1), some (vI l2), some (vI l3), some (vI l4), o5] [] M =
  ic (l4 < Int32.ofNat 21) (
    ic (l4 < 0 ∨ 21 ≤ l4.toNatClampNeg) none (
      ic (0 < lg_cmp (M.2.1 98 l4.toNatClampNeg) 0) (
        ic (0 < l3) (
          ic (l1 < 0 ∨ 6 ≤ l1.toNatClampNeg) none (
            ic (l1 < 0 ∨ 6 ≤ l1.toNatClampNeg) none (
              cIn (call 103 [vR 9 0 3, vI l1, vI (M.1 64 l1.toNatClampNeg), vI l4, vI (M.1 63 l1.toNatClampNeg), vI l2] M) fun v2 M1 =>
              cIn (call 21 [vI 0, vI (l4 - v2)] M1) fun v4 M3 =>
              ic (v4 < 0 ∨ 21 ≤ v4.toNatClampNeg) none (
                ic (l4 < 0 ∨ 21 ≤ l4.toNatClampNeg) none (
                  ic (v4 < 0 ∨ 21 ≤ v4.toNatClampNeg) none (
                    back 3 [some (vR 3 0 69), some (vI l1), some (vI l2), some (vI l3), some (vI (l4 + 1)), some (vI (l4 - v2))] (sJ M3 99 v4.toNatClampNeg ((M3.2.1 99 v4.toNatClampNeg) + ((M3.2.1 98 l4.toNatClampNeg) * l3.toInt64))))))))) (
          back 3 [some (vR 3 0 69), some (vI l1), some (vI l2), some (vI l3), some (vI (l4 + 1)), o5] M)) (
        back 3 [some (vR 3 0 69), some (vI l1), some (vI l2), some (vI l3), some (vI (l4 + 1)), o5] M))) (
    some (none, M)) := rfl
set_option maxRecDepth 100000 in
theorem e172_3 (d F : Nat) (l1 : Int32) (l2 : Int32) (l3 : Int32) (l4 : Int32) (o5 : Option AV) (M : Mem) : lp d 172 (F + 1) 3 [some (vR 3 0 69), some (vI l1), some (vI l2), some (vI l3), some (vI l4), o5] M =
  ic (l4 < Int32.ofNat 21) (
    ic (l4 < 0 ∨ 21 ≤ l4.toNatClampNeg) none (
      ic (0 < lg_cmp (M.2.1 98 l4.toNatClampNeg) 0) (
        ic (0 < l3) (
          ic (l1 < 0 ∨ 6 ≤ l1.toNatClampNeg) none (
            ic (l1 < 0 ∨ 6 ≤ l1.toNatClampNeg) none (
              cIn (evD d 103 [vR 9 0 3, vI l1, vI (M.1 64 l1.toNatClampNeg), vI l4, vI (M.1 63 l1.toNatClampNeg), vI l2] M) fun v2 M1 =>
              cIn (evD d 21 [vI 0, vI (l4 - v2)] M1) fun v4 M3 =>
              ic (v4 < 0 ∨ 21 ≤ v4.toNatClampNeg) none (
                ic (l4 < 0 ∨ 21 ≤ l4.toNatClampNeg) none (
                  ic (v4 < 0 ∨ 21 ≤ v4.toNatClampNeg) none (
                    lp d 172 F 3 [some (vR 3 0 69), some (vI l1), some (vI l2), some (vI l3), some (vI (l4 + 1)), some (vI (l4 - v2))] (sJ M3 99 v4.toNatClampNeg ((M3.2.1 99 v4.toNatClampNeg) + ((M3.2.1 98 l4.toNatClampNeg) * l3.toInt64))))))))) (
          lp d 172 F 3 [some (vR 3 0 69), some (vI l1), some (vI l2), some (vI l3), some (vI (l4 + 1)), o5] M)) (
        lp d 172 F 3 [some (vR 3 0 69), some (vI l1), some (vI l2), some (vI l3), some (vI (l4 + 1)), o5] M))) (
    some (none, M)) := ((evp_step (code := lkE (codT 172)) (hd := hdT 172) (call := evD d) (F := F) (pc := 3) (lv := [some (vR 3 0 69), some (vI l1), some (vI l2), some (vI l3), some (vI l4), o5]) (M := M) (e := (.iload 4, 2, 4, 0, 0, 0, 0)) rfl).trans (g172_3 (evD d) (evp (lkE (codT 172)) (hdT 172) (evD d) F) l1 l2 l3 l4 o5 M))
-- IceParliament propped(I)I
set_option maxRecDepth 100000 in
theorem j173 (call : Nat → List AV → Mem → Res) (back : Nat → Lv → Mem → Res) (p0 : Int32) (M : Mem) : evj (lkE cd_173) [] call back 4000 0 [some (vR 11 0 0), some (vI p0)] [] M =
  ic (p0 < 1) (
    some (some (vI (-1)), M)) (
    ic (30 < p0) (
      some (some (vI (-1)), M)) (
      cIn (call 174 [vR 3 0 69, vI p0] M) fun v2 M1 =>
      some (some (vI v2), M1))) := rfl
set_option maxRecDepth 100000 in
theorem e173 (d : Nat) (p0 : Int32) (M : Mem) : evD (d + 1) 173 [vR 11 0 0, vI p0] M =
  ic (p0 < 1) (
    some (some (vI (-1)), M)) (
    ic (30 < p0) (
      some (some (vI (-1)), M)) (
      cIn (evD d 174 [vR 3 0 69, vI p0] M) fun v2 M1 =>
      some (some (vI v2), M1))) := ((evD_step (d := d) (x := 173) (as := [vR 11 0 0, vI p0]) (M := M) (md := (⟨"IceParliament", "propped", "(I)I"⟩, prog_1_method_27_code, 2, (Option.some Jvm.ClassFile.FieldType.int), 11, 11)) rfl rfl).trans (j173 (evD d) (evp0 (lkE (codT 173)) (hdT 173) (evD d)) p0 M))
-- IceParliament$Planner bestToProp(I)I
set_option maxRecDepth 100000 in
theorem j174 (call : Nat → List AV → Mem → Res) (back : Nat → Lv → Mem → Res) (p0 : Int32) (M : Mem) : evj (lkE cd_174) [7] call back 4000 0 [some (vR 3 0 69), some (vI p0), none, none, none, none] [] M =
  back 7 [some (vR 3 0 69), some (vI p0), some (vI 0), some (vI (-1)), some (vI 0), none] M := rfl
set_option maxRecDepth 100000 in
theorem e174 (d : Nat) (p0 : Int32) (M : Mem) : evD (d + 1) 174 [vR 3 0 69, vI p0] M =
  lp0 d 174 7 [some (vR 3 0 69), some (vI p0), some (vI 0), some (vI (-1)), some (vI 0), none] M := ((evD_step (d := d) (x := 174) (as := [vR 3 0 69, vI p0]) (M := M) (md := (⟨"IceParliament$Planner", "bestToProp", "(I)I"⟩, prog_5_method_18_code, 6, (Option.some Jvm.ClassFile.FieldType.int), 3, 3)) rfl rfl).trans (j174 (evD d) (evp0 (lkE (codT 174)) (hdT 174) (evD d)) p0 M))
set_option maxRecDepth 100000 in
theorem g174_7 (call : Nat → List AV → Mem → Res) (back : Nat → Lv → Mem → Res) (l1 : Int32) (l2 : Int32) (l3 : Int32) (l4 : Int32) (o5 : Option AV) (M : Mem) : stepK call back (evj (lkE cd_174) [7] call back 4000) (.iload 4, 2, 4, 0, 0, 0, 0) 7 [some (vR 3 0 69), some (vI l1), some (vI l2), some (vI l3), some (vI l4), o5] [] M =
  ic (l4 < M.1 8 0) (
    cIn (call 128 [vR 6 0 60, vI l4] M) fun v2 M1 =>
    ic (v2 = 0) (
      back 7 [some (vR 3 0 69), some (vI l1), some (vI l2), some (vI l3), some (vI (l4 + 1)), o5] M1) (
      ic (l4 < 0 ∨ 6 ≤ l4.toNatClampNeg) none (
        cIn (call 175 [vR 3 0 69, vI l4, vI ((M1.1 63 l4.toNatClampNeg) + 1), vI l1] M1) fun v4 M3 =>
        ic (l4 < 0 ∨ 6 ≤ l4.toNatClampNeg) none (
          cIn (call 175 [vR 3 0 69, vI l4, vI (M3.1 63 l4.toNatClampNeg), vI l1] M3) fun v6 M5 =>
          ic (l2 < v4 - v6) (
            back 7 [some (vR 3 0 69), some (vI l1), some (vI (v4 - v6)), some (vI l4), some (vI (l4 + 1)), some (vI (v4 - v6))] M5) (
            back 7 [some (vR 3 0 69), some (vI l1), some (vI l2), some (vI l3), some (vI (l4 + 1)), some (vI (v4 - v6))] M5))))) (
    some (some (vI l3), M)) := rfl
set_option maxRecDepth 100000 in
theorem e174_7 (d F : Nat) (l1 : Int32) (l2 : Int32) (l3 : Int32) (l4 : Int32) (o5 : Option AV) (M : Mem) : lp d 174 (F + 1) 7 [some (vR 3 0 69), some (vI l1), some (vI l2), some (vI l3), some (vI l4), o5] M =
  ic (l4 < M.1 8 0) (
    cIn (evD d 128 [vR 6 0 60, vI l4] M) fun v2 M1 =>
    ic (v2 = 0) (
      lp d 174 F 7 [some (vR 3 0 69), some (vI l1), some (vI l2), some (vI l3), some (vI (l4 + 1)), o5] M1) (
      ic (l4 < 0 ∨ 6 ≤ l4.toNatClampNeg) none (
        cIn (evD d 175 [vR 3 0 69, vI l4, vI ((M1.1 63 l4.toNatClampNeg) + 1), vI l1] M1) fun v4 M3 =>
        ic (l4 < 0 ∨ 6 ≤ l4.toNatClampNeg) none (
          cIn (evD d 175 [vR 3 0 69, vI l4, vI (M3.1 63 l4.toNatClampNeg), vI l1] M3) fun v6 M5 =>
          ic (l2 < v4 - v6) (
            lp d 174 F 7 [some (vR 3 0 69), some (vI l1), some (vI (v4 - v6)), some (vI l4), some (vI (l4 + 1)), some (vI (v4 - v6))] M5) (
            lp d 174 F 7 [some (vR 3 0 69), some (vI l1), some (vI l2), some (vI l3), some (vI (l4 + 1)), some (vI (v4 - v6))] M5))))) (
    some (some (vI l3), M)) := ((evp_step (code := lkE (codT 174)) (hd := hdT 174) (call := evD d) (F := F) (pc := 7) (lv := [some (vR 3 0 69), some (vI l1), some (vI l2), some (vI l3), some (vI l4), o5]) (M := M) (e := (.iload 4, 2, 4, 0, 0, 0, 0)) rfl).trans (g174_7 (evD d) (evp (lkE (codT 174)) (hdT 174) (evD d) F) l1 l2 l3 l4 o5 M))
-- IceParliament$Planner worthBehind(III)I
set_option maxRecDepth 100000 in
theorem j175 (call : Nat → List AV → Mem → Res) (back : Nat → Lv → Mem → Res) (p0 : Int32) (p1 : Int32) (p2 : Int32) (M : Mem) : evj (lkE cd_175) [] call back 4000 0 [some (vR 3 0 69), some (vI p0), some (vI p1), some (vI p2)] [] M =
  cIn (call 96 [vR 6 0 60, vI p0] M) fun v2 M1 =>
  ic (v2 = 0) (
    some (some (vI 0), M1)) (
    cIn (call 147 [vR 6 0 60, vI p0, vI p1, vI p2] M1) fun v4 M3 =>
    ic (p2 < v4) (
      ic (p0 < 0 ∨ 6 ≤ p0.toNatClampNeg) none (
        some (some (vI (M3.1 16 p0.toNatClampNeg)), M3))) (
      some (some (vI 0), M3))) := rfl
set_option maxRecDepth 100000 in
theorem e175 (d : Nat) (p0 : Int32) (p1 : Int32) (p2 : Int32) (M : Mem) : evD (d + 1) 175 [vR 3 0 69, vI p0, vI p1, vI p2] M =
  cIn (evD d 96 [vR 6 0 60, vI p0] M) fun v2 M1 =>
  ic (v2 = 0) (
    some (some (vI 0), M1)) (
    cIn (evD d 147 [vR 6 0 60, vI p0, vI p1, vI p2] M1) fun v4 M3 =>
    ic (p2 < v4) (
      ic (p0 < 0 ∨ 6 ≤ p0.toNatClampNeg) none (
        some (some (vI (M3.1 16 p0.toNatClampNeg)), M3))) (
      some (some (vI 0), M3))) := ((evD_step (d := d) (x := 175) (as := [vR 3 0 69, vI p0, vI p1, vI p2]) (M := M) (md := (⟨"IceParliament$Planner", "worthBehind", "(III)I"⟩, prog_5_method_19_code, 4, (Option.some Jvm.ClassFile.FieldType.int), 3, 3)) rfl rfl).trans (j175 (evD d) (evp0 (lkE (codT 175)) (hdT 175) (evD d)) p0 p1 p2 M))
-- IceParliament tell(II)Z
set_option maxRecDepth 100000 in
theorem j176 (call : Nat → List AV → Mem → Res) (back : Nat → Lv → Mem → Res) (p0 : Int32) (p1 : Int32) (M : Mem) : evj (lkE cd_176) [] call back 4000 0 [some (vR 11 0 0), some (vI p0), some (vI p1)] [] M =
  cIn (call 94 [vR 11 0 0, vI p0] M) fun v2 M1 =>
  ic (v2 = 0) (
    ic ((0 : Int32) &&& 1 = 0) (
      some (some (vI 0), M1)) none) (
    cIn (call 97 [vR 6 0 60, vI p0] M1) fun v4 M3 =>
    ic (v4 = 0) (
      ic ((0 : Int32) &&& 1 = 0) (
        some (some (vI 0), M3)) none) (
      ic (p1 < 0) (
        ic ((0 : Int32) &&& 1 = 0) (
          some (some (vI 0), M3)) none) (
        ic (20 < p1) (
          ic ((0 : Int32) &&& 1 = 0) (
            some (some (vI 0), M3)) none) (
          ic (p0 < 0 ∨ 6 ≤ p0.toNatClampNeg) none (
            ic ((1 : Int32) &&& 1 = 1) (
              some (some (vI 1), sI M3 66 p0.toNatClampNeg p1)) none))))) := rfl
set_option maxRecDepth 100000 in
theorem e176 (d : Nat) (p0 : Int32) (p1 : Int32) (M : Mem) : evD (d + 1) 176 [vR 11 0 0, vI p0, vI p1] M =
  cIn (evD d 94 [vR 11 0 0, vI p0] M) fun v2 M1 =>
  ic (v2 = 0) (
    some (some (vI 0), M1)) (
    cIn (evD d 97 [vR 6 0 60, vI p0] M1) fun v4 M3 =>
    ic (v4 = 0) (
      some (some (vI 0), M3)) (
      ic (p1 < 0) (
        some (some (vI 0), M3)) (
        ic (20 < p1) (
          some (some (vI 0), M3)) (
          ic (p0 < 0 ∨ 6 ≤ p0.toNatClampNeg) none (
            some (some (vI 1), sI M3 66 p0.toNatClampNeg p1)))))) := ((evD_step (d := d) (x := 176) (as := [vR 11 0 0, vI p0, vI p1]) (M := M) (md := (⟨"IceParliament", "tell", "(II)Z"⟩, prog_1_method_28_code, 3, (Option.some Jvm.ClassFile.FieldType.boolean), 11, 11)) rfl rfl).trans (j176 (evD d) (evp0 (lkE (codT 176)) (hdT 176) (evD d)) p0 p1 M)).trans (by (try simp only [ic_t (show (0 : Int32) &&& 1 = 0 by decide), ic_t (show (1 : Int32) &&& 1 = 1 by decide)]))
-- IceParliament sets(I)I
set_option maxRecDepth 100000 in
theorem j177 (call : Nat → List AV → Mem → Res) (back : Nat → Lv → Mem → Res) (p0 : Int32) (M : Mem) : evj (lkE cd_177) [] call back 4000 0 [some (vR 11 0 0), some (vI p0)] [] M =
  ic (p0 < 0) (
    some (some (vI (-1)), M)) (
    ic (2 < p0) (
      some (some (vI (-1)), M)) (
      cVd (call 178 [vR 0 0 100] M) fun M1 =>
      ic (p0 = 0) (
        some (some (vI (M1.1 100 0)), M1)) (
        ic (M1.1 100 0 = 0) (
          some (some (vI (-1)), M1)) (
          ic (p0 = 1) (
            cIn (call 182 [vR 0 0 100] M1) fun v5 M4 =>
            some (some (vI v5), M4)) (
            cIn (call 183 [vR 0 0 100] M1) fun v3 M2 =>
            some (some (vI v3), M2)))))) := rfl
set_option maxRecDepth 100000 in
theorem e177 (d : Nat) (p0 : Int32) (M : Mem) : evD (d + 1) 177 [vR 11 0 0, vI p0] M =
  ic (p0 < 0) (
    some (some (vI (-1)), M)) (
    ic (2 < p0) (
      some (some (vI (-1)), M)) (
      cVd (evD d 178 [vR 0 0 100] M) fun M1 =>
      ic (p0 = 0) (
        some (some (vI (M1.1 100 0)), M1)) (
        ic (M1.1 100 0 = 0) (
          some (some (vI (-1)), M1)) (
          ic (p0 = 1) (
            cIn (evD d 182 [vR 0 0 100] M1) fun v5 M4 =>
            some (some (vI v5), M4)) (
            cIn (evD d 183 [vR 0 0 100] M1) fun v3 M2 =>
            some (some (vI v3), M2)))))) := ((evD_step (d := d) (x := 177) (as := [vR 11 0 0, vI p0]) (M := M) (md := (⟨"IceParliament", "sets", "(I)I"⟩, prog_1_method_29_code, 2, (Option.some Jvm.ClassFile.FieldType.int), 11, 11)) rfl rfl).trans (j177 (evD d) (evp0 (lkE (codT 177)) (hdT 177) (evD d)) p0 M))
-- IceParliament$Breath findSets()V
set_option maxRecDepth 100000 in
theorem j178 (call : Nat → List AV → Mem → Res) (back : Nat → Lv → Mem → Res)  (M : Mem) : evj (lkE cd_178) [8, 58] call back 4000 0 [some (vR 0 0 100), none, none] [] M =
  cVd (call 179 [vR 0 0 100] M) fun M1 =>
  back 8 [some (vR 0 0 100), some (vI 0), some (vI 0)] M1 := rfl
set_option maxRecDepth 100000 in
theorem e178 (d : Nat)  (M : Mem) : evD (d + 1) 178 [vR 0 0 100] M =
  cVd (evD d 179 [vR 0 0 100] M) fun M1 =>
  lp0 d 178 8 [some (vR 0 0 100), some (vI 0), some (vI 0)] M1 := ((evD_step (d := d) (x := 178) (as := [vR 0 0 100]) (M := M) (md := (⟨"IceParliament$Breath", "findSets", "()V"⟩, prog_2_method_2_code, 3, (Option.none : Option Jvm.ClassFile.FieldType), 0, 0)) rfl rfl).trans (j178 (evD d) (evp0 (lkE (codT 178)) (hdT 178) (evD d))  M))
set_option maxRecDepth 100000 in
theorem g178_8 (call : Nat → List AV → Mem → Res) (back : Nat → Lv → Mem → Res) (l1 : Int32) (l2 : Int32) (M : Mem) : stepK call back (evj (lkE cd_178) [8, 58] call back 4000) (.iload_n 2, 1, 2, 0, 0, 0, 0) 8 [some (vR 0 0 100), some (vI l1), some (vI l2)] [] M =
  ic (l2 < M.1 6 0) (
    ic (l2 < 0 ∨ 6 ≤ l2.toNatClampNeg) none (
      ic (M.1 65 l2.toNatClampNeg = (-1)) (
        back 8 [some (vR 0 0 100), some (vI (l1 ||| 0)), some (vI (l2 + 1))] M) (
        back 8 [some (vR 0 0 100), some (vI (l1 ||| (1 <<< (l2 &&& 31)))), some (vI (l2 + 1))] M))) (
    back 58 [some (vR 0 0 100), some (vI l1), some (vI 0)] (sI M 100 0 0)) := rfl
set_option maxRecDepth 100000 in
theorem e178_8 (d F : Nat) (l1 : Int32) (l2 : Int32) (M : Mem) : lp d 178 (F + 1) 8 [some (vR 0 0 100), some (vI l1), some (vI l2)] M =
  ic (l2 < M.1 6 0) (
    ic (l2 < 0 ∨ 6 ≤ l2.toNatClampNeg) none (
      ic (M.1 65 l2.toNatClampNeg = (-1)) (
        lp d 178 F 8 [some (vR 0 0 100), some (vI (l1 ||| 0)), some (vI (l2 + 1))] M) (
        lp d 178 F 8 [some (vR 0 0 100), some (vI (l1 ||| (1 <<< (l2 &&& 31)))), some (vI (l2 + 1))] M))) (
    lp d 178 F 58 [some (vR 0 0 100), some (vI l1), some (vI 0)] (sI M 100 0 0)) := ((evp_step (code := lkE (codT 178)) (hd := hdT 178) (call := evD d) (F := F) (pc := 8) (lv := [some (vR 0 0 100), some (vI l1), some (vI l2)]) (M := M) (e := (.iload_n 2, 1, 2, 0, 0, 0, 0)) rfl).trans (g178_8 (evD d) (evp (lkE (codT 178)) (hdT 178) (evD d) F) l1 l2 M))
set_option maxRecDepth 100000 in
theorem g178_58 (call : Nat → List AV → Mem → Res) (back : Nat → Lv → Mem → Res) (l1 : Int32) (l2 : Int32) (M : Mem) : stepK call back (evj (lkE cd_178) [8, 58] call back 4000) (.iload_n 2, 1, 2, 0, 0, 0, 0) 58 [some (vR 0 0 100), some (vI l1), some (vI l2)] [] M =
  ic (l2 < 64) (
    ic (l2 &&& (l1 ^^^ (-1)) = 0) (
      cIn (call 180 [vR 0 0 100, vI l2] M) fun v2 M1 =>
      ic (v2 = 0) (
        back 58 [some (vR 0 0 100), some (vI l1), some (vI (l2 + 1))] M1) (
        ic (M1.1 100 0 < 0 ∨ 64 ≤ (M1.1 100 0).toNatClampNeg) none (
          back 58 [some (vR 0 0 100), some (vI l1), some (vI (l2 + 1))] (sI (sI M1 101 ((M1.1 100 0).toNatClampNeg) l2) 100 0 (((sI M1 101 ((M1.1 100 0).toNatClampNeg) l2).1 100 0) + 1))))) (
      back 58 [some (vR 0 0 100), some (vI l1), some (vI (l2 + 1))] M)) (
    some (none, M)) := rfl
set_option maxRecDepth 100000 in
theorem e178_58 (d F : Nat) (l1 : Int32) (l2 : Int32) (M : Mem) : lp d 178 (F + 1) 58 [some (vR 0 0 100), some (vI l1), some (vI l2)] M =
  ic (l2 < 64) (
    ic (l2 &&& (l1 ^^^ (-1)) = 0) (
      cIn (evD d 180 [vR 0 0 100, vI l2] M) fun v2 M1 =>
      ic (v2 = 0) (
        lp d 178 F 58 [some (vR 0 0 100), some (vI l1), some (vI (l2 + 1))] M1) (
        ic (M1.1 100 0 < 0 ∨ 64 ≤ (M1.1 100 0).toNatClampNeg) none (
          lp d 178 F 58 [some (vR 0 0 100), some (vI l1), some (vI (l2 + 1))] (sI (sI M1 101 ((M1.1 100 0).toNatClampNeg) l2) 100 0 (((sI M1 101 ((M1.1 100 0).toNatClampNeg) l2).1 100 0) + 1))))) (
      lp d 178 F 58 [some (vR 0 0 100), some (vI l1), some (vI (l2 + 1))] M)) (
    some (none, M)) := ((evp_step (code := lkE (codT 178)) (hd := hdT 178) (call := evD d) (F := F) (pc := 58) (lv := [some (vR 0 0 100), some (vI l1), some (vI l2)]) (M := M) (e := (.iload_n 2, 1, 2, 0, 0, 0, 0)) rfl).trans (g178_58 (evD d) (evp (lkE (codT 178)) (hdT 178) (evD d) F) l1 l2 M))
-- IceParliament$Breath foresee()V
set_option maxRecDepth 100000 in
theorem j179 (call : Nat → List AV → Mem → Res) (back : Nat → Lv → Mem → Res)  (M : Mem) : evj (lkE cd_179) [2, 69] call back 4000 0 [some (vR 0 0 100), none, none] [] M =
  back 2 [some (vR 0 0 100), some (vI 0), none] M := rfl
set_option maxRecDepth 100000 in
theorem e179 (d : Nat)  (M : Mem) : evD (d + 1) 179 [vR 0 0 100] M =
  lp0 d 179 2 [some (vR 0 0 100), some (vI 0), none] M := ((evD_step (d := d) (x := 179) (as := [vR 0 0 100]) (M := M) (md := (⟨"IceParliament$Breath", "foresee", "()V"⟩, prog_2_method_3_code, 3, (Option.none : Option Jvm.ClassFile.FieldType), 0, 0)) rfl rfl).trans (j179 (evD d) (evp0 (lkE (codT 179)) (hdT 179) (evD d))  M))
set_option maxRecDepth 100000 in
theorem g179_2 (call : Nat → List AV → Mem → Res) (back : Nat → Lv → Mem → Res) (l1 : Int32) (o2 : Option AV) (M : Mem) : stepK call back (evj (lkE cd_179) [2, 69] call back 4000) (.iload_n 1, 1, 1, 0, 0, 0, 0) 2 [some (vR 0 0 100), some (vI l1), o2] [] M =
  ic (l1 < M.1 8 0) (
    cIn (call 97 [vR 6 0 60, vI l1] M) fun v2 M1 =>
    ic (v2 = 0) (
      ic (l1 < 0 ∨ 6 ≤ l1.toNatClampNeg) none (
        ic (l1 < 0 ∨ 6 ≤ l1.toNatClampNeg) none (
          back 69 [some (vR 0 0 100), some (vI l1), some (vI 0)] (sI (sI M1 102 l1.toNatClampNeg 0) 103 l1.toNatClampNeg 0)))) (
      ic (l1 < 0 ∨ 6 ≤ l1.toNatClampNeg) none (
        cIn (call 100 [vR 6 0 60, vI l1, vI 0] M1) fun v4 M3 =>
        cIn (call 21 [vI 0, vI ((M1.1 61 l1.toNatClampNeg) - v4)] M3) fun v6 M5 =>
        ic (l1 < 0 ∨ 6 ≤ l1.toNatClampNeg) none (
          ic (l1 < 0 ∨ 6 ≤ l1.toNatClampNeg) none (
            back 69 [some (vR 0 0 100), some (vI l1), some (vI 0)] (sI (sI M5 102 l1.toNatClampNeg v6) 103 l1.toNatClampNeg 0)))))) (
    some (none, M)) := rfl
set_option maxRecDepth 100000 in
theorem e179_2 (d F : Nat) (l1 : Int32) (o2 : Option AV) (M : Mem) : lp d 179 (F + 1) 2 [some (vR 0 0 100), some (vI l1), o2] M =
  ic (l1 < M.1 8 0) (
    cIn (evD d 97 [vR 6 0 60, vI l1] M) fun v2 M1 =>
    ic (v2 = 0) (
      ic (l1 < 0 ∨ 6 ≤ l1.toNatClampNeg) none (
        ic (l1 < 0 ∨ 6 ≤ l1.toNatClampNeg) none (
          lp d 179 F 69 [some (vR 0 0 100), some (vI l1), some (vI 0)] (sI (sI M1 102 l1.toNatClampNeg 0) 103 l1.toNatClampNeg 0)))) (
      ic (l1 < 0 ∨ 6 ≤ l1.toNatClampNeg) none (
        cIn (evD d 100 [vR 6 0 60, vI l1, vI 0] M1) fun v4 M3 =>
        cIn (evD d 21 [vI 0, vI ((M1.1 61 l1.toNatClampNeg) - v4)] M3) fun v6 M5 =>
        ic (l1 < 0 ∨ 6 ≤ l1.toNatClampNeg) none (
          ic (l1 < 0 ∨ 6 ≤ l1.toNatClampNeg) none (
            lp d 179 F 69 [some (vR 0 0 100), some (vI l1), some (vI 0)] (sI (sI M5 102 l1.toNatClampNeg v6) 103 l1.toNatClampNeg 0)))))) (
    some (none, M)) := ((evp_step (code := lkE (codT 179)) (hd := hdT 179) (call := evD d) (F := F) (pc := 2) (lv := [some (vR 0 0 100), some (vI l1), o2]) (M := M) (e := (.iload_n 1, 1, 1, 0, 0, 0, 0)) rfl).trans (g179_2 (evD d) (evp (lkE (codT 179)) (hdT 179) (evD d) F) l1 o2 M))
set_option maxRecDepth 100000 in
theorem g179_69 (call : Nat → List AV → Mem → Res) (back : Nat → Lv → Mem → Res) (l1 : Int32) (l2 : Int32) (M : Mem) : stepK call back (evj (lkE cd_179) [2, 69] call back 4000) (.iload_n 2, 1, 2, 0, 0, 0, 0) 69 [some (vR 0 0 100), some (vI l1), some (vI l2)] [] M =
  ic (l2 < M.1 6 0) (
    ic (l1 < 0 ∨ 6 ≤ l1.toNatClampNeg) none (
      ic (l2 < 0 ∨ 6 ≤ l2.toNatClampNeg) none (
        ic (M.1 65 l2.toNatClampNeg = l1) (
          ic (l1 < 0 ∨ 6 ≤ l1.toNatClampNeg) none (
            back 69 [some (vR 0 0 100), some (vI l1), some (vI (l2 + 1))] (sI M 103 l1.toNatClampNeg ((M.1 103 l1.toNatClampNeg) ||| (1 <<< (l2 &&& 31)))))) (
          ic (l1 < 0 ∨ 6 ≤ l1.toNatClampNeg) none (
            back 69 [some (vR 0 0 100), some (vI l1), some (vI (l2 + 1))] (sI M 103 l1.toNatClampNeg ((M.1 103 l1.toNatClampNeg) ||| 0))))))) (
    back 2 [some (vR 0 0 100), some (vI (l1 + 1)), some (vI l2)] M) := rfl
set_option maxRecDepth 100000 in
theorem e179_69 (d F : Nat) (l1 : Int32) (l2 : Int32) (M : Mem) : lp d 179 (F + 1) 69 [some (vR 0 0 100), some (vI l1), some (vI l2)] M =
  ic (l2 < M.1 6 0) (
    ic (l1 < 0 ∨ 6 ≤ l1.toNatClampNeg) none (
      ic (l2 < 0 ∨ 6 ≤ l2.toNatClampNeg) none (
        ic (M.1 65 l2.toNatClampNeg = l1) (
          ic (l1 < 0 ∨ 6 ≤ l1.toNatClampNeg) none (
            lp d 179 F 69 [some (vR 0 0 100), some (vI l1), some (vI (l2 + 1))] (sI M 103 l1.toNatClampNeg ((M.1 103 l1.toNatClampNeg) ||| (1 <<< (l2 &&& 31)))))) (
          ic (l1 < 0 ∨ 6 ≤ l1.toNatClampNeg) none (
            lp d 179 F 69 [some (vR 0 0 100), some (vI l1), some (vI (l2 + 1))] (sI M 103 l1.toNatClampNeg ((M.1 103 l1.toNatClampNeg) ||| 0))))))) (
    lp d 179 F 2 [some (vR 0 0 100), some (vI (l1 + 1)), some (vI l2)] M) := ((evp_step (code := lkE (codT 179)) (hd := hdT 179) (call := evD d) (F := F) (pc := 69) (lv := [some (vR 0 0 100), some (vI l1), some (vI l2)]) (M := M) (e := (.iload_n 2, 1, 2, 0, 0, 0, 0)) rfl).trans (g179_69 (evD d) (evp (lkE (codT 179)) (hdT 179) (evD d) F) l1 l2 M))
-- IceParliament$Breath isAsTold(I)Z
set_option maxRecDepth 100000 in
theorem j180 (call : Nat → List AV → Mem → Res) (back : Nat → Lv → Mem → Res) (p0 : Int32) (M : Mem) : evj (lkE cd_180) [2] call back 4000 0 [some (vR 0 0 100), some (vI p0), none] [] M =
  back 2 [some (vR 0 0 100), some (vI p0), some (vI 0)] M := rfl
set_option maxRecDepth 100000 in
theorem e180 (d : Nat) (p0 : Int32) (M : Mem) : evD (d + 1) 180 [vR 0 0 100, vI p0] M =
  lp0 d 180 2 [some (vR 0 0 100), some (vI p0), some (vI 0)] M := ((evD_step (d := d) (x := 180) (as := [vR 0 0 100, vI p0]) (M := M) (md := (⟨"IceParliament$Breath", "isAsTold", "(I)Z"⟩, prog_2_method_5_code, 3, (Option.some Jvm.ClassFile.FieldType.boolean), 0, 0)) rfl rfl).trans (j180 (evD d) (evp0 (lkE (codT 180)) (hdT 180) (evD d)) p0 M))
set_option maxRecDepth 100000 in
theorem g180_2 (call : Nat → List AV → Mem → Res) (back : Nat → Lv → Mem → Res) (l1 : Int32) (l2 : Int32) (M : Mem) : stepK call back (evj (lkE cd_180) [2] call back 4000) (.iload_n 2, 1, 2, 0, 0, 0, 0) 2 [some (vR 0 0 100), some (vI l1), some (vI l2)] [] M =
  ic (l2 < M.1 8 0) (
    ic (l2 < 0 ∨ 6 ≤ l2.toNatClampNeg) none (
      ic (M.1 66 l2.toNatClampNeg = (-1)) (
        back 2 [some (vR 0 0 100), some (vI l1), some (vI (l2 + 1))] M) (
        ic (l2 < 0 ∨ 6 ≤ l2.toNatClampNeg) none (
          cIn (call 181 [vR 0 0 100, vI l2, vI l1] M) fun v2 M1 =>
          ic (M.1 66 l2.toNatClampNeg = v2) (
            back 2 [some (vR 0 0 100), some (vI l1), some (vI (l2 + 1))] M1) (
            ic ((0 : Int32) &&& 1 = 0) (
              some (some (vI 0), M1)) none))))) (
    ic ((1 : Int32) &&& 1 = 1) (
      some (some (vI 1), M)) none) := rfl
set_option maxRecDepth 100000 in
theorem e180_2 (d F : Nat) (l1 : Int32) (l2 : Int32) (M : Mem) : lp d 180 (F + 1) 2 [some (vR 0 0 100), some (vI l1), some (vI l2)] M =
  ic (l2 < M.1 8 0) (
    ic (l2 < 0 ∨ 6 ≤ l2.toNatClampNeg) none (
      ic (M.1 66 l2.toNatClampNeg = (-1)) (
        lp d 180 F 2 [some (vR 0 0 100), some (vI l1), some (vI (l2 + 1))] M) (
        ic (l2 < 0 ∨ 6 ≤ l2.toNatClampNeg) none (
          cIn (evD d 181 [vR 0 0 100, vI l2, vI l1] M) fun v2 M1 =>
          ic (M.1 66 l2.toNatClampNeg = v2) (
            lp d 180 F 2 [some (vR 0 0 100), some (vI l1), some (vI (l2 + 1))] M1) (
            some (some (vI 0), M1)))))) (
    some (some (vI 1), M)) := ((evp_step (code := lkE (codT 180)) (hd := hdT 180) (call := evD d) (F := F) (pc := 2) (lv := [some (vR 0 0 100), some (vI l1), some (vI l2)]) (M := M) (e := (.iload_n 2, 1, 2, 0, 0, 0, 0)) rfl).trans (g180_2 (evD d) (evp (lkE (codT 180)) (hdT 180) (evD d) F) l1 l2 M)).trans (by (try simp only [ic_t (show (1 : Int32) &&& 1 = 1 by decide), ic_t (show (0 : Int32) &&& 1 = 0 by decide)]))
-- IceParliament$Breath feetBy(II)I
set_option maxRecDepth 100000 in
theorem j181 (call : Nat → List AV → Mem → Res) (back : Nat → Lv → Mem → Res) (p0 : Int32) (p1 : Int32) (M : Mem) : evj (lkE cd_181) [] call back 4000 0 [some (vR 0 0 100), some (vI p0), some (vI p1)] [] M =
  ic (p0 < 0 ∨ 6 ≤ p0.toNatClampNeg) none (
    ic (p0 < 0 ∨ 6 ≤ p0.toNatClampNeg) none (
      cIn (call 145 [vI ((M.1 103 p0.toNatClampNeg) &&& p1)] M) fun v2 M1 =>
      cIn (call 21 [vI 0, vI ((M.1 102 p0.toNatClampNeg) - v2)] M1) fun v4 M3 =>
      some (some (vI v4), M3))) := rfl
set_option maxRecDepth 100000 in
theorem e181 (d : Nat) (p0 : Int32) (p1 : Int32) (M : Mem) : evD (d + 1) 181 [vR 0 0 100, vI p0, vI p1] M =
  ic (p0 < 0 ∨ 6 ≤ p0.toNatClampNeg) none (
    ic (p0 < 0 ∨ 6 ≤ p0.toNatClampNeg) none (
      cIn (evD d 145 [vI ((M.1 103 p0.toNatClampNeg) &&& p1)] M) fun v2 M1 =>
      cIn (evD d 21 [vI 0, vI ((M.1 102 p0.toNatClampNeg) - v2)] M1) fun v4 M3 =>
      some (some (vI v4), M3))) := ((evD_step (d := d) (x := 181) (as := [vR 0 0 100, vI p0, vI p1]) (M := M) (md := (⟨"IceParliament$Breath", "feetBy", "(II)I"⟩, prog_2_method_4_code, 3, (Option.some Jvm.ClassFile.FieldType.int), 0, 0)) rfl rfl).trans (j181 (evD d) (evp0 (lkE (codT 181)) (hdT 181) (evD d)) p0 p1 M))
-- IceParliament$Breath inAll()I
set_option maxRecDepth 100000 in
theorem j182 (call : Nat → List AV → Mem → Res) (back : Nat → Lv → Mem → Res)  (M : Mem) : evj (lkE cd_182) [5] call back 4000 0 [some (vR 0 0 100), none, none] [] M =
  back 5 [some (vR 0 0 100), some (vI 63), some (vI 0)] M := rfl
set_option maxRecDepth 100000 in
theorem e182 (d : Nat)  (M : Mem) : evD (d + 1) 182 [vR 0 0 100] M =
  lp0 d 182 5 [some (vR 0 0 100), some (vI 63), some (vI 0)] M := ((evD_step (d := d) (x := 182) (as := [vR 0 0 100]) (M := M) (md := (⟨"IceParliament$Breath", "inAll", "()I"⟩, prog_2_method_6_code, 3, (Option.some Jvm.ClassFile.FieldType.int), 0, 0)) rfl rfl).trans (j182 (evD d) (evp0 (lkE (codT 182)) (hdT 182) (evD d))  M))
set_option maxRecDepth 100000 in
theorem g182_5 (call : Nat → List AV → Mem → Res) (back : Nat → Lv → Mem → Res) (l1 : Int32) (l2 : Int32) (M : Mem) : stepK call back (evj (lkE cd_182) [5] call back 4000) (.iload_n 2, 1, 2, 0, 0, 0, 0) 5 [some (vR 0 0 100), some (vI l1), some (vI l2)] [] M =
  ic (l2 < M.1 100 0) (
    ic (l2 < 0 ∨ 64 ≤ l2.toNatClampNeg) none (
      back 5 [some (vR 0 0 100), some (vI (l1 &&& (M.1 101 l2.toNatClampNeg))), some (vI (l2 + 1))] M)) (
    some (some (vI l1), M)) := rfl
set_option maxRecDepth 100000 in
theorem e182_5 (d F : Nat) (l1 : Int32) (l2 : Int32) (M : Mem) : lp d 182 (F + 1) 5 [some (vR 0 0 100), some (vI l1), some (vI l2)] M =
  ic (l2 < M.1 100 0) (
    ic (l2 < 0 ∨ 64 ≤ l2.toNatClampNeg) none (
      lp d 182 F 5 [some (vR 0 0 100), some (vI (l1 &&& (M.1 101 l2.toNatClampNeg))), some (vI (l2 + 1))] M)) (
    some (some (vI l1), M)) := ((evp_step (code := lkE (codT 182)) (hd := hdT 182) (call := evD d) (F := F) (pc := 5) (lv := [some (vR 0 0 100), some (vI l1), some (vI l2)]) (M := M) (e := (.iload_n 2, 1, 2, 0, 0, 0, 0)) rfl).trans (g182_5 (evD d) (evp (lkE (codT 182)) (hdT 182) (evD d) F) l1 l2 M))
-- IceParliament$Breath inSome()I
set_option maxRecDepth 100000 in
theorem j183 (call : Nat → List AV → Mem → Res) (back : Nat → Lv → Mem → Res)  (M : Mem) : evj (lkE cd_183) [4] call back 4000 0 [some (vR 0 0 100), none, none] [] M =
  back 4 [some (vR 0 0 100), some (vI 0), some (vI 0)] M := rfl
set_option maxRecDepth 100000 in
theorem e183 (d : Nat)  (M : Mem) : evD (d + 1) 183 [vR 0 0 100] M =
  lp0 d 183 4 [some (vR 0 0 100), some (vI 0), some (vI 0)] M := ((evD_step (d := d) (x := 183) (as := [vR 0 0 100]) (M := M) (md := (⟨"IceParliament$Breath", "inSome", "()I"⟩, prog_2_method_7_code, 3, (Option.some Jvm.ClassFile.FieldType.int), 0, 0)) rfl rfl).trans (j183 (evD d) (evp0 (lkE (codT 183)) (hdT 183) (evD d))  M))
set_option maxRecDepth 100000 in
theorem g183_4 (call : Nat → List AV → Mem → Res) (back : Nat → Lv → Mem → Res) (l1 : Int32) (l2 : Int32) (M : Mem) : stepK call back (evj (lkE cd_183) [4] call back 4000) (.iload_n 2, 1, 2, 0, 0, 0, 0) 4 [some (vR 0 0 100), some (vI l1), some (vI l2)] [] M =
  ic (l2 < M.1 100 0) (
    ic (l2 < 0 ∨ 64 ≤ l2.toNatClampNeg) none (
      back 4 [some (vR 0 0 100), some (vI (l1 ||| (M.1 101 l2.toNatClampNeg))), some (vI (l2 + 1))] M)) (
    some (some (vI l1), M)) := rfl
set_option maxRecDepth 100000 in
theorem e183_4 (d F : Nat) (l1 : Int32) (l2 : Int32) (M : Mem) : lp d 183 (F + 1) 4 [some (vR 0 0 100), some (vI l1), some (vI l2)] M =
  ic (l2 < M.1 100 0) (
    ic (l2 < 0 ∨ 64 ≤ l2.toNatClampNeg) none (
      lp d 183 F 4 [some (vR 0 0 100), some (vI (l1 ||| (M.1 101 l2.toNatClampNeg))), some (vI (l2 + 1))] M)) (
    some (some (vI l1), M)) := ((evp_step (code := lkE (codT 183)) (hd := hdT 183) (call := evD d) (F := F) (pc := 4) (lv := [some (vR 0 0 100), some (vI l1), some (vI l2)]) (M := M) (e := (.iload_n 2, 1, 2, 0, 0, 0, 0)) rfl).trans (g183_4 (evD d) (evp (lkE (codT 183)) (hdT 183) (evD d) F) l1 l2 M))
-- IceParliament look()I
set_option maxRecDepth 100000 in
theorem j184 (call : Nat → List AV → Mem → Res) (back : Nat → Lv → Mem → Res)  (M : Mem) : evj (lkE cd_184) [] call back 4000 0 [some (vR 11 0 0)] [] M =
  cIn (call 185 [vR 0 0 100] M) fun v2 M1 =>
  some (some (vI v2), M1) := rfl
set_option maxRecDepth 100000 in
theorem e184 (d : Nat)  (M : Mem) : evD (d + 1) 184 [vR 11 0 0] M =
  cIn (evD d 185 [vR 0 0 100] M) fun v2 M1 =>
  some (some (vI v2), M1) := ((evD_step (d := d) (x := 184) (as := [vR 11 0 0]) (M := M) (md := (⟨"IceParliament", "look", "()I"⟩, prog_1_method_30_code, 1, (Option.some Jvm.ClassFile.FieldType.int), 11, 11)) rfl rfl).trans (j184 (evD d) (evp0 (lkE (codT 184)) (hdT 184) (evD d))  M))
-- IceParliament$Breath bestToLookAt()I
set_option maxRecDepth 100000 in
theorem j185 (call : Nat → List AV → Mem → Res) (back : Nat → Lv → Mem → Res)  (M : Mem) : evj (lkE cd_185) [13] call back 4000 0 [some (vR 0 0 100), none, none, none, none] [] M =
  cVd (call 178 [vR 0 0 100] M) fun M1 =>
  back 13 [some (vR 0 0 100), some (vI (M1.1 100 0)), some (vI (-1)), some (vI 0), none] M1 := rfl
set_option maxRecDepth 100000 in
theorem e185 (d : Nat)  (M : Mem) : evD (d + 1) 185 [vR 0 0 100] M =
  cVd (evD d 178 [vR 0 0 100] M) fun M1 =>
  lp0 d 185 13 [some (vR 0 0 100), some (vI (M1.1 100 0)), some (vI (-1)), some (vI 0), none] M1 := ((evD_step (d := d) (x := 185) (as := [vR 0 0 100]) (M := M) (md := (⟨"IceParliament$Breath", "bestToLookAt", "()I"⟩, prog_2_method_8_code, 5, (Option.some Jvm.ClassFile.FieldType.int), 0, 0)) rfl rfl).trans (j185 (evD d) (evp0 (lkE (codT 185)) (hdT 185) (evD d))  M))
set_option maxRecDepth 100000 in
theorem g185_13 (call : Nat → List AV → Mem → Res) (back : Nat → Lv → Mem → Res) (l1 : Int32) (l2 : Int32) (l3 : Int32) (o4 : Option AV) (M : Mem) : stepK call back (evj (lkE cd_185) [13] call back 4000) (.iload_n 3, 1, 3, 0, 0, 0, 0) 13 [some (vR 0 0 100), some (vI l1), some (vI l2), some (vI l3), o4] [] M =
  ic (l3 < M.1 8 0) (
    cIn (call 97 [vR 6 0 60, vI l3] M) fun v2 M1 =>
    ic (v2 = 0) (
      back 13 [some (vR 0 0 100), some (vI l1), some (vI l2), some (vI (l3 + 1)), o4] M1) (
      ic (l3 < 0 ∨ 6 ≤ l3.toNatClampNeg) none (
        ic (M1.1 66 l3.toNatClampNeg = (-1)) (
          cIn (call 186 [vR 0 0 100, vI l3] M1) fun v4 M3 =>
          ic (v4 < l1) (
            back 13 [some (vR 0 0 100), some (vI v4), some (vI l3), some (vI (l3 + 1)), some (vI v4)] M3) (
            back 13 [some (vR 0 0 100), some (vI l1), some (vI l2), some (vI (l3 + 1)), some (vI v4)] M3)) (
          back 13 [some (vR 0 0 100), some (vI l1), some (vI l2), some (vI (l3 + 1)), o4] M1)))) (
    some (some (vI l2), M)) := rfl
set_option maxRecDepth 100000 in
theorem e185_13 (d F : Nat) (l1 : Int32) (l2 : Int32) (l3 : Int32) (o4 : Option AV) (M : Mem) : lp d 185 (F + 1) 13 [some (vR 0 0 100), some (vI l1), some (vI l2), some (vI l3), o4] M =
  ic (l3 < M.1 8 0) (
    cIn (evD d 97 [vR 6 0 60, vI l3] M) fun v2 M1 =>
    ic (v2 = 0) (
      lp d 185 F 13 [some (vR 0 0 100), some (vI l1), some (vI l2), some (vI (l3 + 1)), o4] M1) (
      ic (l3 < 0 ∨ 6 ≤ l3.toNatClampNeg) none (
        ic (M1.1 66 l3.toNatClampNeg = (-1)) (
          cIn (evD d 186 [vR 0 0 100, vI l3] M1) fun v4 M3 =>
          ic (v4 < l1) (
            lp d 185 F 13 [some (vR 0 0 100), some (vI v4), some (vI l3), some (vI (l3 + 1)), some (vI v4)] M3) (
            lp d 185 F 13 [some (vR 0 0 100), some (vI l1), some (vI l2), some (vI (l3 + 1)), some (vI v4)] M3)) (
          lp d 185 F 13 [some (vR 0 0 100), some (vI l1), some (vI l2), some (vI (l3 + 1)), o4] M1)))) (
    some (some (vI l2), M)) := ((evp_step (code := lkE (codT 185)) (hd := hdT 185) (call := evD d) (F := F) (pc := 13) (lv := [some (vR 0 0 100), some (vI l1), some (vI l2), some (vI l3), o4]) (M := M) (e := (.iload_n 3, 1, 3, 0, 0, 0, 0)) rfl).trans (g185_13 (evD d) (evp (lkE (codT 185)) (hdT 185) (evD d) F) l1 l2 l3 o4 M))
-- IceParliament$Breath greatestAlike(I)I
set_option maxRecDepth 100000 in
theorem j186 (call : Nat → List AV → Mem → Res) (back : Nat → Lv → Mem → Res) (p0 : Int32) (M : Mem) : evj (lkE cd_186) [12] call back 4000 0 [some (vR 0 0 100), some (vI p0), none, none, none] [] M =
  cVd (call 2 [vR 20 21 104, vI 0] M) fun M1 =>
  back 12 [some (vR 0 0 100), some (vI p0), some (vI 0), some (vI 0), none] M1 := rfl
set_option maxRecDepth 100000 in
theorem e186 (d : Nat) (p0 : Int32) (M : Mem) : evD (d + 1) 186 [vR 0 0 100, vI p0] M =
  cVd (evD d 2 [vR 20 21 104, vI 0] M) fun M1 =>
  lp0 d 186 12 [some (vR 0 0 100), some (vI p0), some (vI 0), some (vI 0), none] M1 := ((evD_step (d := d) (x := 186) (as := [vR 0 0 100, vI p0]) (M := M) (md := (⟨"IceParliament$Breath", "greatestAlike", "(I)I"⟩, prog_2_method_9_code, 5, (Option.some Jvm.ClassFile.FieldType.int), 0, 0)) rfl rfl).trans (j186 (evD d) (evp0 (lkE (codT 186)) (hdT 186) (evD d)) p0 M))
set_option maxRecDepth 100000 in
theorem g186_12 (call : Nat → List AV → Mem → Res) (back : Nat → Lv → Mem → Res) (l1 : Int32) (l2 : Int32) (l3 : Int32) (o4 : Option AV) (M : Mem) : stepK call back (evj (lkE cd_186) [12] call back 4000) (.iload_n 3, 1, 3, 0, 0, 0, 0) 12 [some (vR 0 0 100), some (vI l1), some (vI l2), some (vI l3), o4] [] M =
  ic (l3 < M.1 100 0) (
    ic (l3 < 0 ∨ 64 ≤ l3.toNatClampNeg) none (
      cIn (call 181 [vR 0 0 100, vI l1, vI (M.1 101 l3.toNatClampNeg)] M) fun v2 M1 =>
      ic (v2 < 0 ∨ 21 ≤ v2.toNatClampNeg) none (
        ic (v2 < 0 ∨ 21 ≤ v2.toNatClampNeg) none (
          ic (v2 < 0 ∨ 21 ≤ v2.toNatClampNeg) none (
            cIn (call 21 [vI l2, vI ((sI M1 104 v2.toNatClampNeg ((M1.1 104 v2.toNatClampNeg) + 1)).1 104 v2.toNatClampNeg)] (sI M1 104 v2.toNatClampNeg ((M1.1 104 v2.toNatClampNeg) + 1))) fun v4 M3 =>
            back 12 [some (vR 0 0 100), some (vI l1), some (vI v4), some (vI (l3 + 1)), some (vI v2)] M3))))) (
    some (some (vI l2), M)) := rfl
set_option maxRecDepth 100000 in
theorem e186_12 (d F : Nat) (l1 : Int32) (l2 : Int32) (l3 : Int32) (o4 : Option AV) (M : Mem) : lp d 186 (F + 1) 12 [some (vR 0 0 100), some (vI l1), some (vI l2), some (vI l3), o4] M =
  ic (l3 < M.1 100 0) (
    ic (l3 < 0 ∨ 64 ≤ l3.toNatClampNeg) none (
      cIn (evD d 181 [vR 0 0 100, vI l1, vI (M.1 101 l3.toNatClampNeg)] M) fun v2 M1 =>
      ic (v2 < 0 ∨ 21 ≤ v2.toNatClampNeg) none (
        ic (v2 < 0 ∨ 21 ≤ v2.toNatClampNeg) none (
          ic (v2 < 0 ∨ 21 ≤ v2.toNatClampNeg) none (
            cIn (evD d 21 [vI l2, vI ((sI M1 104 v2.toNatClampNeg ((M1.1 104 v2.toNatClampNeg) + 1)).1 104 v2.toNatClampNeg)] (sI M1 104 v2.toNatClampNeg ((M1.1 104 v2.toNatClampNeg) + 1))) fun v4 M3 =>
            lp d 186 F 12 [some (vR 0 0 100), some (vI l1), some (vI v4), some (vI (l3 + 1)), some (vI v2)] M3))))) (
    some (some (vI l2), M)) := ((evp_step (code := lkE (codT 186)) (hd := hdT 186) (call := evD d) (F := F) (pc := 12) (lv := [some (vR 0 0 100), some (vI l1), some (vI l2), some (vI l3), o4]) (M := M) (e := (.iload_n 3, 1, 3, 0, 0, 0, 0)) rfl).trans (g186_12 (evD d) (evp (lkE (codT 186)) (hdT 186) (evD d) F) l1 l2 l3 o4 M))
-- IceParliament rests(IIII)I
set_option maxRecDepth 100000 in
theorem j187 (call : Nat → List AV → Mem → Res) (back : Nat → Lv → Mem → Res) (p0 : Int32) (p1 : Int32) (p2 : Int32) (p3 : Int32) (M : Mem) : evj (lkE cd_187) [41] call back 4000 0 [some (vR 11 0 0), some (vI p0), some (vI p1), some (vI p2), some (vI p3), none, none] [] M =
  cIn (call 188 [vI p0] M) fun v2 M1 =>
  ic (v2 = 0) none (
    cIn (call 188 [vI p1] M1) fun v4 M3 =>
    ic (v4 = 0) none (
      cIn (call 188 [vI p2] M3) fun v6 M5 =>
      ic (v6 = 0) none (
        ic (p3 < (-1)) none (
          back 41 [some (vR 11 0 0), some (vI p0), some (vI p1), some (vI p2), some (vI p3), some (vI 0), some (vI 0)] M5)))) := rfl
set_option maxRecDepth 100000 in
theorem e187 (d : Nat) (p0 : Int32) (p1 : Int32) (p2 : Int32) (p3 : Int32) (M : Mem) : evD (d + 1) 187 [vR 11 0 0, vI p0, vI p1, vI p2, vI p3] M =
  cIn (evD d 188 [vI p0] M) fun v2 M1 =>
  ic (v2 = 0) none (
    cIn (evD d 188 [vI p1] M1) fun v4 M3 =>
    ic (v4 = 0) none (
      cIn (evD d 188 [vI p2] M3) fun v6 M5 =>
      ic (v6 = 0) none (
        ic (p3 < (-1)) none (
          lp0 d 187 41 [some (vR 11 0 0), some (vI p0), some (vI p1), some (vI p2), some (vI p3), some (vI 0), some (vI 0)] M5)))) := ((evD_step (d := d) (x := 187) (as := [vR 11 0 0, vI p0, vI p1, vI p2, vI p3]) (M := M) (md := (⟨"IceParliament", "rests", "(IIII)I"⟩, prog_1_method_31_code, 7, (Option.some Jvm.ClassFile.FieldType.int), 11, 11)) rfl rfl).trans (j187 (evD d) (evp0 (lkE (codT 187)) (hdT 187) (evD d)) p0 p1 p2 p3 M))
set_option maxRecDepth 100000 in
theorem g187_41 (call : Nat → List AV → Mem → Res) (back : Nat → Lv → Mem → Res) (o0 : Option AV) (l1 : Int32) (l2 : Int32) (l3 : Int32) (l4 : Int32) (l5 : Int32) (l6 : Int32) (M : Mem) : stepK call back (evj (lkE cd_187) [41] call back 4000) (.iload 6, 2, 6, 0, 0, 0, 0) 41 [o0, some (vI l1), some (vI l2), some (vI l3), some (vI l4), some (vI l5), some (vI l6)] [] M =
  ic (l6 < 4) (
    cIn (call 189 [vI l6, vI l1, vI l2, vI l3] M) fun v2 M1 =>
    ic (v2 = 0) (
      back 41 [o0, some (vI l1), some (vI l2), some (vI l3), some (vI l4), some (vI l5), some (vI (l6 + 1))] M1) (
      ic (l5 = l4) (
        some (some (vI l6), M1)) (
        back 41 [o0, some (vI l1), some (vI l2), some (vI l3), some (vI l4), some (vI (l5 + 1)), some (vI (l6 + 1))] M1))) (
    ic (l4 = (-1)) (
      some (some (vI l5), M)) none) := rfl
set_option maxRecDepth 100000 in
theorem e187_41 (d F : Nat) (o0 : Option AV) (l1 : Int32) (l2 : Int32) (l3 : Int32) (l4 : Int32) (l5 : Int32) (l6 : Int32) (M : Mem) : lp d 187 (F + 1) 41 [o0, some (vI l1), some (vI l2), some (vI l3), some (vI l4), some (vI l5), some (vI l6)] M =
  ic (l6 < 4) (
    cIn (evD d 189 [vI l6, vI l1, vI l2, vI l3] M) fun v2 M1 =>
    ic (v2 = 0) (
      lp d 187 F 41 [o0, some (vI l1), some (vI l2), some (vI l3), some (vI l4), some (vI l5), some (vI (l6 + 1))] M1) (
      ic (l5 = l4) (
        some (some (vI l6), M1)) (
        lp d 187 F 41 [o0, some (vI l1), some (vI l2), some (vI l3), some (vI l4), some (vI (l5 + 1)), some (vI (l6 + 1))] M1))) (
    ic (l4 = (-1)) (
      some (some (vI l5), M)) none) := ((evp_step (code := lkE (codT 187)) (hd := hdT 187) (call := evD d) (F := F) (pc := 41) (lv := [o0, some (vI l1), some (vI l2), some (vI l3), some (vI l4), some (vI l5), some (vI l6)]) (M := M) (e := (.iload 6, 2, 6, 0, 0, 0, 0)) rfl).trans (g187_41 (evD d) (evp (lkE (codT 187)) (hdT 187) (evD d) F) o0 l1 l2 l3 l4 l5 l6 M))
-- IceParliament isDigit(I)Z
set_option maxRecDepth 100000 in
theorem j188 (call : Nat → List AV → Mem → Res) (back : Nat → Lv → Mem → Res) (p0 : Int32) (M : Mem) : evj (lkE cd_188) [] call back 4000 0 [some (vI p0)] [] M =
  ic (p0 < 0) (
    ic ((0 : Int32) &&& 1 = 0) (
      some (some (vI 0), M)) none) (
    ic (9 < p0) (
      ic ((0 : Int32) &&& 1 = 0) (
        some (some (vI 0), M)) none) (
      ic ((1 : Int32) &&& 1 = 1) (
        some (some (vI 1), M)) none)) := rfl
set_option maxRecDepth 100000 in
theorem e188 (d : Nat) (p0 : Int32) (M : Mem) : evD (d + 1) 188 [vI p0] M =
  ic (p0 < 0) (
    some (some (vI 0), M)) (
    ic (9 < p0) (
      some (some (vI 0), M)) (
      some (some (vI 1), M))) := ((evD_step (d := d) (x := 188) (as := [vI p0]) (M := M) (md := (⟨"IceParliament", "isDigit", "(I)Z"⟩, prog_1_method_34_code, 1, (Option.some Jvm.ClassFile.FieldType.boolean), 11, 99)) rfl rfl).trans (j188 (evD d) (evp0 (lkE (codT 188)) (hdT 188) (evD d)) p0 M)).trans (by (try simp only [ic_t (show (0 : Int32) &&& 1 = 0 by decide), ic_t (show (1 : Int32) &&& 1 = 1 by decide)]))
-- IceParliament isRest(IIII)Z
set_option maxRecDepth 100000 in
theorem j189 (call : Nat → List AV → Mem → Res) (back : Nat → Lv → Mem → Res) (p0 : Int32) (p1 : Int32) (p2 : Int32) (p3 : Int32) (M : Mem) : evj (lkE cd_189) [] call back 4000 0 [some (vI p0), some (vI p1), some (vI p2), some (vI p3), none, none] [] M =
  ic ((2 : Int32) = 0) none (
    ic ((2 : Int32) = 0) none (
      cIn (call 190 [vI (p0 / 2), vI (p0 - p0 / 2 * 2), vI p1, vI p2, vI p3] M) fun v2 M1 =>
      cIn (call 190 [vI (1 - (p0 / 2)), vI (p0 - p0 / 2 * 2), vI p1, vI p2, vI p3] M1) fun v4 M3 =>
      ic (v2 < v4) (
        ic ((0 : Int32) &&& 1 = 0) (
          some (some (vI 0), M3)) none) (
        cIn (call 190 [vI (p0 - p0 / 2 * 2), vI (p0 / 2), vI p1, vI p2, vI p3] M3) fun v6 M5 =>
        cIn (call 190 [vI (1 - (p0 - p0 / 2 * 2)), vI (p0 / 2), vI p1, vI p2, vI p3] M5) fun v8 M7 =>
        ic (v6 < v8) (
          ic ((0 : Int32) &&& 1 = 0) (
            some (some (vI 0), M7)) none) (
          ic ((1 : Int32) &&& 1 = 1) (
            some (some (vI 1), M7)) none)))) := rfl
set_option maxRecDepth 100000 in
theorem e189 (d : Nat) (p0 : Int32) (p1 : Int32) (p2 : Int32) (p3 : Int32) (M : Mem) : evD (d + 1) 189 [vI p0, vI p1, vI p2, vI p3] M =
  cIn (evD d 190 [vI (p0 / 2), vI (p0 - p0 / 2 * 2), vI p1, vI p2, vI p3] M) fun v2 M1 =>
  cIn (evD d 190 [vI (1 - (p0 / 2)), vI (p0 - p0 / 2 * 2), vI p1, vI p2, vI p3] M1) fun v4 M3 =>
  ic (v2 < v4) (
    some (some (vI 0), M3)) (
    cIn (evD d 190 [vI (p0 - p0 / 2 * 2), vI (p0 / 2), vI p1, vI p2, vI p3] M3) fun v6 M5 =>
    cIn (evD d 190 [vI (1 - (p0 - p0 / 2 * 2)), vI (p0 / 2), vI p1, vI p2, vI p3] M5) fun v8 M7 =>
    ic (v6 < v8) (
      some (some (vI 0), M7)) (
      some (some (vI 1), M7))) := ((evD_step (d := d) (x := 189) (as := [vI p0, vI p1, vI p2, vI p3]) (M := M) (md := (⟨"IceParliament", "isRest", "(IIII)Z"⟩, prog_1_method_32_code, 6, (Option.some Jvm.ClassFile.FieldType.boolean), 11, 99)) rfl rfl).trans (j189 (evD d) (evp0 (lkE (codT 189)) (hdT 189) (evD d)) p0 p1 p2 p3 M)).trans (by (try simp only [ic_f (show ¬ ((2 : Int32) = 0) by decide), ic_t (show (0 : Int32) &&& 1 = 0 by decide), ic_t (show (1 : Int32) &&& 1 = 1 by decide)]))
-- IceParliament gets(IIIII)I
set_option maxRecDepth 100000 in
theorem j190 (call : Nat → List AV → Mem → Res) (back : Nat → Lv → Mem → Res) (p0 : Int32) (p1 : Int32) (p2 : Int32) (p3 : Int32) (p4 : Int32) (M : Mem) : evj (lkE cd_190) [] call back 4000 0 [some (vI p0), some (vI p1), some (vI p2), some (vI p3), some (vI p4)] [] M =
  ic (p0 = 0) (
    ic (p1 = 0) (
      some (some (vI p2), M)) (
      some (some (vI 0), M))) (
    ic (p1 = 0) (
      some (some (vI p3), M)) (
      some (some (vI (-p4)), M))) := rfl
set_option maxRecDepth 100000 in
theorem e190 (d : Nat) (p0 : Int32) (p1 : Int32) (p2 : Int32) (p3 : Int32) (p4 : Int32) (M : Mem) : evD (d + 1) 190 [vI p0, vI p1, vI p2, vI p3, vI p4] M =
  ic (p0 = 0) (
    ic (p1 = 0) (
      some (some (vI p2), M)) (
      some (some (vI 0), M))) (
    ic (p1 = 0) (
      some (some (vI p3), M)) (
      some (some (vI (-p4)), M))) := ((evD_step (d := d) (x := 190) (as := [vI p0, vI p1, vI p2, vI p3, vI p4]) (M := M) (md := (⟨"IceParliament", "gets", "(IIIII)I"⟩, prog_1_method_33_code, 5, (Option.some Jvm.ClassFile.FieldType.int), 11, 99)) rfl rfl).trans (j190 (evD d) (evp0 (lkE (codT 190)) (hdT 190) (evD d)) p0 p1 p2 p3 p4 M))
