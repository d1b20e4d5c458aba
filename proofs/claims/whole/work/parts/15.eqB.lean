/-! REGIONS OF THE PROGRAM, by symbolic evaluation (printed by a program) -/
-- IceParliamentModel thrown()I
set_option maxRecDepth 100000 in
theorem j191 (call : Nat → List AV → Mem → Res) (back : Nat → Lv → Mem → Res)  (M : Mem) : evj (lkE cd_191) [] call back 4000 0 [some (vR 12 0 253)] [] M =
  some (some (vI (M.1 253 0)), M) := rfl
set_option maxRecDepth 100000 in
theorem e191 (d : Nat)  (M : Mem) : evD (d + 1) 191 [vR 12 0 253] M =
  some (some (vI (M.1 253 0)), M) := ((evD_step (d := d) (x := 191) (as := [vR 12 0 253]) (M := M) (md := (⟨"IceParliamentModel", "thrown", "()I"⟩, prog_14_method_1_code, 1, (Option.some Jvm.ClassFile.FieldType.int), 12, 12)) rfl rfl).trans (j191 (evD d) (evp0 (lkE (codT 191)) (hdT 191) (evD d))  M))
-- IceParliamentModel feed(JJJ)I
set_option maxRecDepth 100000 in
theorem j192 (call : Nat → List AV → Mem → Res) (back : Nat → Lv → Mem → Res) (p0 : Int64) (p1 : Int64) (p2 : Int64) (M : Mem) : evj (lkE cd_192) [] call back 4000 0 [some (vR 12 0 253), some (vJ p0), none, some (vJ p1), none, some (vJ p2), none] [] M =
  cVd (call 193 [vR 12 0 253, vJ p0] (sI M 253 0 0)) fun M1 =>
  cVd (call 193 [vR 12 0 253, vJ p1] M1) fun M2 =>
  cVd (call 193 [vR 12 0 253, vJ p2] M2) fun M3 =>
  some (some (vI (M3.1 253 2)), M3) := rfl
set_option maxRecDepth 100000 in
theorem e192 (d : Nat) (p0 : Int64) (p1 : Int64) (p2 : Int64) (M : Mem) : evD (d + 1) 192 [vR 12 0 253, vJ p0, vJ p1, vJ p2] M =
  cVd (evD d 193 [vR 12 0 253, vJ p0] (sI M 253 0 0)) fun M1 =>
  cVd (evD d 193 [vR 12 0 253, vJ p1] M1) fun M2 =>
  cVd (evD d 193 [vR 12 0 253, vJ p2] M2) fun M3 =>
  some (some (vI (M3.1 253 2)), M3) := ((evD_step (d := d) (x := 192) (as := [vR 12 0 253, vJ p0, vJ p1, vJ p2]) (M := M) (md := (⟨"IceParliamentModel", "feed", "(JJJ)I"⟩, prog_14_method_2_code, 7, (Option.some Jvm.ClassFile.FieldType.int), 12, 12)) rfl rfl).trans (j192 (evD d) (evp0 (lkE (codT 192)) (hdT 192) (evD d)) p0 p1 p2 M))
-- IceParliamentModel lay(J)V
set_option maxRecDepth 100000 in
theorem j193 (call : Nat → List AV → Mem → Res) (back : Nat → Lv → Mem → Res) (p0 : Int64) (M : Mem) : evj (lkE cd_193) [3] call back 4000 0 [some (vR 12 0 253), some (vJ p0), none, none, none] [] M =
  back 3 [some (vR 12 0 253), some (vJ p0), none, some (vI 56), none] M := rfl
set_option maxRecDepth 100000 in
theorem e193 (d : Nat) (p0 : Int64) (M : Mem) : evD (d + 1) 193 [vR 12 0 253, vJ p0] M =
  lp0 d 193 3 [some (vR 12 0 253), some (vJ p0), none, some (vI 56), none] M := ((evD_step (d := d) (x := 193) (as := [vR 12 0 253, vJ p0]) (M := M) (md := (⟨"IceParliamentModel", "lay", "(J)V"⟩, prog_14_method_3_code, 5, (Option.none : Option Jvm.ClassFile.FieldType), 12, 12)) rfl rfl).trans (j193 (evD d) (evp0 (lkE (codT 193)) (hdT 193) (evD d)) p0 M))
set_option maxRecDepth 100000 in
theorem g193_3 (call : Nat → List AV → Mem → Res) (back : Nat → Lv → Mem → Res) (l1 : Int64) (l3 : Int32) (o4 : Option AV) (M : Mem) : stepK call back (evj (lkE cd_193) [3] call back 4000) (.iload_n 3, 1, 3, 0, 0, 0, 0) 3 [some (vR 12 0 253), some (vJ l1), none, some (vI l3), o4] [] M =
  ic (l3 < 0) (
    some (none, M)) (
    ic (((l1 >>> (l3.toInt64 &&& 63)).toInt32) &&& 255 = 10) (
      ic (M.1 253 2 < 1000) (
        ic (M.1 253 2 < 0 ∨ 1000 ≤ (M.1 253 2).toNatClampNeg) none (
          back 3 [some (vR 12 0 253), some (vJ l1), none, some (vI (l3 + (-8))), some (vI (((l1 >>> (l3.toInt64 &&& 63)).toInt32) &&& 255))] (sI (sI M 254 ((M.1 253 2).toNatClampNeg) (((l1 >>> (l3.toInt64 &&& 63)).toInt32) &&& 255)) 253 2 (((sI M 254 ((M.1 253 2).toNatClampNeg) (((l1 >>> (l3.toInt64 &&& 63)).toInt32) &&& 255)).1 253 2) + 1)))) (
        back 3 [some (vR 12 0 253), some (vJ l1), none, some (vI (l3 + (-8))), some (vI (((l1 >>> (l3.toInt64 &&& 63)).toInt32) &&& 255))] M)) (
      ic (((l1 >>> (l3.toInt64 &&& 63)).toInt32) &&& 255 < 32) (
        back 3 [some (vR 12 0 253), some (vJ l1), none, some (vI (l3 + (-8))), some (vI (((l1 >>> (l3.toInt64 &&& 63)).toInt32) &&& 255))] M) (
        ic (126 < ((l1 >>> (l3.toInt64 &&& 63)).toInt32) &&& 255) (
          back 3 [some (vR 12 0 253), some (vJ l1), none, some (vI (l3 + (-8))), some (vI (((l1 >>> (l3.toInt64 &&& 63)).toInt32) &&& 255))] M) (
          ic (M.1 253 2 < 1000) (
            ic (M.1 253 2 < 0 ∨ 1000 ≤ (M.1 253 2).toNatClampNeg) none (
              back 3 [some (vR 12 0 253), some (vJ l1), none, some (vI (l3 + (-8))), some (vI (((l1 >>> (l3.toInt64 &&& 63)).toInt32) &&& 255))] (sI (sI M 254 ((M.1 253 2).toNatClampNeg) (((l1 >>> (l3.toInt64 &&& 63)).toInt32) &&& 255)) 253 2 (((sI M 254 ((M.1 253 2).toNatClampNeg) (((l1 >>> (l3.toInt64 &&& 63)).toInt32) &&& 255)).1 253 2) + 1)))) (
            back 3 [some (vR 12 0 253), some (vJ l1), none, some (vI (l3 + (-8))), some (vI (((l1 >>> (l3.toInt64 &&& 63)).toInt32) &&& 255))] M))))) := rfl
set_option maxRecDepth 100000 in
theorem e193_3 (d F : Nat) (l1 : Int64) (l3 : Int32) (o4 : Option AV) (M : Mem) : lp d 193 (F + 1) 3 [some (vR 12 0 253), some (vJ l1), none, some (vI l3), o4] M =
  ic (l3 < 0) (
    some (none, M)) (
    ic (((l1 >>> (l3.toInt64 &&& 63)).toInt32) &&& 255 = 10) (
      ic (M.1 253 2 < 1000) (
        ic (M.1 253 2 < 0 ∨ 1000 ≤ (M.1 253 2).toNatClampNeg) none (
          lp d 193 F 3 [some (vR 12 0 253), some (vJ l1), none, some (vI (l3 + (-8))), some (vI (((l1 >>> (l3.toInt64 &&& 63)).toInt32) &&& 255))] (sI (sI M 254 ((M.1 253 2).toNatClampNeg) (((l1 >>> (l3.toInt64 &&& 63)).toInt32) &&& 255)) 253 2 (((sI M 254 ((M.1 253 2).toNatClampNeg) (((l1 >>> (l3.toInt64 &&& 63)).toInt32) &&& 255)).1 253 2) + 1)))) (
        lp d 193 F 3 [some (vR 12 0 253), some (vJ l1), none, some (vI (l3 + (-8))), some (vI (((l1 >>> (l3.toInt64 &&& 63)).toInt32) &&& 255))] M)) (
      ic (((l1 >>> (l3.toInt64 &&& 63)).toInt32) &&& 255 < 32) (
        lp d 193 F 3 [some (vR 12 0 253), some (vJ l1), none, some (vI (l3 + (-8))), some (vI (((l1 >>> (l3.toInt64 &&& 63)).toInt32) &&& 255))] M) (
        ic (126 < ((l1 >>> (l3.toInt64 &&& 63)).toInt32) &&& 255) (
          lp d 193 F 3 [some (vR 12 0 253), some (vJ l1), none, some (vI (l3 + (-8))), some (vI (((l1 >>> (l3.toInt64 &&& 63)).toInt32) &&& 255))] M) (
          ic (M.1 253 2 < 1000) (
            ic (M.1 253 2 < 0 ∨ 1000 ≤ (M.1 253 2).toNatClampNeg) none (
              lp d 193 F 3 [some (vR 12 0 253), some (vJ l1), none, some (vI (l3 + (-8))), some (vI (((l1 >>> (l3.toInt64 &&& 63)).toInt32) &&& 255))] (sI (sI M 254 ((M.1 253 2).toNatClampNeg) (((l1 >>> (l3.toInt64 &&& 63)).toInt32) &&& 255)) 253 2 (((sI M 254 ((M.1 253 2).toNatClampNeg) (((l1 >>> (l3.toInt64 &&& 63)).toInt32) &&& 255)).1 253 2) + 1)))) (
            lp d 193 F 3 [some (vR 12 0 253), some (vJ l1), none, some (vI (l3 + (-8))), some (vI (((l1 >>> (l3.toInt64 &&& 63)).toInt32) &&& 255))] M))))) := ((evp_step (code := lkE (codT 193)) (hd := hdT 193) (call := evD d) (F := F) (pc := 3) (lv := [some (vR 12 0 253), some (vJ l1), none, some (vI l3), o4]) (M := M) (e := (.iload_n 3, 1, 3, 0, 0, 0, 0)) rfl).trans (g193_3 (evD d) (evp (lkE (codT 193)) (hdT 193) (evD d) F) l1 l3 o4 M))
-- IceParliamentModel standsAsAlways(I)V
set_option maxRecDepth 100000 in
theorem j194 (call : Nat → List AV → Mem → Res) (back : Nat → Lv → Mem → Res) (p0 : Int32) (M : Mem) : evj (lkE cd_194) [2] call back 4000 0 [some (vR 12 0 253), some (vI p0), none] [] M =
  back 2 [some (vR 12 0 253), some (vI p0), some (vI 0)] M := rfl
set_option maxRecDepth 100000 in
theorem e194 (d : Nat) (p0 : Int32) (M : Mem) : evD (d + 1) 194 [vR 12 0 253, vI p0] M =
  lp0 d 194 2 [some (vR 12 0 253), some (vI p0), some (vI 0)] M := ((evD_step (d := d) (x := 194) (as := [vR 12 0 253, vI p0]) (M := M) (md := (⟨"IceParliamentModel", "standsAsAlways", "(I)V"⟩, prog_14_method_18_code, 3, (Option.none : Option Jvm.ClassFile.FieldType), 12, 12)) rfl rfl).trans (j194 (evD d) (evp0 (lkE (codT 194)) (hdT 194) (evD d)) p0 M))
set_option maxRecDepth 100000 in
theorem g194_2 (call : Nat → List AV → Mem → Res) (back : Nat → Lv → Mem → Res) (l1 : Int32) (l2 : Int32) (M : Mem) : stepK call back (evj (lkE cd_194) [2] call back 4000) (.iload_n 2, 1, 2, 0, 0, 0, 0) 2 [some (vR 12 0 253), some (vI l1), some (vI l2)] [] M =
  ic (l2 < 110) (
    ic (l1 + l2 < 0 ∨ 220 ≤ (l1 + l2).toNatClampNeg) none (
      back 2 [some (vR 12 0 253), some (vI l1), some (vI (l2 + 1))] (sI M 259 ((l1 + l2).toNatClampNeg) 0))) (
    ic (l1 + 4 < 0 ∨ 220 ≤ (l1 + 4).toNatClampNeg) none (
      ic (l1 + 92 < 0 ∨ 220 ≤ (l1 + 92).toNatClampNeg) none (
        ic (l1 + 6 < 0 ∨ 220 ≤ (l1 + 6).toNatClampNeg) none (
          ic ((l1 + 6) + 1 < 0 ∨ 220 ≤ ((l1 + 6) + 1).toNatClampNeg) none (
            some (none, sI (sI (sI (sI M 259 ((l1 + 4).toNatClampNeg) 1) 259 ((l1 + 92).toNatClampNeg) 3) 259 ((l1 + 6).toNatClampNeg) (-1)) 259 (((l1 + 6) + 1).toNatClampNeg) (-1))))))) := rfl
set_option maxRecDepth 100000 in
theorem e194_2 (d F : Nat) (l1 : Int32) (l2 : Int32) (M : Mem) : lp d 194 (F + 1) 2 [some (vR 12 0 253), some (vI l1), some (vI l2)] M =
  ic (l2 < 110) (
    ic (l1 + l2 < 0 ∨ 220 ≤ (l1 + l2).toNatClampNeg) none (
      lp d 194 F 2 [some (vR 12 0 253), some (vI l1), some (vI (l2 + 1))] (sI M 259 ((l1 + l2).toNatClampNeg) 0))) (
    ic (l1 + 4 < 0 ∨ 220 ≤ (l1 + 4).toNatClampNeg) none (
      ic (l1 + 92 < 0 ∨ 220 ≤ (l1 + 92).toNatClampNeg) none (
        ic (l1 + 6 < 0 ∨ 220 ≤ (l1 + 6).toNatClampNeg) none (
          ic ((l1 + 6) + 1 < 0 ∨ 220 ≤ ((l1 + 6) + 1).toNatClampNeg) none (
            some (none, sI (sI (sI (sI M 259 ((l1 + 4).toNatClampNeg) 1) 259 ((l1 + 92).toNatClampNeg) 3) 259 ((l1 + 6).toNatClampNeg) (-1)) 259 (((l1 + 6) + 1).toNatClampNeg) (-1))))))) := ((evp_step (code := lkE (codT 194)) (hd := hdT 194) (call := evD d) (F := F) (pc := 2) (lv := [some (vR 12 0 253), some (vI l1), some (vI l2)]) (M := M) (e := (.iload_n 2, 1, 2, 0, 0, 0, 0)) rfl).trans (g194_2 (evD d) (evp (lkE (codT 194)) (hdT 194) (evD d) F) l1 l2 M))
-- IceParliamentModel begins()V
set_option maxRecDepth 100000 in
theorem j195 (call : Nat → List AV → Mem → Res) (back : Nat → Lv → Mem → Res)  (M : Mem) : evj (lkE cd_195) [19] call back 4000 0 [some (vR 12 0 253), none] [] M =
  cVd (call 196 [vR 12 0 253, vI 0] M) fun M1 =>
  ic ((0 : Int32) < 0 ∨ 250 ≤ (0 : Int32).toNatClampNeg) none (
    back 19 [some (vR 12 0 253), some (vI 0)] (sI (sI M1 266 ((0 : Int32).toNatClampNeg) 0) 253 26 0)) := rfl
set_option maxRecDepth 100000 in
theorem e195 (d : Nat)  (M : Mem) : evD (d + 1) 195 [vR 12 0 253] M =
  cVd (evD d 196 [vR 12 0 253, vI 0] M) fun M1 =>
  lp0 d 195 19 [some (vR 12 0 253), some (vI 0)] (sI (sI M1 266 0 0) 253 26 0) := ((evD_step (d := d) (x := 195) (as := [vR 12 0 253]) (M := M) (md := (⟨"IceParliamentModel", "begins", "()V"⟩, prog_14_method_47_code, 2, (Option.none : Option Jvm.ClassFile.FieldType), 12, 12)) rfl rfl).trans (j195 (evD d) (evp0 (lkE (codT 195)) (hdT 195) (evD d))  M)).trans (by (try simp only [ic_f (show ¬ ((0 : Int32) < 0 ∨ 250 ≤ (0 : Int32).toNatClampNeg) by decide)]); (try simp only [show (0 : Int32).toNatClampNeg = 0 from rfl]))
set_option maxRecDepth 100000 in
theorem g195_19 (call : Nat → List AV → Mem → Res) (back : Nat → Lv → Mem → Res) (l1 : Int32) (M : Mem) : stepK call back (evj (lkE cd_195) [19] call back 4000) (.iload_n 1, 1, 1, 0, 0, 0, 0) 19 [some (vR 12 0 253), some (vI l1)] [] M =
  ic (l1 < 4) (
    ic (l1 < 0 ∨ 4 ≤ l1.toNatClampNeg) none (
      back 19 [some (vR 12 0 253), some (vI (l1 + 1))] (sI M 270 l1.toNatClampNeg (vp_nar .boolean 0)))) (
    some (none, M)) := rfl
set_option maxRecDepth 100000 in
theorem e195_19 (d F : Nat) (l1 : Int32) (M : Mem) : lp d 195 (F + 1) 19 [some (vR 12 0 253), some (vI l1)] M =
  ic (l1 < 4) (
    ic (l1 < 0 ∨ 4 ≤ l1.toNatClampNeg) none (
      lp d 195 F 19 [some (vR 12 0 253), some (vI (l1 + 1))] (sI M 270 l1.toNatClampNeg (vp_nar .boolean 0)))) (
    some (none, M)) := ((evp_step (code := lkE (codT 195)) (hd := hdT 195) (call := evD d) (F := F) (pc := 19) (lv := [some (vR 12 0 253), some (vI l1)]) (M := M) (e := (.iload_n 1, 1, 1, 0, 0, 0, 0)) rfl).trans (g195_19 (evD d) (evp (lkE (codT 195)) (hdT 195) (evD d) F) l1 M))
-- IceParliamentModel starts(I)V
set_option maxRecDepth 100000 in
theorem j196 (call : Nat → List AV → Mem → Res) (back : Nat → Lv → Mem → Res) (p0 : Int32) (M : Mem) : evj (lkE cd_196) [2, 25] call back 4000 0 [some (vR 12 0 253), some (vI p0), none] [] M =
  back 2 [some (vR 12 0 253), some (vI p0), some (vI 0)] M := rfl
set_option maxRecDepth 100000 in
theorem e196 (d : Nat) (p0 : Int32) (M : Mem) : evD (d + 1) 196 [vR 12 0 253, vI p0] M =
  lp0 d 196 2 [some (vR 12 0 253), some (vI p0), some (vI 0)] M := ((evD_step (d := d) (x := 196) (as := [vR 12 0 253, vI p0]) (M := M) (md := (⟨"IceParliamentModel", "starts", "(I)V"⟩, prog_14_method_46_code, 3, (Option.none : Option Jvm.ClassFile.FieldType), 12, 12)) rfl rfl).trans (j196 (evD d) (evp0 (lkE (codT 196)) (hdT 196) (evD d)) p0 M))
set_option maxRecDepth 100000 in
theorem g196_2 (call : Nat → List AV → Mem → Res) (back : Nat → Lv → Mem → Res) (l1 : Int32) (l2 : Int32) (M : Mem) : stepK call back (evj (lkE cd_196) [2, 25] call back 4000) (.iload_n 2, 1, 2, 0, 0, 0, 0) 2 [some (vR 12 0 253), some (vI l1), some (vI l2)] [] M =
  ic (l2 < 49) (
    ic (l1 + l2 < 0 ∨ 1127 ≤ (l1 + l2).toNatClampNeg) none (
      back 2 [some (vR 12 0 253), some (vI l1), some (vI (l2 + 1))] (sI M 269 ((l1 + l2).toNatClampNeg) 0))) (
    back 25 [some (vR 12 0 253), some (vI l1), some (vI 0)] M) := rfl
set_option maxRecDepth 100000 in
theorem e196_2 (d F : Nat) (l1 : Int32) (l2 : Int32) (M : Mem) : lp d 196 (F + 1) 2 [some (vR 12 0 253), some (vI l1), some (vI l2)] M =
  ic (l2 < 49) (
    ic (l1 + l2 < 0 ∨ 1127 ≤ (l1 + l2).toNatClampNeg) none (
      lp d 196 F 2 [some (vR 12 0 253), some (vI l1), some (vI (l2 + 1))] (sI M 269 ((l1 + l2).toNatClampNeg) 0))) (
    lp d 196 F 25 [some (vR 12 0 253), some (vI l1), some (vI 0)] M) := ((evp_step (code := lkE (codT 196)) (hd := hdT 196) (call := evD d) (F := F) (pc := 2) (lv := [some (vR 12 0 253), some (vI l1), some (vI l2)]) (M := M) (e := (.iload_n 2, 1, 2, 0, 0, 0, 0)) rfl).trans (g196_2 (evD d) (evp (lkE (codT 196)) (hdT 196) (evD d) F) l1 l2 M))
set_option maxRecDepth 100000 in
theorem g196_25 (call : Nat → List AV → Mem → Res) (back : Nat → Lv → Mem → Res) (l1 : Int32) (l2 : Int32) (M : Mem) : stepK call back (evj (lkE cd_196) [2, 25] call back 4000) (.iload_n 2, 1, 2, 0, 0, 0, 0) 25 [some (vR 12 0 253), some (vI l1), some (vI l2)] [] M =
  ic (l2 < 6) (
    cIn (call 197 [vR 12 0 253] M) fun v2 M1 =>
    ic (l2 < v2) (
      cIn (call 198 [vR 12 0 253, vI l2, vI 1] M1) fun v4 M3 =>
      ic ((l1 + 7) + l2 < 0 ∨ 1127 ≤ ((l1 + 7) + l2).toNatClampNeg) none (
        ic ((l1 + 31) + l2 < 0 ∨ 1127 ≤ ((l1 + 31) + l2).toNatClampNeg) none (
          ic ((l1 + 43) + l2 < 0 ∨ 1127 ≤ ((l1 + 43) + l2).toNatClampNeg) none (
            back 25 [some (vR 12 0 253), some (vI l1), some (vI (l2 + 1))] (sI (sI (sI M3 269 (((l1 + 7) + l2).toNatClampNeg) v4) 269 (((l1 + 31) + l2).toNatClampNeg) (-1)) 269 (((l1 + 43) + l2).toNatClampNeg) (-1)))))) (
      ic ((l1 + 7) + l2 < 0 ∨ 1127 ≤ ((l1 + 7) + l2).toNatClampNeg) none (
        ic ((l1 + 31) + l2 < 0 ∨ 1127 ≤ ((l1 + 31) + l2).toNatClampNeg) none (
          ic ((l1 + 43) + l2 < 0 ∨ 1127 ≤ ((l1 + 43) + l2).toNatClampNeg) none (
            back 25 [some (vR 12 0 253), some (vI l1), some (vI (l2 + 1))] (sI (sI (sI M1 269 (((l1 + 7) + l2).toNatClampNeg) 0) 269 (((l1 + 31) + l2).toNatClampNeg) (-1)) 269 (((l1 + 43) + l2).toNatClampNeg) (-1))))))) (
    some (none, M)) := rfl
set_option maxRecDepth 100000 in
theorem e196_25 (d F : Nat) (l1 : Int32) (l2 : Int32) (M : Mem) : lp d 196 (F + 1) 25 [some (vR 12 0 253), some (vI l1), some (vI l2)] M =
  ic (l2 < 6) (
    cIn (evD d 197 [vR 12 0 253] M) fun v2 M1 =>
    ic (l2 < v2) (
      cIn (evD d 198 [vR 12 0 253, vI l2, vI 1] M1) fun v4 M3 =>
      ic ((l1 + 7) + l2 < 0 ∨ 1127 ≤ ((l1 + 7) + l2).toNatClampNeg) none (
        ic ((l1 + 31) + l2 < 0 ∨ 1127 ≤ ((l1 + 31) + l2).toNatClampNeg) none (
          ic ((l1 + 43) + l2 < 0 ∨ 1127 ≤ ((l1 + 43) + l2).toNatClampNeg) none (
            lp d 196 F 25 [some (vR 12 0 253), some (vI l1), some (vI (l2 + 1))] (sI (sI (sI M3 269 (((l1 + 7) + l2).toNatClampNeg) v4) 269 (((l1 + 31) + l2).toNatClampNeg) (-1)) 269 (((l1 + 43) + l2).toNatClampNeg) (-1)))))) (
      ic ((l1 + 7) + l2 < 0 ∨ 1127 ≤ ((l1 + 7) + l2).toNatClampNeg) none (
        ic ((l1 + 31) + l2 < 0 ∨ 1127 ≤ ((l1 + 31) + l2).toNatClampNeg) none (
          ic ((l1 + 43) + l2 < 0 ∨ 1127 ≤ ((l1 + 43) + l2).toNatClampNeg) none (
            lp d 196 F 25 [some (vR 12 0 253), some (vI l1), some (vI (l2 + 1))] (sI (sI (sI M1 269 (((l1 + 7) + l2).toNatClampNeg) 0) 269 (((l1 + 31) + l2).toNatClampNeg) (-1)) 269 (((l1 + 43) + l2).toNatClampNeg) (-1))))))) (
    some (none, M)) := ((evp_step (code := lkE (codT 196)) (hd := hdT 196) (call := evD d) (F := F) (pc := 25) (lv := [some (vR 12 0 253), some (vI l1), some (vI l2)]) (M := M) (e := (.iload_n 2, 1, 2, 0, 0, 0, 0)) rfl).trans (g196_25 (evD d) (evp (lkE (codT 196)) (hdT 196) (evD d) F) l1 l2 M))
-- IceParliamentModel acts()I
set_option maxRecDepth 100000 in
theorem j197 (call : Nat → List AV → Mem → Res) (back : Nat → Lv → Mem → Res)  (M : Mem) : evj (lkE cd_197) [] call back 4000 0 [some (vR 12 0 253)] [] M =
  ic ((2 : Int32) < 0 ∨ 220 ≤ (2 : Int32).toNatClampNeg) none (
    some (some (vI (M.1 259 (2 : Int32).toNatClampNeg)), M)) := rfl
set_option maxRecDepth 100000 in
theorem e197 (d : Nat)  (M : Mem) : evD (d + 1) 197 [vR 12 0 253] M =
  some (some (vI (M.1 259 2)), M) := ((evD_step (d := d) (x := 197) (as := [vR 12 0 253]) (M := M) (md := (⟨"IceParliamentModel", "acts", "()I"⟩, prog_14_method_51_code, 1, (Option.some Jvm.ClassFile.FieldType.int), 12, 12)) rfl rfl).trans (j197 (evD d) (evp0 (lkE (codT 197)) (hdT 197) (evD d))  M)).trans (by (try simp only [ic_f (show ¬ ((2 : Int32) < 0 ∨ 220 ≤ (2 : Int32).toNatClampNeg) by decide)]); (try simp only [show (2 : Int32).toNatClampNeg = 2 from rfl]))
-- IceParliamentModel actOf(II)I
set_option maxRecDepth 100000 in
theorem j198 (call : Nat → List AV → Mem → Res) (back : Nat → Lv → Mem → Res) (p0 : Int32) (p1 : Int32) (M : Mem) : evj (lkE cd_198) [] call back 4000 0 [some (vR 12 0 253), some (vI p0), some (vI p1)] [] M =
  ic ((26 + (5 * p0)) + p1 < 0 ∨ 220 ≤ ((26 + (5 * p0)) + p1).toNatClampNeg) none (
    some (some (vI (M.1 259 ((26 + (5 * p0)) + p1).toNatClampNeg)), M)) := rfl
set_option maxRecDepth 100000 in
theorem e198 (d : Nat) (p0 : Int32) (p1 : Int32) (M : Mem) : evD (d + 1) 198 [vR 12 0 253, vI p0, vI p1] M =
  ic ((26 + (5 * p0)) + p1 < 0 ∨ 220 ≤ ((26 + (5 * p0)) + p1).toNatClampNeg) none (
    some (some (vI (M.1 259 ((26 + (5 * p0)) + p1).toNatClampNeg)), M)) := ((evD_step (d := d) (x := 198) (as := [vR 12 0 253, vI p0, vI p1]) (M := M) (md := (⟨"IceParliamentModel", "actOf", "(II)I"⟩, prog_14_method_52_code, 3, (Option.some Jvm.ClassFile.FieldType.int), 12, 12)) rfl rfl).trans (j198 (evD d) (evp0 (lkE (codT 198)) (hdT 198) (evD d)) p0 p1 M))
-- IceParliamentModel yard()I
set_option maxRecDepth 100000 in
theorem j199 (call : Nat → List AV → Mem → Res) (back : Nat → Lv → Mem → Res)  (M : Mem) : evj (lkE cd_199) [30, 76, 105, 153] call back 4000 0 [some (vR 12 0 253), none] [] M =
  cVd (call 200 [vR 12 0 253] (sI M 253 0 0)) fun M1 =>
  cVd (call 194 [vR 12 0 253, vI 110] (sI (sI (sI M1 253 13 0) 253 19 0) 253 20 0)) fun M2 =>
  back 30 [some (vR 12 0 253), none] M2 := rfl
set_option maxRecDepth 100000 in
theorem e199 (d : Nat)  (M : Mem) : evD (d + 1) 199 [vR 12 0 253] M =
  cVd (evD d 200 [vR 12 0 253] (sI M 253 0 0)) fun M1 =>
  cVd (evD d 194 [vR 12 0 253, vI 110] (sI (sI (sI M1 253 13 0) 253 19 0) 253 20 0)) fun M2 =>
  lp0 d 199 30 [some (vR 12 0 253), none] M2 := ((evD_step (d := d) (x := 199) (as := [vR 12 0 253]) (M := M) (md := (⟨"IceParliamentModel", "yard", "()I"⟩, prog_14_method_27_code, 2, (Option.some Jvm.ClassFile.FieldType.int), 12, 12)) rfl rfl).trans (j199 (evD d) (evp0 (lkE (codT 199)) (hdT 199) (evD d))  M))
set_option maxRecDepth 100000 in
theorem g199_30 (call : Nat → List AV → Mem → Res) (back : Nat → Lv → Mem → Res) (o1 : Option AV) (M : Mem) : stepK call back (evj (lkE cd_199) [30, 76, 105, 153] call back 4000) (.aload_n 0, 1, 0, 0, 0, 0, 0) 30 [some (vR 12 0 253), o1] [] M =
  ic (M.1 253 8 = 0) (
    ic (M.1 253 7 < 0 ∨ 1002 ≤ (M.1 253 7).toNatClampNeg) none (
      ic (M.1 255 (M.1 253 7).toNatClampNeg = 0) (
        ic (0 < M.1 253 8) (
          some (some (vI (M.1 253 8)), M)) (
          back 76 [some (vR 12 0 253), some (vI 0)] M)) (
        cVd (call 205 [vR 12 0 253] M) fun M1 =>
        cVd (call 234 [vR 12 0 253, vI 59] M1) fun M2 =>
        back 30 [some (vR 12 0 253), o1] M2))) (
    ic (0 < M.1 253 8) (
      some (some (vI (M.1 253 8)), M)) (
      back 76 [some (vR 12 0 253), some (vI 0)] M)) := rfl
set_option maxRecDepth 100000 in
theorem e199_30 (d F : Nat) (o1 : Option AV) (M : Mem) : lp d 199 (F + 1) 30 [some (vR 12 0 253), o1] M =
  ic (M.1 253 8 = 0) (
    ic (M.1 253 7 < 0 ∨ 1002 ≤ (M.1 253 7).toNatClampNeg) none (
      ic (M.1 255 (M.1 253 7).toNatClampNeg = 0) (
        ic (0 < M.1 253 8) (
          some (some (vI (M.1 253 8)), M)) (
          lp d 199 F 76 [some (vR 12 0 253), some (vI 0)] M)) (
        cVd (evD d 205 [vR 12 0 253] M) fun M1 =>
        cVd (evD d 234 [vR 12 0 253, vI 59] M1) fun M2 =>
        lp d 199 F 30 [some (vR 12 0 253), o1] M2))) (
    ic (0 < M.1 253 8) (
      some (some (vI (M.1 253 8)), M)) (
      lp d 199 F 76 [some (vR 12 0 253), some (vI 0)] M)) := ((evp_step (code := lkE (codT 199)) (hd := hdT 199) (call := evD d) (F := F) (pc := 30) (lv := [some (vR 12 0 253), o1]) (M := M) (e := (.aload_n 0, 1, 0, 0, 0, 0, 0)) rfl).trans (g199_30 (evD d) (evp (lkE (codT 199)) (hdT 199) (evD d) F) o1 M))
set_option maxRecDepth 100000 in
theorem g199_76 (call : Nat → List AV → Mem → Res) (back : Nat → Lv → Mem → Res) (l1 : Int32) (M : Mem) : stepK call back (evj (lkE cd_199) [30, 76, 105, 153] call back 4000) (.iload_n 1, 1, 1, 0, 0, 0, 0) 76 [some (vR 12 0 253), some (vI l1)] [] M =
  ic (l1 < 110) (
    ic (110 + l1 < 0 ∨ 220 ≤ (110 + l1).toNatClampNeg) none (
      ic (l1 < 0 ∨ 220 ≤ l1.toNatClampNeg) none (
        back 76 [some (vR 12 0 253), some (vI (l1 + 1))] (sI M 259 l1.toNatClampNeg (M.1 259 (110 + l1).toNatClampNeg))))) (
    back 105 [some (vR 12 0 253), some (vI 0)] M) := rfl
set_option maxRecDepth 100000 in
theorem e199_76 (d F : Nat) (l1 : Int32) (M : Mem) : lp d 199 (F + 1) 76 [some (vR 12 0 253), some (vI l1)] M =
  ic (l1 < 110) (
    ic (110 + l1 < 0 ∨ 220 ≤ (110 + l1).toNatClampNeg) none (
      ic (l1 < 0 ∨ 220 ≤ l1.toNatClampNeg) none (
        lp d 199 F 76 [some (vR 12 0 253), some (vI (l1 + 1))] (sI M 259 l1.toNatClampNeg (M.1 259 (110 + l1).toNatClampNeg))))) (
    lp d 199 F 105 [some (vR 12 0 253), some (vI 0)] M) := ((evp_step (code := lkE (codT 199)) (hd := hdT 199) (call := evD d) (F := F) (pc := 76) (lv := [some (vR 12 0 253), some (vI l1)]) (M := M) (e := (.iload_n 1, 1, 1, 0, 0, 0, 0)) rfl).trans (g199_76 (evD d) (evp (lkE (codT 199)) (hdT 199) (evD d) F) l1 M))
set_option maxRecDepth 100000 in
theorem g199_105 (call : Nat → List AV → Mem → Res) (back : Nat → Lv → Mem → Res) (l1 : Int32) (M : Mem) : stepK call back (evj (lkE cd_199) [30, 76, 105, 153] call back 4000) (.iload_n 1, 1, 1, 0, 0, 0, 0) 105 [some (vR 12 0 253), some (vI l1)] [] M =
  ic (l1 < M.1 253 13) (
    ic (1100 + l1 < 0 ∨ 2200 ≤ (1100 + l1).toNatClampNeg) none (
      ic (l1 < 0 ∨ 2200 ≤ l1.toNatClampNeg) none (
        ic (1100 + l1 < 0 ∨ 2200 ≤ (1100 + l1).toNatClampNeg) none (
          ic (l1 < 0 ∨ 2200 ≤ l1.toNatClampNeg) none (
            back 105 [some (vR 12 0 253), some (vI (l1 + 1))] (sI (sI M 260 l1.toNatClampNeg (M.1 260 (1100 + l1).toNatClampNeg)) 261 l1.toNatClampNeg ((sI M 260 l1.toNatClampNeg (M.1 260 (1100 + l1).toNatClampNeg)).1 261 (1100 + l1).toNatClampNeg))))))) (
    back 153 [some (vR 12 0 253), some (vI 0)] M) := rfl
set_option maxRecDepth 100000 in
theorem e199_105 (d F : Nat) (l1 : Int32) (M : Mem) : lp d 199 (F + 1) 105 [some (vR 12 0 253), some (vI l1)] M =
  ic (l1 < M.1 253 13) (
    ic (1100 + l1 < 0 ∨ 2200 ≤ (1100 + l1).toNatClampNeg) none (
      ic (l1 < 0 ∨ 2200 ≤ l1.toNatClampNeg) none (
        ic (1100 + l1 < 0 ∨ 2200 ≤ (1100 + l1).toNatClampNeg) none (
          ic (l1 < 0 ∨ 2200 ≤ l1.toNatClampNeg) none (
            lp d 199 F 105 [some (vR 12 0 253), some (vI (l1 + 1))] (sI (sI M 260 l1.toNatClampNeg (M.1 260 (1100 + l1).toNatClampNeg)) 261 l1.toNatClampNeg ((sI M 260 l1.toNatClampNeg (M.1 260 (1100 + l1).toNatClampNeg)).1 261 (1100 + l1).toNatClampNeg))))))) (
    lp d 199 F 153 [some (vR 12 0 253), some (vI 0)] M) := ((evp_step (code := lkE (codT 199)) (hd := hdT 199) (call := evD d) (F := F) (pc := 105) (lv := [some (vR 12 0 253), some (vI l1)]) (M := M) (e := (.iload_n 1, 1, 1, 0, 0, 0, 0)) rfl).trans (g199_105 (evD d) (evp (lkE (codT 199)) (hdT 199) (evD d) F) l1 M))
set_option maxRecDepth 100000 in
theorem g199_153 (call : Nat → List AV → Mem → Res) (back : Nat → Lv → Mem → Res) (l1 : Int32) (M : Mem) : stepK call back (evj (lkE cd_199) [30, 76, 105, 153] call back 4000) (.iload_n 1, 1, 1, 0, 0, 0, 0) 153 [some (vR 12 0 253), some (vI l1)] [] M =
  ic (l1 < M.1 253 19) (
    ic (l1 < 0 ∨ 18 ≤ l1.toNatClampNeg) none (
      ic (l1 < 0 ∨ 18 ≤ l1.toNatClampNeg) none (
        ic (l1 < 0 ∨ 18 ≤ l1.toNatClampNeg) none (
          ic (l1 < 0 ∨ 18 ≤ l1.toNatClampNeg) none (
            back 153 [some (vR 12 0 253), some (vI (l1 + 1))] (sI (sJ M 262 l1.toNatClampNeg (M.2.1 263 l1.toNatClampNeg)) 264 l1.toNatClampNeg ((sJ M 262 l1.toNatClampNeg (M.2.1 263 l1.toNatClampNeg)).1 265 l1.toNatClampNeg))))))) (
    cVd (call 195 [vR 12 0 253] (sI M 253 18 (M.1 253 19))) fun M1 =>
    some (some (vI 0), M1)) := rfl
set_option maxRecDepth 100000 in
theorem e199_153 (d F : Nat) (l1 : Int32) (M : Mem) : lp d 199 (F + 1) 153 [some (vR 12 0 253), some (vI l1)] M =
  ic (l1 < M.1 253 19) (
    ic (l1 < 0 ∨ 18 ≤ l1.toNatClampNeg) none (
      ic (l1 < 0 ∨ 18 ≤ l1.toNatClampNeg) none (
        ic (l1 < 0 ∨ 18 ≤ l1.toNatClampNeg) none (
          ic (l1 < 0 ∨ 18 ≤ l1.toNatClampNeg) none (
            lp d 199 F 153 [some (vR 12 0 253), some (vI (l1 + 1))] (sI (sJ M 262 l1.toNatClampNeg (M.2.1 263 l1.toNatClampNeg)) 264 l1.toNatClampNeg ((sJ M 262 l1.toNatClampNeg (M.2.1 263 l1.toNatClampNeg)).1 265 l1.toNatClampNeg))))))) (
    cVd (evD d 195 [vR 12 0 253] (sI M 253 18 (M.1 253 19))) fun M1 =>
    some (some (vI 0), M1)) := ((evp_step (code := lkE (codT 199)) (hd := hdT 199) (call := evD d) (F := F) (pc := 153) (lv := [some (vR 12 0 253), some (vI l1)]) (M := M) (e := (.iload_n 1, 1, 1, 0, 0, 0, 0)) rfl).trans (g199_153 (evD d) (evp (lkE (codT 199)) (hdT 199) (evD d) F) l1 M))
-- IceParliamentModel cutAll()V
set_option maxRecDepth 100000 in
theorem j200 (call : Nat → List AV → Mem → Res) (back : Nat → Lv → Mem → Res)  (M : Mem) : evj (lkE cd_200) [17, 44, 70, 123, 129, 149, 159, 212, 218, 237, 262, 265] call back 4000 0 [some (vR 12 0 253), none, none, none, none, none, none] [] M =
  back 17 [some (vR 12 0 253), some (vI 0), some (vI 0), none, none, none, none] (sI (sI M 253 3 (M.1 253 2)) 253 2 0) := rfl
set_option maxRecDepth 100000 in
theorem e200 (d : Nat)  (M : Mem) : evD (d + 1) 200 [vR 12 0 253] M =
  lp0 d 200 17 [some (vR 12 0 253), some (vI 0), some (vI 0), none, none, none, none] (sI (sI M 253 3 (M.1 253 2)) 253 2 0) := ((evD_step (d := d) (x := 200) (as := [vR 12 0 253]) (M := M) (md := (⟨"IceParliamentModel", "cutAll", "()V"⟩, prog_14_method_9_code, 7, (Option.none : Option Jvm.ClassFile.FieldType), 12, 12)) rfl rfl).trans (j200 (evD d) (evp0 (lkE (codT 200)) (hdT 200) (evD d))  M))
set_option maxRecDepth 100000 in
theorem g200_17 (call : Nat → List AV → Mem → Res) (back : Nat → Lv → Mem → Res) (l1 : Int32) (l2 : Int32) (o3 : Option AV) (o4 : Option AV) (o5 : Option AV) (o6 : Option AV) (M : Mem) : stepK call back (evj (lkE cd_200) [17, 44, 70, 123, 129, 149, 159, 212, 218, 237, 262, 265] call back 4000) (.iload_n 2, 1, 2, 0, 0, 0, 0) 17 [some (vR 12 0 253), some (vI l1), some (vI l2), o3, o4, o5, o6] [] M =
  ic (l2 < M.1 253 3) (
    ic (l2 < 0 ∨ 1000 ≤ l2.toNatClampNeg) none (
      ic (M.1 254 l2.toNatClampNeg = 10) (
        back 44 [some (vR 12 0 253), some (vI l1), some (vI l2), some (vI (M.1 254 l2.toNatClampNeg)), o4, o5, o6] M) (
        ic (M.1 254 l2.toNatClampNeg = 32) (
          back 44 [some (vR 12 0 253), some (vI l1), some (vI l2), some (vI (M.1 254 l2.toNatClampNeg)), o4, o5, o6] M) (
          ic (l1 < 0 ∨ 1002 ≤ l1.toNatClampNeg) none (
            cIn (call 201 [vI (M.1 254 l2.toNatClampNeg)] (sI M 256 l1.toNatClampNeg l2)) fun v2 M1 =>
            ic (v2 = 0) (
              cIn (call 203 [vI (M.1 254 l2.toNatClampNeg)] M1) fun v4 M3 =>
              ic (v4 = 0) (
                cIn (call 204 [vI (M.1 254 l2.toNatClampNeg)] M3) fun v6 M5 =>
                ic (v6 = 0) (
                  ic (l1 < 0 ∨ 1002 ≤ l1.toNatClampNeg) none (
                    back 262 [some (vR 12 0 253), some (vI l1), some (vI l2), some (vI (M.1 254 l2.toNatClampNeg)), some (vI l2), some (vJ ((M.1 254 l2.toNatClampNeg).toInt64)), none] (sI M5 255 l1.toNatClampNeg 4))) (
                  ic (l1 < 0 ∨ 1002 ≤ l1.toNatClampNeg) none (
                    back 262 [some (vR 12 0 253), some (vI l1), some (vI l2), some (vI (M.1 254 l2.toNatClampNeg)), some (vI l2), some (vJ ((M.1 254 l2.toNatClampNeg).toInt64)), none] (sI M5 255 l1.toNatClampNeg 3)))) (
                back 159 [some (vR 12 0 253), some (vI l1), some (vI l2), some (vI (M.1 254 l2.toNatClampNeg)), some (vI l2), some (vJ 0), none] M3)) (
              back 70 [some (vR 12 0 253), some (vI l1), some (vI l2), some (vI (M.1 254 l2.toNatClampNeg)), some (vI l2), some (vJ 0), none] M1)))))) (
    ic (l1 < 0 ∨ 1002 ≤ l1.toNatClampNeg) none (
      ic (l1 < 0 ∨ 1002 ≤ l1.toNatClampNeg) none (
        some (none, sI (sI (sI (sI M 255 l1.toNatClampNeg 0) 256 l1.toNatClampNeg ((sI M 255 l1.toNatClampNeg 0).1 253 3)) 253 7 0) 253 8 0)))) := rfl
set_option maxRecDepth 100000 in
theorem e200_17 (d F : Nat) (l1 : Int32) (l2 : Int32) (o3 : Option AV) (o4 : Option AV) (o5 : Option AV) (o6 : Option AV) (M : Mem) : lp d 200 (F + 1) 17 [some (vR 12 0 253), some (vI l1), some (vI l2), o3, o4, o5, o6] M =
  ic (l2 < M.1 253 3) (
    ic (l2 < 0 ∨ 1000 ≤ l2.toNatClampNeg) none (
      ic (M.1 254 l2.toNatClampNeg = 10) (
        lp d 200 F 44 [some (vR 12 0 253), some (vI l1), some (vI l2), some (vI (M.1 254 l2.toNatClampNeg)), o4, o5, o6] M) (
        ic (M.1 254 l2.toNatClampNeg = 32) (
          lp d 200 F 44 [some (vR 12 0 253), some (vI l1), some (vI l2), some (vI (M.1 254 l2.toNatClampNeg)), o4, o5, o6] M) (
          ic (l1 < 0 ∨ 1002 ≤ l1.toNatClampNeg) none (
            cIn (evD d 201 [vI (M.1 254 l2.toNatClampNeg)] (sI M 256 l1.toNatClampNeg l2)) fun v2 M1 =>
            ic (v2 = 0) (
              cIn (evD d 203 [vI (M.1 254 l2.toNatClampNeg)] M1) fun v4 M3 =>
              ic (v4 = 0) (
                cIn (evD d 204 [vI (M.1 254 l2.toNatClampNeg)] M3) fun v6 M5 =>
                ic (v6 = 0) (
                  ic (l1 < 0 ∨ 1002 ≤ l1.toNatClampNeg) none (
                    lp d 200 F 262 [some (vR 12 0 253), some (vI l1), some (vI l2), some (vI (M.1 254 l2.toNatClampNeg)), some (vI l2), some (vJ ((M.1 254 l2.toNatClampNeg).toInt64)), none] (sI M5 255 l1.toNatClampNeg 4))) (
                  ic (l1 < 0 ∨ 1002 ≤ l1.toNatClampNeg) none (
                    lp d 200 F 262 [some (vR 12 0 253), some (vI l1), some (vI l2), some (vI (M.1 254 l2.toNatClampNeg)), some (vI l2), some (vJ ((M.1 254 l2.toNatClampNeg).toInt64)), none] (sI M5 255 l1.toNatClampNeg 3)))) (
                lp d 200 F 159 [some (vR 12 0 253), some (vI l1), some (vI l2), some (vI (M.1 254 l2.toNatClampNeg)), some (vI l2), some (vJ 0), none] M3)) (
              lp d 200 F 70 [some (vR 12 0 253), some (vI l1), some (vI l2), some (vI (M.1 254 l2.toNatClampNeg)), some (vI l2), some (vJ 0), none] M1)))))) (
    ic (l1 < 0 ∨ 1002 ≤ l1.toNatClampNeg) none (
      ic (l1 < 0 ∨ 1002 ≤ l1.toNatClampNeg) none (
        some (none, sI (sI (sI (sI M 255 l1.toNatClampNeg 0) 256 l1.toNatClampNeg ((sI M 255 l1.toNatClampNeg 0).1 253 3)) 253 7 0) 253 8 0)))) := ((evp_step (code := lkE (codT 200)) (hd := hdT 200) (call := evD d) (F := F) (pc := 17) (lv := [some (vR 12 0 253), some (vI l1), some (vI l2), o3, o4, o5, o6]) (M := M) (e := (.iload_n 2, 1, 2, 0, 0, 0, 0)) rfl).trans (g200_17 (evD d) (evp (lkE (codT 200)) (hdT 200) (evD d) F) l1 l2 o3 o4 o5 o6 M))
set_option maxRecDepth 100000 in
theorem g200_44 (call : Nat → List AV → Mem → Res) (back : Nat → Lv → Mem → Res) (l1 : Int32) (l2 : Int32) (o3 : Option AV) (o4 : Option AV) (o5 : Option AV) (o6 : Option AV) (M : Mem) : stepK call back (evj (lkE cd_200) [17, 44, 70, 123, 129, 149, 159, 212, 218, 237, 262, 265] call back 4000) (.iinc 2 (1), 3, 2, 0, 0, 1, 0) 44 [some (vR 12 0 253), some (vI l1), some (vI l2), o3, o4, o5, o6] [] M =
  back 17 [some (vR 12 0 253), some (vI l1), some (vI (l2 + 1)), o3, o4, o5, o6] M := rfl
set_option maxRecDepth 100000 in
theorem e200_44 (d F : Nat) (l1 : Int32) (l2 : Int32) (o3 : Option AV) (o4 : Option AV) (o5 : Option AV) (o6 : Option AV) (M : Mem) : lp d 200 (F + 1) 44 [some (vR 12 0 253), some (vI l1), some (vI l2), o3, o4, o5, o6] M =
  lp d 200 F 17 [some (vR 12 0 253), some (vI l1), some (vI (l2 + 1)), o3, o4, o5, o6] M := ((evp_step (code := lkE (codT 200)) (hd := hdT 200) (call := evD d) (F := F) (pc := 44) (lv := [some (vR 12 0 253), some (vI l1), some (vI l2), o3, o4, o5, o6]) (M := M) (e := (.iinc 2 (1), 3, 2, 0, 0, 1, 0)) rfl).trans (g200_44 (evD d) (evp (lkE (codT 200)) (hdT 200) (evD d) F) l1 l2 o3 o4 o5 o6 M))
set_option maxRecDepth 100000 in
theorem g200_262 (call : Nat → List AV → Mem → Res) (back : Nat → Lv → Mem → Res) (l1 : Int32) (l2 : Int32) (o3 : Option AV) (o4 : Option AV) (l5 : Int64) (M : Mem) : stepK call back (evj (lkE cd_200) [17, 44, 70, 123, 129, 149, 159, 212, 218, 237, 262, 265] call back 4000) (.iinc 2 (1), 3, 2, 0, 0, 1, 0) 262 [some (vR 12 0 253), some (vI l1), some (vI l2), o3, o4, some (vJ l5), none] [] M =
  back 265 [some (vR 12 0 253), some (vI l1), some (vI (l2 + 1)), o3, o4, some (vJ l5), none] M := rfl
set_option maxRecDepth 100000 in
theorem e200_262 (d F : Nat) (l1 : Int32) (l2 : Int32) (o3 : Option AV) (o4 : Option AV) (l5 : Int64) (M : Mem) : lp d 200 (F + 1) 262 [some (vR 12 0 253), some (vI l1), some (vI l2), o3, o4, some (vJ l5), none] M =
  lp d 200 F 265 [some (vR 12 0 253), some (vI l1), some (vI (l2 + 1)), o3, o4, some (vJ l5), none] M := ((evp_step (code := lkE (codT 200)) (hd := hdT 200) (call := evD d) (F := F) (pc := 262) (lv := [some (vR 12 0 253), some (vI l1), some (vI l2), o3, o4, some (vJ l5), none]) (M := M) (e := (.iinc 2 (1), 3, 2, 0, 0, 1, 0)) rfl).trans (g200_262 (evD d) (evp (lkE (codT 200)) (hdT 200) (evD d) F) l1 l2 o3 o4 l5 M))
set_option maxRecDepth 100000 in
theorem g200_159 (call : Nat → List AV → Mem → Res) (back : Nat → Lv → Mem → Res) (l1 : Int32) (l2 : Int32) (o3 : Option AV) (l4 : Int32) (l5 : Int64) (M : Mem) : stepK call back (evj (lkE cd_200) [17, 44, 70, 123, 129, 149, 159, 212, 218, 237, 262, 265] call back 4000) (.iload_n 2, 1, 2, 0, 0, 0, 0) 159 [some (vR 12 0 253), some (vI l1), some (vI l2), o3, some (vI l4), some (vJ l5), none] [] M =
  ic (l2 < M.1 253 3) (
    ic (l2 < 0 ∨ 1000 ≤ l2.toNatClampNeg) none (
      cIn (call 203 [vI (M.1 254 l2.toNatClampNeg)] M) fun v2 M1 =>
      ic (v2 = 0) (
        back 218 [some (vR 12 0 253), some (vI l1), some (vI l2), o3, some (vI l4), some (vJ l5), none] M1) (
        ic (l2 - l4 < 4) (
          ic (l2 < 0 ∨ 1000 ≤ l2.toNatClampNeg) none (
            back 212 [some (vR 12 0 253), some (vI l1), some (vI l2), o3, some (vI l4), some (vJ (((10 * l5) + ((M1.1 254 l2.toNatClampNeg).toInt64)) - 48)), none] M1)) (
          back 212 [some (vR 12 0 253), some (vI l1), some (vI l2), o3, some (vI l4), some (vJ l5), none] M1)))) (
    back 218 [some (vR 12 0 253), some (vI l1), some (vI l2), o3, some (vI l4), some (vJ l5), none] M) := rfl
set_option maxRecDepth 100000 in
theorem e200_159 (d F : Nat) (l1 : Int32) (l2 : Int32) (o3 : Option AV) (l4 : Int32) (l5 : Int64) (M : Mem) : lp d 200 (F + 1) 159 [some (vR 12 0 253), some (vI l1), some (vI l2), o3, some (vI l4), some (vJ l5), none] M =
  ic (l2 < M.1 253 3) (
    ic (l2 < 0 ∨ 1000 ≤ l2.toNatClampNeg) none (
      cIn (evD d 203 [vI (M.1 254 l2.toNatClampNeg)] M) fun v2 M1 =>
      ic (v2 = 0) (
        lp d 200 F 218 [some (vR 12 0 253), some (vI l1), some (vI l2), o3, some (vI l4), some (vJ l5), none] M1) (
        ic (l2 - l4 < 4) (
          ic (l2 < 0 ∨ 1000 ≤ l2.toNatClampNeg) none (
            lp d 200 F 212 [some (vR 12 0 253), some (vI l1), some (vI l2), o3, some (vI l4), some (vJ (((10 * l5) + ((M1.1 254 l2.toNatClampNeg).toInt64)) - 48)), none] M1)) (
          lp d 200 F 212 [some (vR 12 0 253), some (vI l1), some (vI l2), o3, some (vI l4), some (vJ l5), none] M1)))) (
    lp d 200 F 218 [some (vR 12 0 253), some (vI l1), some (vI l2), o3, some (vI l4), some (vJ l5), none] M) := ((evp_step (code := lkE (codT 200)) (hd := hdT 200) (call := evD d) (F := F) (pc := 159) (lv := [some (vR 12 0 253), some (vI l1), some (vI l2), o3, some (vI l4), some (vJ l5), none]) (M := M) (e := (.iload_n 2, 1, 2, 0, 0, 0, 0)) rfl).trans (g200_159 (evD d) (evp (lkE (codT 200)) (hdT 200) (evD d) F) l1 l2 o3 l4 l5 M))
set_option maxRecDepth 100000 in
theorem g200_70 (call : Nat → List AV → Mem → Res) (back : Nat → Lv → Mem → Res) (l1 : Int32) (l2 : Int32) (o3 : Option AV) (l4 : Int32) (l5 : Int64) (M : Mem) : stepK call back (evj (lkE cd_200) [17, 44, 70, 123, 129, 149, 159, 212, 218, 237, 262, 265] call back 4000) (.iload_n 2, 1, 2, 0, 0, 0, 0) 70 [some (vR 12 0 253), some (vI l1), some (vI l2), o3, some (vI l4), some (vJ l5), none] [] M =
  ic (l2 < M.1 253 3) (
    ic (l2 < 0 ∨ 1000 ≤ l2.toNatClampNeg) none (
      cIn (call 201 [vI (M.1 254 l2.toNatClampNeg)] M) fun v2 M1 =>
      ic (v2 = 0) (
        back 129 [some (vR 12 0 253), some (vI l1), some (vI l2), o3, some (vI l4), some (vJ l5), none] M1) (
        ic (l2 - l4 < 8) (
          ic (l2 < 0 ∨ 1000 ≤ l2.toNatClampNeg) none (
            cIn (call 202 [vI (M1.1 254 l2.toNatClampNeg)] M1) fun v4 M3 =>
            back 123 [some (vR 12 0 253), some (vI l1), some (vI l2), o3, some (vI l4), some (vJ ((37 * l5) + v4.toInt64)), none] M3)) (
          back 123 [some (vR 12 0 253), some (vI l1), some (vI l2), o3, some (vI l4), some (vJ l5), none] M1)))) (
    back 129 [some (vR 12 0 253), some (vI l1), some (vI l2), o3, some (vI l4), some (vJ l5), none] M) := rfl
set_option maxRecDepth 100000 in
theorem e200_70 (d F : Nat) (l1 : Int32) (l2 : Int32) (o3 : Option AV) (l4 : Int32) (l5 : Int64) (M : Mem) : lp d 200 (F + 1) 70 [some (vR 12 0 253), some (vI l1), some (vI l2), o3, some (vI l4), some (vJ l5), none] M =
  ic (l2 < M.1 253 3) (
    ic (l2 < 0 ∨ 1000 ≤ l2.toNatClampNeg) none (
      cIn (evD d 201 [vI (M.1 254 l2.toNatClampNeg)] M) fun v2 M1 =>
      ic (v2 = 0) (
        lp d 200 F 129 [some (vR 12 0 253), some (vI l1), some (vI l2), o3, some (vI l4), some (vJ l5), none] M1) (
        ic (l2 - l4 < 8) (
          ic (l2 < 0 ∨ 1000 ≤ l2.toNatClampNeg) none (
            cIn (evD d 202 [vI (M1.1 254 l2.toNatClampNeg)] M1) fun v4 M3 =>
            lp d 200 F 123 [some (vR 12 0 253), some (vI l1), some (vI l2), o3, some (vI l4), some (vJ ((37 * l5) + v4.toInt64)), none] M3)) (
          lp d 200 F 123 [some (vR 12 0 253), some (vI l1), some (vI l2), o3, some (vI l4), some (vJ l5), none] M1)))) (
    lp d 200 F 129 [some (vR 12 0 253), some (vI l1), some (vI l2), o3, some (vI l4), some (vJ l5), none] M) := ((evp_step (code := lkE (codT 200)) (hd := hdT 200) (call := evD d) (F := F) (pc := 70) (lv := [some (vR 12 0 253), some (vI l1), some (vI l2), o3, some (vI l4), some (vJ l5), none]) (M := M) (e := (.iload_n 2, 1, 2, 0, 0, 0, 0)) rfl).trans (g200_70 (evD d) (evp (lkE (codT 200)) (hdT 200) (evD d) F) l1 l2 o3 l4 l5 M))
set_option maxRecDepth 100000 in
theorem g200_265 (call : Nat → List AV → Mem → Res) (back : Nat → Lv → Mem → Res) (l1 : Int32) (l2 : Int32) (o3 : Option AV) (o4 : Option AV) (l5 : Int64) (M : Mem) : stepK call back (evj (lkE cd_200) [17, 44, 70, 123, 129, 149, 159, 212, 218, 237, 262, 265] call back 4000) (.aload_n 0, 1, 0, 0, 0, 0, 0) 265 [some (vR 12 0 253), some (vI l1), some (vI l2), o3, o4, some (vJ l5), none] [] M =
  ic (l1 < 0 ∨ 1002 ≤ l1.toNatClampNeg) none (
    back 17 [some (vR 12 0 253), some (vI (l1 + 1)), some (vI l2), o3, o4, some (vJ l5), none] (sJ M 257 l1.toNatClampNeg l5)) := rfl
set_option maxRecDepth 100000 in
theorem e200_265 (d F : Nat) (l1 : Int32) (l2 : Int32) (o3 : Option AV) (o4 : Option AV) (l5 : Int64) (M : Mem) : lp d 200 (F + 1) 265 [some (vR 12 0 253), some (vI l1), some (vI l2), o3, o4, some (vJ l5), none] M =
  ic (l1 < 0 ∨ 1002 ≤ l1.toNatClampNeg) none (
    lp d 200 F 17 [some (vR 12 0 253), some (vI (l1 + 1)), some (vI l2), o3, o4, some (vJ l5), none] (sJ M 257 l1.toNatClampNeg l5)) := ((evp_step (code := lkE (codT 200)) (hd := hdT 200) (call := evD d) (F := F) (pc := 265) (lv := [some (vR 12 0 253), some (vI l1), some (vI l2), o3, o4, some (vJ l5), none]) (M := M) (e := (.aload_n 0, 1, 0, 0, 0, 0, 0)) rfl).trans (g200_265 (evD d) (evp (lkE (codT 200)) (hdT 200) (evD d) F) l1 l2 o3 o4 l5 M))
set_option maxRecDepth 100000 in
theorem g200_218 (call : Nat → List AV → Mem → Res) (back : Nat → Lv → Mem → Res) (l1 : Int32) (l2 : Int32) (o3 : Option AV) (l4 : Int32) (l5 : Int64) (M : Mem) : stepK call back (evj (lkE cd_200) [17, 44, 70, 123, 129, 149, 159, 212, 218, 237, 262, 265] call back 4000) (.aload_n 0, 1, 0, 0, 0, 0, 0) 218 [some (vR 12 0 253), some (vI l1), some (vI l2), o3, some (vI l4), some (vJ l5), none] [] M =
  ic (4 < l2 - l4) (
    ic (l1 < 0 ∨ 1002 ≤ l1.toNatClampNeg) none (
      back 237 [some (vR 12 0 253), some (vI l1), some (vI l2), o3, some (vI l4), some (vJ l5), none] (sI M 255 l1.toNatClampNeg 4))) (
    ic (l1 < 0 ∨ 1002 ≤ l1.toNatClampNeg) none (
      back 237 [some (vR 12 0 253), some (vI l1), some (vI l2), o3, some (vI l4), some (vJ l5), none] (sI M 255 l1.toNatClampNeg 2))) := rfl
set_option maxRecDepth 100000 in
theorem e200_218 (d F : Nat) (l1 : Int32) (l2 : Int32) (o3 : Option AV) (l4 : Int32) (l5 : Int64) (M : Mem) : lp d 200 (F + 1) 218 [some (vR 12 0 253), some (vI l1), some (vI l2), o3, some (vI l4), some (vJ l5), none] M =
  ic (4 < l2 - l4) (
    ic (l1 < 0 ∨ 1002 ≤ l1.toNatClampNeg) none (
      lp d 200 F 237 [some (vR 12 0 253), some (vI l1), some (vI l2), o3, some (vI l4), some (vJ l5), none] (sI M 255 l1.toNatClampNeg 4))) (
    ic (l1 < 0 ∨ 1002 ≤ l1.toNatClampNeg) none (
      lp d 200 F 237 [some (vR 12 0 253), some (vI l1), some (vI l2), o3, some (vI l4), some (vJ l5), none] (sI M 255 l1.toNatClampNeg 2))) := ((evp_step (code := lkE (codT 200)) (hd := hdT 200) (call := evD d) (F := F) (pc := 218) (lv := [some (vR 12 0 253), some (vI l1), some (vI l2), o3, some (vI l4), some (vJ l5), none]) (M := M) (e := (.aload_n 0, 1, 0, 0, 0, 0, 0)) rfl).trans (g200_218 (evD d) (evp (lkE (codT 200)) (hdT 200) (evD d) F) l1 l2 o3 l4 l5 M))
set_option maxRecDepth 100000 in
theorem g200_212 (call : Nat → List AV → Mem → Res) (back : Nat → Lv → Mem → Res) (l1 : Int32) (l2 : Int32) (o3 : Option AV) (l4 : Int32) (l5 : Int64) (M : Mem) : stepK call back (evj (lkE cd_200) [17, 44, 70, 123, 129, 149, 159, 212, 218, 237, 262, 265] call back 4000) (.iinc 2 (1), 3, 2, 0, 0, 1, 0) 212 [some (vR 12 0 253), some (vI l1), some (vI l2), o3, some (vI l4), some (vJ l5), none] [] M =
  back 159 [some (vR 12 0 253), some (vI l1), some (vI (l2 + 1)), o3, some (vI l4), some (vJ l5), none] M := rfl
set_option maxRecDepth 100000 in
theorem e200_212 (d F : Nat) (l1 : Int32) (l2 : Int32) (o3 : Option AV) (l4 : Int32) (l5 : Int64) (M : Mem) : lp d 200 (F + 1) 212 [some (vR 12 0 253), some (vI l1), some (vI l2), o3, some (vI l4), some (vJ l5), none] M =
  lp d 200 F 159 [some (vR 12 0 253), some (vI l1), some (vI (l2 + 1)), o3, some (vI l4), some (vJ l5), none] M := ((evp_step (code := lkE (codT 200)) (hd := hdT 200) (call := evD d) (F := F) (pc := 212) (lv := [some (vR 12 0 253), some (vI l1), some (vI l2), o3, some (vI l4), some (vJ l5), none]) (M := M) (e := (.iinc 2 (1), 3, 2, 0, 0, 1, 0)) rfl).trans (g200_212 (evD d) (evp (lkE (codT 200)) (hdT 200) (evD d) F) l1 l2 o3 l4 l5 M))
set_option maxRecDepth 100000 in
theorem g200_129 (call : Nat → List AV → Mem → Res) (back : Nat → Lv → Mem → Res) (l1 : Int32) (l2 : Int32) (o3 : Option AV) (l4 : Int32) (l5 : Int64) (M : Mem) : stepK call back (evj (lkE cd_200) [17, 44, 70, 123, 129, 149, 159, 212, 218, 237, 262, 265] call back 4000) (.aload_n 0, 1, 0, 0, 0, 0, 0) 129 [some (vR 12 0 253), some (vI l1), some (vI l2), o3, some (vI l4), some (vJ l5), none] [] M =
  ic (8 < l2 - l4) (
    ic (l1 < 0 ∨ 1002 ≤ l1.toNatClampNeg) none (
      back 149 [some (vR 12 0 253), some (vI l1), some (vI l2), o3, some (vI l4), some (vJ l5), none] (sI M 255 l1.toNatClampNeg 4))) (
    ic (l1 < 0 ∨ 1002 ≤ l1.toNatClampNeg) none (
      back 149 [some (vR 12 0 253), some (vI l1), some (vI l2), o3, some (vI l4), some (vJ l5), none] (sI M 255 l1.toNatClampNeg 1))) := rfl
set_option maxRecDepth 100000 in
theorem e200_129 (d F : Nat) (l1 : Int32) (l2 : Int32) (o3 : Option AV) (l4 : Int32) (l5 : Int64) (M : Mem) : lp d 200 (F + 1) 129 [some (vR 12 0 253), some (vI l1), some (vI l2), o3, some (vI l4), some (vJ l5), none] M =
  ic (8 < l2 - l4) (
    ic (l1 < 0 ∨ 1002 ≤ l1.toNatClampNeg) none (
      lp d 200 F 149 [some (vR 12 0 253), some (vI l1), some (vI l2), o3, some (vI l4), some (vJ l5), none] (sI M 255 l1.toNatClampNeg 4))) (
    ic (l1 < 0 ∨ 1002 ≤ l1.toNatClampNeg) none (
      lp d 200 F 149 [some (vR 12 0 253), some (vI l1), some (vI l2), o3, some (vI l4), some (vJ l5), none] (sI M 255 l1.toNatClampNeg 1))) := ((evp_step (code := lkE (codT 200)) (hd := hdT 200) (call := evD d) (F := F) (pc := 129) (lv := [some (vR 12 0 253), some (vI l1), some (vI l2), o3, some (vI l4), some (vJ l5), none]) (M := M) (e := (.aload_n 0, 1, 0, 0, 0, 0, 0)) rfl).trans (g200_129 (evD d) (evp (lkE (codT 200)) (hdT 200) (evD d) F) l1 l2 o3 l4 l5 M))
set_option maxRecDepth 100000 in
theorem g200_123 (call : Nat → List AV → Mem → Res) (back : Nat → Lv → Mem → Res) (l1 : Int32) (l2 : Int32) (o3 : Option AV) (l4 : Int32) (l5 : Int64) (M : Mem) : stepK call back (evj (lkE cd_200) [17, 44, 70, 123, 129, 149, 159, 212, 218, 237, 262, 265] call back 4000) (.iinc 2 (1), 3, 2, 0, 0, 1, 0) 123 [some (vR 12 0 253), some (vI l1), some (vI l2), o3, some (vI l4), some (vJ l5), none] [] M =
  back 70 [some (vR 12 0 253), some (vI l1), some (vI (l2 + 1)), o3, some (vI l4), some (vJ l5), none] M := rfl
set_option maxRecDepth 100000 in
theorem e200_123 (d F : Nat) (l1 : Int32) (l2 : Int32) (o3 : Option AV) (l4 : Int32) (l5 : Int64) (M : Mem) : lp d 200 (F + 1) 123 [some (vR 12 0 253), some (vI l1), some (vI l2), o3, some (vI l4), some (vJ l5), none] M =
  lp d 200 F 70 [some (vR 12 0 253), some (vI l1), some (vI (l2 + 1)), o3, some (vI l4), some (vJ l5), none] M := ((evp_step (code := lkE (codT 200)) (hd := hdT 200) (call := evD d) (F := F) (pc := 123) (lv := [some (vR 12 0 253), some (vI l1), some (vI l2), o3, some (vI l4), some (vJ l5), none]) (M := M) (e := (.iinc 2 (1), 3, 2, 0, 0, 1, 0)) rfl).trans (g200_123 (evD d) (evp (lkE (codT 200)) (hdT 200) (evD d) F) l1 l2 o3 l4 l5 M))
set_option maxRecDepth 100000 in
theorem g200_237 (call : Nat → List AV → Mem → Res) (back : Nat → Lv → Mem → Res) (l1 : Int32) (l2 : Int32) (o3 : Option AV) (o4 : Option AV) (l5 : Int64) (M : Mem) : stepK call back (evj (lkE cd_200) [17, 44, 70, 123, 129, 149, 159, 212, 218, 237, 262, 265] call back 4000) (.goto (28), 3, 0, 265, 0, 0, 0) 237 [some (vR 12 0 253), some (vI l1), some (vI l2), o3, o4, some (vJ l5), none] [] M =
  back 265 [some (vR 12 0 253), some (vI l1), some (vI l2), o3, o4, some (vJ l5), none] M := rfl
set_option maxRecDepth 100000 in
theorem e200_237 (d F : Nat) (l1 : Int32) (l2 : Int32) (o3 : Option AV) (o4 : Option AV) (l5 : Int64) (M : Mem) : lp d 200 (F + 1) 237 [some (vR 12 0 253), some (vI l1), some (vI l2), o3, o4, some (vJ l5), none] M =
  lp d 200 F 265 [some (vR 12 0 253), some (vI l1), some (vI l2), o3, o4, some (vJ l5), none] M := ((evp_step (code := lkE (codT 200)) (hd := hdT 200) (call := evD d) (F := F) (pc := 237) (lv := [some (vR 12 0 253), some (vI l1), some (vI l2), o3, o4, some (vJ l5), none]) (M := M) (e := (.goto (28), 3, 0, 265, 0, 0, 0)) rfl).trans (g200_237 (evD d) (evp (lkE (codT 200)) (hdT 200) (evD d) F) l1 l2 o3 o4 l5 M))
set_option maxRecDepth 100000 in
theorem g200_149 (call : Nat → List AV → Mem → Res) (back : Nat → Lv → Mem → Res) (l1 : Int32) (l2 : Int32) (o3 : Option AV) (o4 : Option AV) (l5 : Int64) (M : Mem) : stepK call back (evj (lkE cd_200) [17, 44, 70, 123, 129, 149, 159, 212, 218, 237, 262, 265] call back 4000) (.goto (116), 3, 0, 265, 0, 0, 0) 149 [some (vR 12 0 253), some (vI l1), some (vI l2), o3, o4, some (vJ l5), none] [] M =
  back 265 [some (vR 12 0 253), some (vI l1), some (vI l2), o3, o4, some (vJ l5), none] M := rfl
set_option maxRecDepth 100000 in
theorem e200_149 (d F : Nat) (l1 : Int32) (l2 : Int32) (o3 : Option AV) (o4 : Option AV) (l5 : Int64) (M : Mem) : lp d 200 (F + 1) 149 [some (vR 12 0 253), some (vI l1), some (vI l2), o3, o4, some (vJ l5), none] M =
  lp d 200 F 265 [some (vR 12 0 253), some (vI l1), some (vI l2), o3, o4, some (vJ l5), none] M := ((evp_step (code := lkE (codT 200)) (hd := hdT 200) (call := evD d) (F := F) (pc := 149) (lv := [some (vR 12 0 253), some (vI l1), some (vI l2), o3, o4, some (vJ l5), none]) (M := M) (e := (.goto (116), 3, 0, 265, 0, 0, 0)) rfl).trans (g200_149 (evD d) (evp (lkE (codT 200)) (hdT 200) (evD d) F) l1 l2 o3 o4 l5 M))
-- IceParliamentModel isLetter(I)Z
set_option maxRecDepth 100000 in
theorem j201 (call : Nat → List AV → Mem → Res) (back : Nat → Lv → Mem → Res) (p0 : Int32) (M : Mem) : evj (lkE cd_201) [] call back 4000 0 [some (vI p0)] [] M =
  ic (p0 < 97) (
    ic ((0 : Int32) &&& 1 = 0) (
      some (some (vI 0), M)) none) (
    ic (122 < p0) (
      ic ((0 : Int32) &&& 1 = 0) (
        some (some (vI 0), M)) none) (
      ic ((1 : Int32) &&& 1 = 1) (
        some (some (vI 1), M)) none)) := rfl
set_option maxRecDepth 100000 in
theorem e201 (d : Nat) (p0 : Int32) (M : Mem) : evD (d + 1) 201 [vI p0] M =
  ic (p0 < 97) (
    some (some (vI 0), M)) (
    ic (122 < p0) (
      some (some (vI 0), M)) (
      some (some (vI 1), M))) := ((evD_step (d := d) (x := 201) (as := [vI p0]) (M := M) (md := (⟨"IceParliamentModel", "isLetter", "(I)Z"⟩, prog_14_method_5_code, 1, (Option.some Jvm.ClassFile.FieldType.boolean), 12, 99)) rfl rfl).trans (j201 (evD d) (evp0 (lkE (codT 201)) (hdT 201) (evD d)) p0 M)).trans (by (try simp only [ic_t (show (0 : Int32) &&& 1 = 0 by decide), ic_t (show (1 : Int32) &&& 1 = 1 by decide)]))
-- IceParliamentModel rank(I)I
set_option maxRecDepth 100000 in
theorem j202 (call : Nat → List AV → Mem → Res) (back : Nat → Lv → Mem → Res) (p0 : Int32) (M : Mem) : evj (lkE cd_202) [] call back 4000 0 [some (vI p0)] [] M =
  cIn (call 201 [vI p0] M) fun v2 M1 =>
  ic (v2 = 0) (
    some (some (vI (p0 - 21)), M1)) (
    some (some (vI (p0 - 96)), M1)) := rfl
set_option maxRecDepth 100000 in
theorem e202 (d : Nat) (p0 : Int32) (M : Mem) : evD (d + 1) 202 [vI p0] M =
  cIn (evD d 201 [vI p0] M) fun v2 M1 =>
  ic (v2 = 0) (
    some (some (vI (p0 - 21)), M1)) (
    some (some (vI (p0 - 96)), M1)) := ((evD_step (d := d) (x := 202) (as := [vI p0]) (M := M) (md := (⟨"IceParliamentModel", "rank", "(I)I"⟩, prog_14_method_7_code, 1, (Option.some Jvm.ClassFile.FieldType.int), 12, 99)) rfl rfl).trans (j202 (evD d) (evp0 (lkE (codT 202)) (hdT 202) (evD d)) p0 M))
-- IceParliamentModel isDigit(I)Z
set_option maxRecDepth 100000 in
theorem j203 (call : Nat → List AV → Mem → Res) (back : Nat → Lv → Mem → Res) (p0 : Int32) (M : Mem) : evj (lkE cd_203) [] call back 4000 0 [some (vI p0)] [] M =
  ic (p0 < 48) (
    ic ((0 : Int32) &&& 1 = 0) (
      some (some (vI 0), M)) none) (
    ic (57 < p0) (
      ic ((0 : Int32) &&& 1 = 0) (
        some (some (vI 0), M)) none) (
      ic ((1 : Int32) &&& 1 = 1) (
        some (some (vI 1), M)) none)) := rfl
set_option maxRecDepth 100000 in
theorem e203 (d : Nat) (p0 : Int32) (M : Mem) : evD (d + 1) 203 [vI p0] M =
  ic (p0 < 48) (
    some (some (vI 0), M)) (
    ic (57 < p0) (
      some (some (vI 0), M)) (
      some (some (vI 1), M))) := ((evD_step (d := d) (x := 203) (as := [vI p0]) (M := M) (md := (⟨"IceParliamentModel", "isDigit", "(I)Z"⟩, prog_14_method_6_code, 1, (Option.some Jvm.ClassFile.FieldType.boolean), 12, 99)) rfl rfl).trans (j203 (evD d) (evp0 (lkE (codT 203)) (hdT 203) (evD d)) p0 M)).trans (by (try simp only [ic_t (show (0 : Int32) &&& 1 = 0 by decide), ic_t (show (1 : Int32) &&& 1 = 1 by decide)]))
-- IceParliamentModel isSignOf(I)Z
set_option maxRecDepth 100000 in
theorem j204 (call : Nat → List AV → Mem → Res) (back : Nat → Lv → Mem → Res) (p0 : Int32) (M : Mem) : evj (lkE cd_204) [] call back 4000 0 [some (vI p0)] [] M =
  ic (p0 = 40) (
    ic ((1 : Int32) &&& 1 = 1) (
      some (some (vI 1), M)) none) (
    ic (p0 = 41) (
      ic ((1 : Int32) &&& 1 = 1) (
        some (some (vI 1), M)) none) (
      ic (p0 = 59) (
        ic ((1 : Int32) &&& 1 = 1) (
          some (some (vI 1), M)) none) (
        ic (p0 = 61) (
          ic ((1 : Int32) &&& 1 = 1) (
            some (some (vI 1), M)) none) (
          ic (p0 = 60) (
            ic ((1 : Int32) &&& 1 = 1) (
              some (some (vI 1), M)) none) (
            ic (p0 = 43) (
              ic ((1 : Int32) &&& 1 = 1) (
                some (some (vI 1), M)) none) (
              ic (p0 = 45) (
                ic ((1 : Int32) &&& 1 = 1) (
                  some (some (vI 1), M)) none) (
                ic (p0 = 42) (
                  ic ((1 : Int32) &&& 1 = 1) (
                    some (some (vI 1), M)) none) (
                  ic ((0 : Int32) &&& 1 = 0) (
                    some (some (vI 0), M)) none)))))))) := rfl
set_option maxRecDepth 100000 in
theorem e204 (d : Nat) (p0 : Int32) (M : Mem) : evD (d + 1) 204 [vI p0] M =
  ic (p0 = 40) (
    some (some (vI 1), M)) (
    ic (p0 = 41) (
      some (some (vI 1), M)) (
      ic (p0 = 59) (
        some (some (vI 1), M)) (
        ic (p0 = 61) (
          some (some (vI 1), M)) (
          ic (p0 = 60) (
            some (some (vI 1), M)) (
            ic (p0 = 43) (
              some (some (vI 1), M)) (
              ic (p0 = 45) (
                some (some (vI 1), M)) (
                ic (p0 = 42) (
                  some (some (vI 1), M)) (
                  some (some (vI 0), M))))))))) := ((evD_step (d := d) (x := 204) (as := [vI p0]) (M := M) (md := (⟨"IceParliamentModel", "isSignOf", "(I)Z"⟩, prog_14_method_8_code, 1, (Option.some Jvm.ClassFile.FieldType.boolean), 12, 99)) rfl rfl).trans (j204 (evD d) (evp0 (lkE (codT 204)) (hdT 204) (evD d)) p0 M)).trans (by (try simp only [ic_t (show (1 : Int32) &&& 1 = 1 by decide), ic_t (show (0 : Int32) &&& 1 = 0 by decide)]))
-- IceParliamentModel readLine()V
set_option maxRecDepth 100000 in
theorem j205 (call : Nat → List AV → Mem → Res) (back : Nat → Lv → Mem → Res)  (M : Mem) : evj (lkE cd_205) [] call back 4000 0 [some (vR 12 0 253)] [] M =
  cIn (call 206 [vR 12 0 253, vI 0] M) fun v2 M1 =>
  ic (v2 = 0) (
    cIn (call 206 [vR 12 0 253, vI 2] M1) fun v4 M3 =>
    ic (v4 = 0) (
      cIn (call 206 [vR 12 0 253, vI 4] M3) fun v6 M5 =>
      ic (v6 = 0) (
        cIn (call 206 [vR 12 0 253, vI 9] M5) fun v8 M7 =>
        ic (v8 = 0) (
          cVd (call 224 [vR 12 0 253] M7) fun M9 =>
          some (none, M9)) (
          cVd (call 223 [vR 12 0 253] M7) fun M10 =>
          some (none, M10))) (
        cVd (call 219 [vR 12 0 253] M5) fun M11 =>
        some (none, M11))) (
      cVd (call 217 [vR 12 0 253] M3) fun M12 =>
      some (none, M12))) (
    cVd (call 207 [vR 12 0 253] M1) fun M13 =>
    some (none, M13)) := rfl
set_option maxRecDepth 100000 in
theorem e205 (d : Nat)  (M : Mem) : evD (d + 1) 205 [vR 12 0 253] M =
  cIn (evD d 206 [vR 12 0 253, vI 0] M) fun v2 M1 =>
  ic (v2 = 0) (
    cIn (evD d 206 [vR 12 0 253, vI 2] M1) fun v4 M3 =>
    ic (v4 = 0) (
      cIn (evD d 206 [vR 12 0 253, vI 4] M3) fun v6 M5 =>
      ic (v6 = 0) (
        cIn (evD d 206 [vR 12 0 253, vI 9] M5) fun v8 M7 =>
        ic (v8 = 0) (
          cVd (evD d 224 [vR 12 0 253] M7) fun M9 =>
          some (none, M9)) (
          cVd (evD d 223 [vR 12 0 253] M7) fun M10 =>
          some (none, M10))) (
        cVd (evD d 219 [vR 12 0 253] M5) fun M11 =>
        some (none, M11))) (
      cVd (evD d 217 [vR 12 0 253] M3) fun M12 =>
      some (none, M12))) (
    cVd (evD d 207 [vR 12 0 253] M1) fun M13 =>
    some (none, M13)) := ((evD_step (d := d) (x := 205) (as := [vR 12 0 253]) (M := M) (md := (⟨"IceParliamentModel", "readLine", "()V"⟩, prog_14_method_28_code, 1, (Option.none : Option Jvm.ClassFile.FieldType), 12, 12)) rfl rfl).trans (j205 (evD d) (evp0 (lkE (codT 205)) (hdT 205) (evD d))  M))
-- IceParliamentModel isWord(I)Z
set_option maxRecDepth 100000 in
theorem j206 (call : Nat → List AV → Mem → Res) (back : Nat → Lv → Mem → Res) (p0 : Int32) (M : Mem) : evj (lkE cd_206) [] call back 4000 0 [some (vR 12 0 253), some (vI p0)] [] M =
  ic (M.1 253 8 = 0) (
    ic (M.1 253 7 < 0 ∨ 1002 ≤ (M.1 253 7).toNatClampNeg) none (
      ic (M.1 255 (M.1 253 7).toNatClampNeg = 1) (
        ic (M.1 253 7 < 0 ∨ 1002 ≤ (M.1 253 7).toNatClampNeg) none (
          ic (p0 < 0 ∨ 33 ≤ p0.toNatClampNeg) none (
            ic (lg_cmp (M.2.1 257 (M.1 253 7).toNatClampNeg) (M.2.1 258 p0.toNatClampNeg) = 0) (
              ic ((1 : Int32) &&& 1 = 1) (
                some (some (vI 1), M)) none) (
              ic ((0 : Int32) &&& 1 = 0) (
                some (some (vI 0), M)) none)))) (
        ic ((0 : Int32) &&& 1 = 0) (
          some (some (vI 0), M)) none))) (
    ic ((0 : Int32) &&& 1 = 0) (
      some (some (vI 0), M)) none) := rfl
set_option maxRecDepth 100000 in
theorem e206 (d : Nat) (p0 : Int32) (M : Mem) : evD (d + 1) 206 [vR 12 0 253, vI p0] M =
  ic (M.1 253 8 = 0) (
    ic (M.1 253 7 < 0 ∨ 1002 ≤ (M.1 253 7).toNatClampNeg) none (
      ic (M.1 255 (M.1 253 7).toNatClampNeg = 1) (
        ic (M.1 253 7 < 0 ∨ 1002 ≤ (M.1 253 7).toNatClampNeg) none (
          ic (p0 < 0 ∨ 33 ≤ p0.toNatClampNeg) none (
            ic (lg_cmp (M.2.1 257 (M.1 253 7).toNatClampNeg) (M.2.1 258 p0.toNatClampNeg) = 0) (
              some (some (vI 1), M)) (
              some (some (vI 0), M))))) (
        some (some (vI 0), M)))) (
    some (some (vI 0), M)) := ((evD_step (d := d) (x := 206) (as := [vR 12 0 253, vI p0]) (M := M) (md := (⟨"IceParliamentModel", "isWord", "(I)Z"⟩, prog_14_method_12_code, 2, (Option.some Jvm.ClassFile.FieldType.boolean), 12, 12)) rfl rfl).trans (j206 (evD d) (evp0 (lkE (codT 206)) (hdT 206) (evD d)) p0 M)).trans (by (try simp only [ic_t (show (0 : Int32) &&& 1 = 0 by decide), ic_t (show (1 : Int32) &&& 1 = 1 by decide)]))
-- IceParliamentModel readSpot()V
set_option maxRecDepth 100000 in
theorem j207 (call : Nat → List AV → Mem → Res) (back : Nat → Lv → Mem → Res)  (M : Mem) : evj (lkE cd_207) [] call back 4000 0 [some (vR 12 0 253), none] [] M =
  ic ((110 : Int32) < 0 ∨ 220 ≤ (110 : Int32).toNatClampNeg) none (
    ic (M.1 259 (110 : Int32).toNatClampNeg = 6) (
      cVd (call 208 [vR 12 0 253, vI 5] M) fun M4 =>
      some (none, M4)) (
      cVd (call 209 [vR 12 0 253, vI (M.1 259 (110 : Int32).toNatClampNeg)] M) fun M1 =>
      cIn (call 213 [vR 12 0 253, vI 1, vI 0, vI 9] M1) fun v3 M2 =>
      ic (118 + (M.1 259 (110 : Int32).toNatClampNeg) < 0 ∨ 220 ≤ (118 + (M.1 259 (110 : Int32).toNatClampNeg)).toNatClampNeg) none (
        ic ((110 : Int32) < 0 ∨ 220 ≤ (110 : Int32).toNatClampNeg) none (
          ic ((110 : Int32) < 0 ∨ 220 ≤ (110 : Int32).toNatClampNeg) none (
            some (none, sI (sI M2 259 ((118 + (M.1 259 (110 : Int32).toNatClampNeg)).toNatClampNeg) v3) 259 ((110 : Int32).toNatClampNeg) (((sI M2 259 ((118 + (M.1 259 (110 : Int32).toNatClampNeg)).toNatClampNeg) v3).1 259 (110 : Int32).toNatClampNeg) + 1))))))) := rfl
set_option maxRecDepth 100000 in
theorem e207 (d : Nat)  (M : Mem) : evD (d + 1) 207 [vR 12 0 253] M =
  ic (M.1 259 110 = 6) (
    cVd (evD d 208 [vR 12 0 253, vI 5] M) fun M4 =>
    some (none, M4)) (
    cVd (evD d 209 [vR 12 0 253, vI (M.1 259 110)] M) fun M1 =>
    cIn (evD d 213 [vR 12 0 253, vI 1, vI 0, vI 9] M1) fun v3 M2 =>
    ic (118 + (M.1 259 110) < 0 ∨ 220 ≤ (118 + (M.1 259 110)).toNatClampNeg) none (
      some (none, sI (sI M2 259 ((118 + (M.1 259 110)).toNatClampNeg) v3) 259 110 (((sI M2 259 ((118 + (M.1 259 110)).toNatClampNeg) v3).1 259 110) + 1)))) := ((evD_step (d := d) (x := 207) (as := [vR 12 0 253]) (M := M) (md := (⟨"IceParliamentModel", "readSpot", "()V"⟩, prog_14_method_30_code, 2, (Option.none : Option Jvm.ClassFile.FieldType), 12, 12)) rfl rfl).trans (j207 (evD d) (evp0 (lkE (codT 207)) (hdT 207) (evD d))  M)).trans (by (try simp only [ic_f (show ¬ ((110 : Int32) < 0 ∨ 220 ≤ (110 : Int32).toNatClampNeg) by decide)]); (try simp only [show (110 : Int32).toNatClampNeg = 110 from rfl]))
-- IceParliamentModel wrong(I)V
set_option maxRecDepth 100000 in
theorem j208 (call : Nat → List AV → Mem → Res) (back : Nat → Lv → Mem → Res) (p0 : Int32) (M : Mem) : evj (lkE cd_208) [] call back 4000 0 [some (vR 12 0 253), some (vI p0)] [] M =
  ic (M.1 253 8 = 0) (
    ic (M.1 253 7 < 0 ∨ 1002 ≤ (M.1 253 7).toNatClampNeg) none (
      some (none, sI M 253 8 (p0 + (16 * (M.1 256 (M.1 253 7).toNatClampNeg)))))) (
    some (none, M)) := rfl
set_option maxRecDepth 100000 in
theorem e208 (d : Nat) (p0 : Int32) (M : Mem) : evD (d + 1) 208 [vR 12 0 253, vI p0] M =
  ic (M.1 253 8 = 0) (
    ic (M.1 253 7 < 0 ∨ 1002 ≤ (M.1 253 7).toNatClampNeg) none (
      some (none, sI M 253 8 (p0 + (16 * (M.1 256 (M.1 253 7).toNatClampNeg)))))) (
    some (none, M)) := ((evD_step (d := d) (x := 208) (as := [vR 12 0 253, vI p0]) (M := M) (md := (⟨"IceParliamentModel", "wrong", "(I)V"⟩, prog_14_method_10_code, 2, (Option.none : Option Jvm.ClassFile.FieldType), 12, 12)) rfl rfl).trans (j208 (evD d) (evp0 (lkE (codT 208)) (hdT 208) (evD d)) p0 M))
-- IceParliamentModel readName(I)V
set_option maxRecDepth 100000 in
theorem j209 (call : Nat → List AV → Mem → Res) (back : Nat → Lv → Mem → Res) (p0 : Int32) (M : Mem) : evj (lkE cd_209) [38] call back 4000 0 [some (vR 12 0 253), some (vI p0)] [] M =
  cIn (call 210 [vR 12 0 253] (sI M 253 7 ((M.1 253 7) + 1))) fun v2 M1 =>
  ic (v2 = 0) (
    cVd (call 208 [vR 12 0 253, vI 1] M1) fun M6 =>
    back 38 [some (vR 12 0 253), some (vI p0)] M6) (
    cIn (call 212 [vR 12 0 253, vI 1] M1) fun v4 M3 =>
    ic (v4 < 0) (
      back 38 [some (vR 12 0 253), some (vI p0)] M3) (
      cVd (call 208 [vR 12 0 253, vI 3] M3) fun M5 =>
      back 38 [some (vR 12 0 253), some (vI p0)] M5)) := rfl
set_option maxRecDepth 100000 in
theorem e209 (d : Nat) (p0 : Int32) (M : Mem) : evD (d + 1) 209 [vR 12 0 253, vI p0] M =
  cIn (evD d 210 [vR 12 0 253] (sI M 253 7 ((M.1 253 7) + 1))) fun v2 M1 =>
  ic (v2 = 0) (
    cVd (evD d 208 [vR 12 0 253, vI 1] M1) fun M6 =>
    lp0 d 209 38 [some (vR 12 0 253), some (vI p0)] M6) (
    cIn (evD d 212 [vR 12 0 253, vI 1] M1) fun v4 M3 =>
    ic (v4 < 0) (
      lp0 d 209 38 [some (vR 12 0 253), some (vI p0)] M3) (
      cVd (evD d 208 [vR 12 0 253, vI 3] M3) fun M5 =>
      lp0 d 209 38 [some (vR 12 0 253), some (vI p0)] M5)) := ((evD_step (d := d) (x := 209) (as := [vR 12 0 253, vI p0]) (M := M) (md := (⟨"IceParliamentModel", "readName", "(I)V"⟩, prog_14_method_29_code, 2, (Option.none : Option Jvm.ClassFile.FieldType), 12, 12)) rfl rfl).trans (j209 (evD d) (evp0 (lkE (codT 209)) (hdT 209) (evD d)) p0 M))
set_option maxRecDepth 100000 in
theorem g209_38 (call : Nat → List AV → Mem → Res) (back : Nat → Lv → Mem → Res) (l1 : Int32) (M : Mem) : stepK call back (evj (lkE cd_209) [38] call back 4000) (.aload_n 0, 1, 0, 0, 0, 0, 0) 38 [some (vR 12 0 253), some (vI l1)] [] M =
  ic (M.1 253 8 = 0) (
    ic (M.1 253 7 < 0 ∨ 1002 ≤ (M.1 253 7).toNatClampNeg) none (
      ic (M.1 253 19 < 0 ∨ 18 ≤ (M.1 253 19).toNatClampNeg) none (
        ic ((sJ M 263 ((M.1 253 19).toNatClampNeg) (M.2.1 257 (M.1 253 7).toNatClampNeg)).1 253 19 < 0 ∨ 18 ≤ ((sJ M 263 ((M.1 253 19).toNatClampNeg) (M.2.1 257 (M.1 253 7).toNatClampNeg)).1 253 19).toNatClampNeg) none (
          some (none, sI (sI (sI (sJ M 263 ((M.1 253 19).toNatClampNeg) (M.2.1 257 (M.1 253 7).toNatClampNeg)) 265 (((sJ M 263 ((M.1 253 19).toNatClampNeg) (M.2.1 257 (M.1 253 7).toNatClampNeg)).1 253 19).toNatClampNeg) l1) 253 19 (((sI (sJ M 263 ((M.1 253 19).toNatClampNeg) (M.2.1 257 (M.1 253 7).toNatClampNeg)) 265 (((sJ M 263 ((M.1 253 19).toNatClampNeg) (M.2.1 257 (M.1 253 7).toNatClampNeg)).1 253 19).toNatClampNeg) l1).1 253 19) + 1)) 253 7 (((sI (sI (sJ M 263 ((M.1 253 19).toNatClampNeg) (M.2.1 257 (M.1 253 7).toNatClampNeg)) 265 (((sJ M 263 ((M.1 253 19).toNatClampNeg) (M.2.1 257 (M.1 253 7).toNatClampNeg)).1 253 19).toNatClampNeg) l1) 253 19 (((sI (sJ M 263 ((M.1 253 19).toNatClampNeg) (M.2.1 257 (M.1 253 7).toNatClampNeg)) 265 (((sJ M 263 ((M.1 253 19).toNatClampNeg) (M.2.1 257 (M.1 253 7).toNatClampNeg)).1 253 19).toNatClampNeg) l1).1 253 19) + 1)).1 253 7) + 1)))))) (
    some (none, M)) := rfl
set_option maxRecDepth 100000 in
theorem e209_38 (d F : Nat) (l1 : Int32) (M : Mem) : lp d 209 (F + 1) 38 [some (vR 12 0 253), some (vI l1)] M =
  ic (M.1 253 8 = 0) (
    ic (M.1 253 7 < 0 ∨ 1002 ≤ (M.1 253 7).toNatClampNeg) none (
      ic (M.1 253 19 < 0 ∨ 18 ≤ (M.1 253 19).toNatClampNeg) none (
        ic ((sJ M 263 ((M.1 253 19).toNatClampNeg) (M.2.1 257 (M.1 253 7).toNatClampNeg)).1 253 19 < 0 ∨ 18 ≤ ((sJ M 263 ((M.1 253 19).toNatClampNeg) (M.2.1 257 (M.1 253 7).toNatClampNeg)).1 253 19).toNatClampNeg) none (
          some (none, sI (sI (sI (sJ M 263 ((M.1 253 19).toNatClampNeg) (M.2.1 257 (M.1 253 7).toNatClampNeg)) 265 (((sJ M 263 ((M.1 253 19).toNatClampNeg) (M.2.1 257 (M.1 253 7).toNatClampNeg)).1 253 19).toNatClampNeg) l1) 253 19 (((sI (sJ M 263 ((M.1 253 19).toNatClampNeg) (M.2.1 257 (M.1 253 7).toNatClampNeg)) 265 (((sJ M 263 ((M.1 253 19).toNatClampNeg) (M.2.1 257 (M.1 253 7).toNatClampNeg)).1 253 19).toNatClampNeg) l1).1 253 19) + 1)) 253 7 (((sI (sI (sJ M 263 ((M.1 253 19).toNatClampNeg) (M.2.1 257 (M.1 253 7).toNatClampNeg)) 265 (((sJ M 263 ((M.1 253 19).toNatClampNeg) (M.2.1 257 (M.1 253 7).toNatClampNeg)).1 253 19).toNatClampNeg) l1) 253 19 (((sI (sJ M 263 ((M.1 253 19).toNatClampNeg) (M.2.1 257 (M.1 253 7).toNatClampNeg)) 265 (((sJ M 263 ((M.1 253 19).toNatClampNeg) (M.2.1 257 (M.1 253 7).toNatClampNeg)).1 253 19).toNatClampNeg) l1).1 253 19) + 1)).1 253 7) + 1)))))) (
    some (none, M)) := ((evp_step (code := lkE (codT 209)) (hd := hdT 209) (call := evD d) (F := F) (pc := 38) (lv := [some (vR 12 0 253), some (vI l1)]) (M := M) (e := (.aload_n 0, 1, 0, 0, 0, 0, 0)) rfl).trans (g209_38 (evD d) (evp (lkE (codT 209)) (hdT 209) (evD d) F) l1 M))
-- IceParliamentModel isName()Z
set_option maxRecDepth 100000 in
theorem j210 (call : Nat → List AV → Mem → Res) (back : Nat → Lv → Mem → Res)  (M : Mem) : evj (lkE cd_210) [] call back 4000 0 [some (vR 12 0 253)] [] M =
  ic (M.1 253 8 = 0) (
    ic (M.1 253 7 < 0 ∨ 1002 ≤ (M.1 253 7).toNatClampNeg) none (
      ic (M.1 255 (M.1 253 7).toNatClampNeg = 1) (
        cIn (call 211 [vR 12 0 253, vI 0, vI 28] M) fun v2 M1 =>
        ic (v2 < 0) (
          ic ((1 : Int32) &&& 1 = 1) (
            some (some (vI 1), M1)) none) (
          ic ((0 : Int32) &&& 1 = 0) (
            some (some (vI 0), M1)) none)) (
        ic ((0 : Int32) &&& 1 = 0) (
          some (some (vI 0), M)) none))) (
    ic ((0 : Int32) &&& 1 = 0) (
      some (some (vI 0), M)) none) := rfl
set_option maxRecDepth 100000 in
theorem e210 (d : Nat)  (M : Mem) : evD (d + 1) 210 [vR 12 0 253] M =
  ic (M.1 253 8 = 0) (
    ic (M.1 253 7 < 0 ∨ 1002 ≤ (M.1 253 7).toNatClampNeg) none (
      ic (M.1 255 (M.1 253 7).toNatClampNeg = 1) (
        cIn (evD d 211 [vR 12 0 253, vI 0, vI 28] M) fun v2 M1 =>
        ic (v2 < 0) (
          some (some (vI 1), M1)) (
          some (some (vI 0), M1))) (
        some (some (vI 0), M)))) (
    some (some (vI 0), M)) := ((evD_step (d := d) (x := 210) (as := [vR 12 0 253]) (M := M) (md := (⟨"IceParliamentModel", "isName", "()Z"⟩, prog_14_method_23_code, 1, (Option.some Jvm.ClassFile.FieldType.boolean), 12, 12)) rfl rfl).trans (j210 (evD d) (evp0 (lkE (codT 210)) (hdT 210) (evD d))  M)).trans (by (try simp only [ic_t (show (0 : Int32) &&& 1 = 0 by decide), ic_t (show (1 : Int32) &&& 1 = 1 by decide)]))
-- IceParliamentModel wordHere(II)I
set_option maxRecDepth 100000 in
theorem j211 (call : Nat → List AV → Mem → Res) (back : Nat → Lv → Mem → Res) (p0 : Int32) (p1 : Int32) (M : Mem) : evj (lkE cd_211) [5] call back 4000 0 [some (vR 12 0 253), some (vI p0), some (vI p1), none, none] [] M =
  back 5 [some (vR 12 0 253), some (vI p0), some (vI p1), some (vI (-1)), some (vI 0)] M := rfl
set_option maxRecDepth 100000 in
theorem e211 (d : Nat) (p0 : Int32) (p1 : Int32) (M : Mem) : evD (d + 1) 211 [vR 12 0 253, vI p0, vI p1] M =
  lp0 d 211 5 [some (vR 12 0 253), some (vI p0), some (vI p1), some (vI (-1)), some (vI 0)] M := ((evD_step (d := d) (x := 211) (as := [vR 12 0 253, vI p0, vI p1]) (M := M) (md := (⟨"IceParliamentModel", "wordHere", "(II)I"⟩, prog_14_method_21_code, 5, (Option.some Jvm.ClassFile.FieldType.int), 12, 12)) rfl rfl).trans (j211 (evD d) (evp0 (lkE (codT 211)) (hdT 211) (evD d)) p0 p1 M))
set_option maxRecDepth 100000 in
theorem g211_5 (call : Nat → List AV → Mem → Res) (back : Nat → Lv → Mem → Res) (l1 : Int32) (l2 : Int32) (l3 : Int32) (l4 : Int32) (M : Mem) : stepK call back (evj (lkE cd_211) [5] call back 4000) (.iload 4, 2, 4, 0, 0, 0, 0) 5 [some (vR 12 0 253), some (vI l1), some (vI l2), some (vI l3), some (vI l4)] [] M =
  ic (l4 < l2) (
    cIn (call 206 [vR 12 0 253, vI (l1 + l4)] M) fun v2 M1 =>
    ic (v2 = 0) (
      back 5 [some (vR 12 0 253), some (vI l1), some (vI l2), some (vI l3), some (vI (l4 + 1))] M1) (
      back 5 [some (vR 12 0 253), some (vI l1), some (vI l2), some (vI l4), some (vI (l4 + 1))] M1)) (
    some (some (vI l3), M)) := rfl
set_option maxRecDepth 100000 in
theorem e211_5 (d F : Nat) (l1 : Int32) (l2 : Int32) (l3 : Int32) (l4 : Int32) (M : Mem) : lp d 211 (F + 1) 5 [some (vR 12 0 253), some (vI l1), some (vI l2), some (vI l3), some (vI l4)] M =
  ic (l4 < l2) (
    cIn (evD d 206 [vR 12 0 253, vI (l1 + l4)] M) fun v2 M1 =>
    ic (v2 = 0) (
      lp d 211 F 5 [some (vR 12 0 253), some (vI l1), some (vI l2), some (vI l3), some (vI (l4 + 1))] M1) (
      lp d 211 F 5 [some (vR 12 0 253), some (vI l1), some (vI l2), some (vI l4), some (vI (l4 + 1))] M1)) (
    some (some (vI l3), M)) := ((evp_step (code := lkE (codT 211)) (hd := hdT 211) (call := evD d) (F := F) (pc := 5) (lv := [some (vR 12 0 253), some (vI l1), some (vI l2), some (vI l3), some (vI l4)]) (M := M) (e := (.iload 4, 2, 4, 0, 0, 0, 0)) rfl).trans (g211_5 (evD d) (evp (lkE (codT 211)) (hdT 211) (evD d) F) l1 l2 l3 l4 M))
-- IceParliamentModel find(Z)I
set_option maxRecDepth 100000 in
theorem j212 (call : Nat → List AV → Mem → Res) (back : Nat → Lv → Mem → Res) (p0 : Int32) (M : Mem) : evj (lkE cd_212) [2, 21, 53] call back 4000 0 [some (vR 12 0 253), some (vI p0), none] [] M =
  back 2 [some (vR 12 0 253), some (vI p0), some (vI 0)] M := rfl
set_option maxRecDepth 100000 in
theorem e212 (d : Nat) (p0 : Int32) (M : Mem) : evD (d + 1) 212 [vR 12 0 253, vI p0] M =
  lp0 d 212 2 [some (vR 12 0 253), some (vI p0), some (vI 0)] M := ((evD_step (d := d) (x := 212) (as := [vR 12 0 253, vI p0]) (M := M) (md := (⟨"IceParliamentModel", "find", "(Z)I"⟩, prog_14_method_24_code, 3, (Option.some Jvm.ClassFile.FieldType.int), 12, 12)) rfl rfl).trans (j212 (evD d) (evp0 (lkE (codT 212)) (hdT 212) (evD d)) p0 M))
set_option maxRecDepth 100000 in
theorem g212_2 (call : Nat → List AV → Mem → Res) (back : Nat → Lv → Mem → Res) (l1 : Int32) (l2 : Int32) (M : Mem) : stepK call back (evj (lkE cd_212) [2, 21, 53] call back 4000) (.iload_n 2, 1, 2, 0, 0, 0, 0) 2 [some (vR 12 0 253), some (vI l1), some (vI l2)] [] M =
  ic (l1 = 0) (
    ic (l2 < M.1 253 18) (
      back 21 [some (vR 12 0 253), some (vI l1), some (vI l2)] M) (
      some (some (vI (-1)), M))) (
    ic (l2 < M.1 253 19) (
      back 21 [some (vR 12 0 253), some (vI l1), some (vI l2)] M) (
      some (some (vI (-1)), M))) := rfl
set_option maxRecDepth 100000 in
theorem e212_2 (d F : Nat) (l1 : Int32) (l2 : Int32) (M : Mem) : lp d 212 (F + 1) 2 [some (vR 12 0 253), some (vI l1), some (vI l2)] M =
  ic (l1 = 0) (
    ic (l2 < M.1 253 18) (
      lp d 212 F 21 [some (vR 12 0 253), some (vI l1), some (vI l2)] M) (
      some (some (vI (-1)), M))) (
    ic (l2 < M.1 253 19) (
      lp d 212 F 21 [some (vR 12 0 253), some (vI l1), some (vI l2)] M) (
      some (some (vI (-1)), M))) := ((evp_step (code := lkE (codT 212)) (hd := hdT 212) (call := evD d) (F := F) (pc := 2) (lv := [some (vR 12 0 253), some (vI l1), some (vI l2)]) (M := M) (e := (.iload_n 2, 1, 2, 0, 0, 0, 0)) rfl).trans (g212_2 (evD d) (evp (lkE (codT 212)) (hdT 212) (evD d) F) l1 l2 M))
set_option maxRecDepth 100000 in
theorem g212_21 (call : Nat → List AV → Mem → Res) (back : Nat → Lv → Mem → Res) (l1 : Int32) (l2 : Int32) (M : Mem) : stepK call back (evj (lkE cd_212) [2, 21, 53] call back 4000) (.iload_n 1, 1, 1, 0, 0, 0, 0) 21 [some (vR 12 0 253), some (vI l1), some (vI l2)] [] M =
  ic (l1 = 0) (
    ic (l2 < 0 ∨ 18 ≤ l2.toNatClampNeg) none (
      ic (M.1 253 7 < 0 ∨ 1002 ≤ (M.1 253 7).toNatClampNeg) none (
        ic (lg_cmp (M.2.1 262 l2.toNatClampNeg) (M.2.1 257 (M.1 253 7).toNatClampNeg) = 0) (
          back 53 [some (vR 12 0 253), some (vI l1), some (vI l2)] M) (
          back 2 [some (vR 12 0 253), some (vI l1), some (vI (l2 + 1))] M)))) (
    ic (l2 < 0 ∨ 18 ≤ l2.toNatClampNeg) none (
      ic (M.1 253 7 < 0 ∨ 1002 ≤ (M.1 253 7).toNatClampNeg) none (
        ic (lg_cmp (M.2.1 263 l2.toNatClampNeg) (M.2.1 257 (M.1 253 7).toNatClampNeg) = 0) (
          back 53 [some (vR 12 0 253), some (vI l1), some (vI l2)] M) (
          back 2 [some (vR 12 0 253), some (vI l1), some (vI (l2 + 1))] M)))) := rfl
set_option maxRecDepth 100000 in
theorem e212_21 (d F : Nat) (l1 : Int32) (l2 : Int32) (M : Mem) : lp d 212 (F + 1) 21 [some (vR 12 0 253), some (vI l1), some (vI l2)] M =
  ic (l1 = 0) (
    ic (l2 < 0 ∨ 18 ≤ l2.toNatClampNeg) none (
      ic (M.1 253 7 < 0 ∨ 1002 ≤ (M.1 253 7).toNatClampNeg) none (
        ic (lg_cmp (M.2.1 262 l2.toNatClampNeg) (M.2.1 257 (M.1 253 7).toNatClampNeg) = 0) (
          lp d 212 F 53 [some (vR 12 0 253), some (vI l1), some (vI l2)] M) (
          lp d 212 F 2 [some (vR 12 0 253), some (vI l1), some (vI (l2 + 1))] M)))) (
    ic (l2 < 0 ∨ 18 ≤ l2.toNatClampNeg) none (
      ic (M.1 253 7 < 0 ∨ 1002 ≤ (M.1 253 7).toNatClampNeg) none (
        ic (lg_cmp (M.2.1 263 l2.toNatClampNeg) (M.2.1 257 (M.1 253 7).toNatClampNeg) = 0) (
          lp d 212 F 53 [some (vR 12 0 253), some (vI l1), some (vI l2)] M) (
          lp d 212 F 2 [some (vR 12 0 253), some (vI l1), some (vI (l2 + 1))] M)))) := ((evp_step (code := lkE (codT 212)) (hd := hdT 212) (call := evD d) (F := F) (pc := 21) (lv := [some (vR 12 0 253), some (vI l1), some (vI l2)]) (M := M) (e := (.iload_n 1, 1, 1, 0, 0, 0, 0)) rfl).trans (g212_21 (evD d) (evp (lkE (codT 212)) (hdT 212) (evD d) F) l1 l2 M))
set_option maxRecDepth 100000 in
theorem g212_53 (call : Nat → List AV → Mem → Res) (back : Nat → Lv → Mem → Res) (l1 : Int32) (l2 : Int32) (M : Mem) : stepK call back (evj (lkE cd_212) [2, 21, 53] call back 4000) (.iload_n 1, 1, 1, 0, 0, 0, 0) 53 [some (vR 12 0 253), some (vI l1), some (vI l2)] [] M =
  ic (l1 = 0) (
    ic (l2 < 0 ∨ 18 ≤ l2.toNatClampNeg) none (
      some (some (vI (M.1 264 l2.toNatClampNeg)), M))) (
    ic (l2 < 0 ∨ 18 ≤ l2.toNatClampNeg) none (
      some (some (vI (M.1 265 l2.toNatClampNeg)), M))) := rfl
set_option maxRecDepth 100000 in
theorem e212_53 (d F : Nat) (l1 : Int32) (l2 : Int32) (M : Mem) : lp d 212 (F + 1) 53 [some (vR 12 0 253), some (vI l1), some (vI l2)] M =
  ic (l1 = 0) (
    ic (l2 < 0 ∨ 18 ≤ l2.toNatClampNeg) none (
      some (some (vI (M.1 264 l2.toNatClampNeg)), M))) (
    ic (l2 < 0 ∨ 18 ≤ l2.toNatClampNeg) none (
      some (some (vI (M.1 265 l2.toNatClampNeg)), M))) := ((evp_step (code := lkE (codT 212)) (hd := hdT 212) (call := evD d) (F := F) (pc := 53) (lv := [some (vR 12 0 253), some (vI l1), some (vI l2)]) (M := M) (e := (.iload_n 1, 1, 1, 0, 0, 0, 0)) rfl).trans (g212_53 (evD d) (evp (lkE (codT 212)) (hdT 212) (evD d) F) l1 l2 M))
-- IceParliamentModel takeAfter(III)I
set_option maxRecDepth 100000 in
theorem j213 (call : Nat → List AV → Mem → Res) (back : Nat → Lv → Mem → Res) (p0 : Int32) (p1 : Int32) (p2 : Int32) (M : Mem) : evj (lkE cd_213) [] call back 4000 0 [some (vR 12 0 253), some (vI p0), some (vI p1), some (vI p2)] [] M =
  cVd (call 214 [vR 12 0 253, vI p0] M) fun M1 =>
  cIn (call 216 [vR 12 0 253, vI p1, vI p2] M1) fun v3 M2 =>
  some (some (vI v3), M2) := rfl
set_option maxRecDepth 100000 in
theorem e213 (d : Nat) (p0 : Int32) (p1 : Int32) (p2 : Int32) (M : Mem) : evD (d + 1) 213 [vR 12 0 253, vI p0, vI p1, vI p2] M =
  cVd (evD d 214 [vR 12 0 253, vI p0] M) fun M1 =>
  cIn (evD d 216 [vR 12 0 253, vI p1, vI p2] M1) fun v3 M2 =>
  some (some (vI v3), M2) := ((evD_step (d := d) (x := 213) (as := [vR 12 0 253, vI p0, vI p1, vI p2]) (M := M) (md := (⟨"IceParliamentModel", "takeAfter", "(III)I"⟩, prog_14_method_20_code, 4, (Option.some Jvm.ClassFile.FieldType.int), 12, 12)) rfl rfl).trans (j213 (evD d) (evp0 (lkE (codT 213)) (hdT 213) (evD d)) p0 p1 p2 M))
-- IceParliamentModel takeWord(I)V
set_option maxRecDepth 100000 in
theorem j214 (call : Nat → List AV → Mem → Res) (back : Nat → Lv → Mem → Res) (p0 : Int32) (M : Mem) : evj (lkE cd_214) [] call back 4000 0 [some (vR 12 0 253), some (vI p0)] [] M =
  cIn (call 215 [vR 12 0 253, vI p0] M) fun v2 M1 =>
  ic (v2 = 0) (
    cVd (call 208 [vR 12 0 253, vI 1] M1) fun M3 =>
    some (none, M3)) (
    some (none, M1)) := rfl
set_option maxRecDepth 100000 in
theorem e214 (d : Nat) (p0 : Int32) (M : Mem) : evD (d + 1) 214 [vR 12 0 253, vI p0] M =
  cIn (evD d 215 [vR 12 0 253, vI p0] M) fun v2 M1 =>
  ic (v2 = 0) (
    cVd (evD d 208 [vR 12 0 253, vI 1] M1) fun M3 =>
    some (none, M3)) (
    some (none, M1)) := ((evD_step (d := d) (x := 214) (as := [vR 12 0 253, vI p0]) (M := M) (md := (⟨"IceParliamentModel", "takeWord", "(I)V"⟩, prog_14_method_16_code, 2, (Option.none : Option Jvm.ClassFile.FieldType), 12, 12)) rfl rfl).trans (j214 (evD d) (evp0 (lkE (codT 214)) (hdT 214) (evD d)) p0 M))
-- IceParliamentModel hasWord(I)Z
set_option maxRecDepth 100000 in
theorem j215 (call : Nat → List AV → Mem → Res) (back : Nat → Lv → Mem → Res) (p0 : Int32) (M : Mem) : evj (lkE cd_215) [] call back 4000 0 [some (vR 12 0 253), some (vI p0), none] [] M =
  cIn (call 206 [vR 12 0 253, vI p0] M) fun v2 M1 =>
  ic (v2 = 0) (
    ic (v2 &&& 1 = v2) (
      some (some (vI v2), sI M1 253 7 ((M1.1 253 7) + 0))) none) (
    ic (v2 &&& 1 = v2) (
      some (some (vI v2), sI M1 253 7 ((M1.1 253 7) + 1))) none) := rfl
set_option maxRecDepth 100000 in
theorem e215 (d : Nat) (p0 : Int32) (M : Mem) : evD (d + 1) 215 [vR 12 0 253, vI p0] M =
  cIn (evD d 206 [vR 12 0 253, vI p0] M) fun v2 M1 =>
  ic (v2 = 0) (
    ic (v2 &&& 1 = v2) (
      some (some (vI v2), sI M1 253 7 ((M1.1 253 7) + 0))) none) (
    ic (v2 &&& 1 = v2) (
      some (some (vI v2), sI M1 253 7 ((M1.1 253 7) + 1))) none) := ((evD_step (d := d) (x := 215) (as := [vR 12 0 253, vI p0]) (M := M) (md := (⟨"IceParliamentModel", "hasWord", "(I)Z"⟩, prog_14_method_15_code, 3, (Option.some Jvm.ClassFile.FieldType.boolean), 12, 12)) rfl rfl).trans (j215 (evD d) (evp0 (lkE (codT 215)) (hdT 215) (evD d)) p0 M))
-- IceParliamentModel takeNumber(II)I
set_option maxRecDepth 100000 in
theorem j216 (call : Nat → List AV → Mem → Res) (back : Nat → Lv → Mem → Res) (p0 : Int32) (p1 : Int32) (M : Mem) : evj (lkE cd_216) [28, 65, 70] call back 4000 0 [some (vR 12 0 253), some (vI p0), some (vI p1)] [] M =
  ic (M.1 253 8 = 0) (
    ic (M.1 253 7 < 0 ∨ 1002 ≤ (M.1 253 7).toNatClampNeg) none (
      ic (M.1 255 (M.1 253 7).toNatClampNeg = 2) (
        back 28 [some (vR 12 0 253), some (vI p0), some (vI p1)] M) (
        cVd (call 208 [vR 12 0 253, vI 1] M) fun M1 =>
        back 70 [some (vR 12 0 253), some (vI p0), some (vI p1)] M1))) (
    back 28 [some (vR 12 0 253), some (vI p0), some (vI p1)] M) := rfl
set_option maxRecDepth 100000 in
theorem e216 (d : Nat) (p0 : Int32) (p1 : Int32) (M : Mem) : evD (d + 1) 216 [vR 12 0 253, vI p0, vI p1] M =
  ic (M.1 253 8 = 0) (
    ic (M.1 253 7 < 0 ∨ 1002 ≤ (M.1 253 7).toNatClampNeg) none (
      ic (M.1 255 (M.1 253 7).toNatClampNeg = 2) (
        lp0 d 216 28 [some (vR 12 0 253), some (vI p0), some (vI p1)] M) (
        cVd (evD d 208 [vR 12 0 253, vI 1] M) fun M1 =>
        lp0 d 216 70 [some (vR 12 0 253), some (vI p0), some (vI p1)] M1))) (
    lp0 d 216 28 [some (vR 12 0 253), some (vI p0), some (vI p1)] M) := ((evD_step (d := d) (x := 216) (as := [vR 12 0 253, vI p0, vI p1]) (M := M) (md := (⟨"IceParliamentModel", "takeNumber", "(II)I"⟩, prog_14_method_19_code, 3, (Option.some Jvm.ClassFile.FieldType.int), 12, 12)) rfl rfl).trans (j216 (evD d) (evp0 (lkE (codT 216)) (hdT 216) (evD d)) p0 p1 M))
set_option maxRecDepth 100000 in
theorem g216_28 (call : Nat → List AV → Mem → Res) (back : Nat → Lv → Mem → Res) (l1 : Int32) (l2 : Int32) (M : Mem) : stepK call back (evj (lkE cd_216) [28, 65, 70] call back 4000) (.aload_n 0, 1, 0, 0, 0, 0, 0) 28 [some (vR 12 0 253), some (vI l1), some (vI l2)] [] M =
  ic (M.1 253 8 = 0) (
    ic (M.1 253 7 < 0 ∨ 1002 ≤ (M.1 253 7).toNatClampNeg) none (
      ic (lg_cmp (M.2.1 257 (M.1 253 7).toNatClampNeg) l1.toInt64 < 0) (
        back 65 [some (vR 12 0 253), some (vI l1), some (vI l2)] M) (
        ic (M.1 253 7 < 0 ∨ 1002 ≤ (M.1 253 7).toNatClampNeg) none (
          ic (0 < lg_cmp (M.2.1 257 (M.1 253 7).toNatClampNeg) l2.toInt64) (
            back 65 [some (vR 12 0 253), some (vI l1), some (vI l2)] M) (
            back 70 [some (vR 12 0 253), some (vI l1), some (vI l2)] M))))) (
    back 70 [some (vR 12 0 253), some (vI l1), some (vI l2)] M) := rfl
set_option maxRecDepth 100000 in
theorem e216_28 (d F : Nat) (l1 : Int32) (l2 : Int32) (M : Mem) : lp d 216 (F + 1) 28 [some (vR 12 0 253), some (vI l1), some (vI l2)] M =
  ic (M.1 253 8 = 0) (
    ic (M.1 253 7 < 0 ∨ 1002 ≤ (M.1 253 7).toNatClampNeg) none (
      ic (lg_cmp (M.2.1 257 (M.1 253 7).toNatClampNeg) l1.toInt64 < 0) (
        lp d 216 F 65 [some (vR 12 0 253), some (vI l1), some (vI l2)] M) (
        ic (M.1 253 7 < 0 ∨ 1002 ≤ (M.1 253 7).toNatClampNeg) none (
          ic (0 < lg_cmp (M.2.1 257 (M.1 253 7).toNatClampNeg) l2.toInt64) (
            lp d 216 F 65 [some (vR 12 0 253), some (vI l1), some (vI l2)] M) (
            lp d 216 F 70 [some (vR 12 0 253), some (vI l1), some (vI l2)] M))))) (
    lp d 216 F 70 [some (vR 12 0 253), some (vI l1), some (vI l2)] M) := ((evp_step (code := lkE (codT 216)) (hd := hdT 216) (call := evD d) (F := F) (pc := 28) (lv := [some (vR 12 0 253), some (vI l1), some (vI l2)]) (M := M) (e := (.aload_n 0, 1, 0, 0, 0, 0, 0)) rfl).trans (g216_28 (evD d) (evp (lkE (codT 216)) (hdT 216) (evD d) F) l1 l2 M))
set_option maxRecDepth 100000 in
theorem g216_70 (call : Nat → List AV → Mem → Res) (back : Nat → Lv → Mem → Res) (o1 : Option AV) (o2 : Option AV) (M : Mem) : stepK call back (evj (lkE cd_216) [28, 65, 70] call back 4000) (.aload_n 0, 1, 0, 0, 0, 0, 0) 70 [some (vR 12 0 253), o1, o2] [] M =
  ic (0 < M.1 253 8) (
    some (some (vI 0), M)) (
    ic (((sI M 253 7 ((M.1 253 7) + 1)).1 253 7) - 1 < 0 ∨ 1002 ≤ (((sI M 253 7 ((M.1 253 7) + 1)).1 253 7) - 1).toNatClampNeg) none (
      some (some (vI (((sI M 253 7 ((M.1 253 7) + 1)).2.1 257 (((sI M 253 7 ((M.1 253 7) + 1)).1 253 7) - 1).toNatClampNeg).toInt32)), sI M 253 7 ((M.1 253 7) + 1)))) := rfl
set_option maxRecDepth 100000 in
theorem e216_70 (d F : Nat) (o1 : Option AV) (o2 : Option AV) (M : Mem) : lp d 216 (F + 1) 70 [some (vR 12 0 253), o1, o2] M =
  ic (0 < M.1 253 8) (
    some (some (vI 0), M)) (
    ic (((sI M 253 7 ((M.1 253 7) + 1)).1 253 7) - 1 < 0 ∨ 1002 ≤ (((sI M 253 7 ((M.1 253 7) + 1)).1 253 7) - 1).toNatClampNeg) none (
      some (some (vI (((sI M 253 7 ((M.1 253 7) + 1)).2.1 257 (((sI M 253 7 ((M.1 253 7) + 1)).1 253 7) - 1).toNatClampNeg).toInt32)), sI M 253 7 ((M.1 253 7) + 1)))) := ((evp_step (code := lkE (codT 216)) (hd := hdT 216) (call := evD d) (F := F) (pc := 70) (lv := [some (vR 12 0 253), o1, o2]) (M := M) (e := (.aload_n 0, 1, 0, 0, 0, 0, 0)) rfl).trans (g216_70 (evD d) (evp (lkE (codT 216)) (hdT 216) (evD d) F) o1 o2 M))
set_option maxRecDepth 100000 in
theorem g216_65 (call : Nat → List AV → Mem → Res) (back : Nat → Lv → Mem → Res) (o1 : Option AV) (o2 : Option AV) (M : Mem) : stepK call back (evj (lkE cd_216) [28, 65, 70] call back 4000) (.aload_n 0, 1, 0, 0, 0, 0, 0) 65 [some (vR 12 0 253), o1, o2] [] M =
  cVd (call 208 [vR 12 0 253, vI 4] M) fun M1 =>
  back 70 [some (vR 12 0 253), o1, o2] M1 := rfl
set_option maxRecDepth 100000 in
theorem e216_65 (d F : Nat) (o1 : Option AV) (o2 : Option AV) (M : Mem) : lp d 216 (F + 1) 65 [some (vR 12 0 253), o1, o2] M =
  cVd (evD d 208 [vR 12 0 253, vI 4] M) fun M1 =>
  lp d 216 F 70 [some (vR 12 0 253), o1, o2] M1 := ((evp_step (code := lkE (codT 216)) (hd := hdT 216) (call := evD d) (F := F) (pc := 65) (lv := [some (vR 12 0 253), o1, o2]) (M := M) (e := (.aload_n 0, 1, 0, 0, 0, 0, 0)) rfl).trans (g216_65 (evD d) (evp (lkE (codT 216)) (hdT 216) (evD d) F) o1 o2 M))
-- IceParliamentModel readCarver()V
set_option maxRecDepth 100000 in
theorem j217 (call : Nat → List AV → Mem → Res) (back : Nat → Lv → Mem → Res)  (M : Mem) : evj (lkE cd_217) [] call back 4000 0 [some (vR 12 0 253), none] [] M =
  ic ((111 : Int32) < 0 ∨ 220 ≤ (111 : Int32).toNatClampNeg) none (
    ic (M.1 259 (111 : Int32).toNatClampNeg = 6) (
      cVd (call 208 [vR 12 0 253, vI 5] M) fun M6 =>
      some (none, M6)) (
      cVd (call 209 [vR 12 0 253, vI (20 + (M.1 259 (111 : Int32).toNatClampNeg))] M) fun M1 =>
      cIn (call 218 [vR 12 0 253, vI 19, vI 2] M1) fun v3 M2 =>
      ic (124 + (2 * (M.1 259 (111 : Int32).toNatClampNeg)) < 0 ∨ 220 ≤ (124 + (2 * (M.1 259 (111 : Int32).toNatClampNeg))).toNatClampNeg) none (
        cIn (call 213 [vR 12 0 253, vI 3, vI 0, vI 9] (sI M2 259 ((124 + (2 * (M.1 259 (111 : Int32).toNatClampNeg))).toNatClampNeg) v3)) fun v5 M4 =>
        ic ((124 + (2 * (M.1 259 (111 : Int32).toNatClampNeg))) + 1 < 0 ∨ 220 ≤ ((124 + (2 * (M.1 259 (111 : Int32).toNatClampNeg))) + 1).toNatClampNeg) none (
          ic ((111 : Int32) < 0 ∨ 220 ≤ (111 : Int32).toNatClampNeg) none (
            ic ((111 : Int32) < 0 ∨ 220 ≤ (111 : Int32).toNatClampNeg) none (
              some (none, sI (sI M4 259 (((124 + (2 * (M.1 259 (111 : Int32).toNatClampNeg))) + 1).toNatClampNeg) v5) 259 ((111 : Int32).toNatClampNeg) (((sI M4 259 (((124 + (2 * (M.1 259 (111 : Int32).toNatClampNeg))) + 1).toNatClampNeg) v5).1 259 (111 : Int32).toNatClampNeg) + 1)))))))) := rfl
set_option maxRecDepth 100000 in
theorem e217 (d : Nat)  (M : Mem) : evD (d + 1) 217 [vR 12 0 253] M =
  ic (M.1 259 111 = 6) (
    cVd (evD d 208 [vR 12 0 253, vI 5] M) fun M6 =>
    some (none, M6)) (
    cVd (evD d 209 [vR 12 0 253, vI (20 + (M.1 259 111))] M) fun M1 =>
    cIn (evD d 218 [vR 12 0 253, vI 19, vI 2] M1) fun v3 M2 =>
    ic (124 + (2 * (M.1 259 111)) < 0 ∨ 220 ≤ (124 + (2 * (M.1 259 111))).toNatClampNeg) none (
      cIn (evD d 213 [vR 12 0 253, vI 3, vI 0, vI 9] (sI M2 259 ((124 + (2 * (M.1 259 111))).toNatClampNeg) v3)) fun v5 M4 =>
      ic ((124 + (2 * (M.1 259 111))) + 1 < 0 ∨ 220 ≤ ((124 + (2 * (M.1 259 111))) + 1).toNatClampNeg) none (
        some (none, sI (sI M4 259 (((124 + (2 * (M.1 259 111))) + 1).toNatClampNeg) v5) 259 111 (((sI M4 259 (((124 + (2 * (M.1 259 111))) + 1).toNatClampNeg) v5).1 259 111) + 1))))) := ((evD_step (d := d) (x := 217) (as := [vR 12 0 253]) (M := M) (md := (⟨"IceParliamentModel", "readCarver", "()V"⟩, prog_14_method_31_code, 2, (Option.none : Option Jvm.ClassFile.FieldType), 12, 12)) rfl rfl).trans (j217 (evD d) (evp0 (lkE (codT 217)) (hdT 217) (evD d))  M)).trans (by (try simp only [ic_f (show ¬ ((111 : Int32) < 0 ∨ 220 ≤ (111 : Int32).toNatClampNeg) by decide)]); (try simp only [show (111 : Int32).toNatClampNeg = 111 from rfl]))
-- IceParliamentModel takeOne(II)I
set_option maxRecDepth 100000 in
theorem j218 (call : Nat → List AV → Mem → Res) (back : Nat → Lv → Mem → Res) (p0 : Int32) (p1 : Int32) (M : Mem) : evj (lkE cd_218) [18, 34, 55] call back 4000 0 [some (vR 12 0 253), some (vI p0), some (vI p1), none] [] M =
  ic (0 < M.1 253 8) (
    back 18 [some (vR 12 0 253), some (vI p0), some (vI p1), some (vI (-1))] M) (
    cIn (call 211 [vR 12 0 253, vI p0, vI p1] M) fun v2 M1 =>
    back 18 [some (vR 12 0 253), some (vI p0), some (vI p1), some (vI v2)] M1) := rfl
set_option maxRecDepth 100000 in
theorem e218 (d : Nat) (p0 : Int32) (p1 : Int32) (M : Mem) : evD (d + 1) 218 [vR 12 0 253, vI p0, vI p1] M =
  ic (0 < M.1 253 8) (
    lp0 d 218 18 [some (vR 12 0 253), some (vI p0), some (vI p1), some (vI (-1))] M) (
    cIn (evD d 211 [vR 12 0 253, vI p0, vI p1] M) fun v2 M1 =>
    lp0 d 218 18 [some (vR 12 0 253), some (vI p0), some (vI p1), some (vI v2)] M1) := ((evD_step (d := d) (x := 218) (as := [vR 12 0 253, vI p0, vI p1]) (M := M) (md := (⟨"IceParliamentModel", "takeOne", "(II)I"⟩, prog_14_method_22_code, 4, (Option.some Jvm.ClassFile.FieldType.int), 12, 12)) rfl rfl).trans (j218 (evD d) (evp0 (lkE (codT 218)) (hdT 218) (evD d)) p0 p1 M))
set_option maxRecDepth 100000 in
theorem g218_18 (call : Nat → List AV → Mem → Res) (back : Nat → Lv → Mem → Res) (o1 : Option AV) (o2 : Option AV) (l3 : Int32) (M : Mem) : stepK call back (evj (lkE cd_218) [18, 34, 55] call back 4000) (.aload_n 0, 1, 0, 0, 0, 0, 0) 18 [some (vR 12 0 253), o1, o2, some (vI l3)] [] M =
  ic (M.1 253 8 = 0) (
    ic (l3 < 0) (
      cVd (call 208 [vR 12 0 253, vI 1] M) fun M1 =>
      back 34 [some (vR 12 0 253), o1, o2, some (vI l3)] M1) (
      back 34 [some (vR 12 0 253), o1, o2, some (vI l3)] M)) (
    back 34 [some (vR 12 0 253), o1, o2, some (vI l3)] M) := rfl
set_option maxRecDepth 100000 in
theorem e218_18 (d F : Nat) (o1 : Option AV) (o2 : Option AV) (l3 : Int32) (M : Mem) : lp d 218 (F + 1) 18 [some (vR 12 0 253), o1, o2, some (vI l3)] M =
  ic (M.1 253 8 = 0) (
    ic (l3 < 0) (
      cVd (evD d 208 [vR 12 0 253, vI 1] M) fun M1 =>
      lp d 218 F 34 [some (vR 12 0 253), o1, o2, some (vI l3)] M1) (
      lp d 218 F 34 [some (vR 12 0 253), o1, o2, some (vI l3)] M)) (
    lp d 218 F 34 [some (vR 12 0 253), o1, o2, some (vI l3)] M) := ((evp_step (code := lkE (codT 218)) (hd := hdT 218) (call := evD d) (F := F) (pc := 18) (lv := [some (vR 12 0 253), o1, o2, some (vI l3)]) (M := M) (e := (.aload_n 0, 1, 0, 0, 0, 0, 0)) rfl).trans (g218_18 (evD d) (evp (lkE (codT 218)) (hdT 218) (evD d) F) o1 o2 l3 M))
set_option maxRecDepth 100000 in
theorem g218_34 (call : Nat → List AV → Mem → Res) (back : Nat → Lv → Mem → Res) (o1 : Option AV) (o2 : Option AV) (l3 : Int32) (M : Mem) : stepK call back (evj (lkE cd_218) [18, 34, 55] call back 4000) (.aload_n 0, 1, 0, 0, 0, 0, 0) 34 [some (vR 12 0 253), o1, o2, some (vI l3)] [] M =
  ic (0 < M.1 253 8) (
    back 55 [some (vR 12 0 253), o1, o2, some (vI l3)] (sI M 253 7 ((M.1 253 7) + 0))) (
    back 55 [some (vR 12 0 253), o1, o2, some (vI l3)] (sI M 253 7 ((M.1 253 7) + 1))) := rfl
set_option maxRecDepth 100000 in
theorem e218_34 (d F : Nat) (o1 : Option AV) (o2 : Option AV) (l3 : Int32) (M : Mem) : lp d 218 (F + 1) 34 [some (vR 12 0 253), o1, o2, some (vI l3)] M =
  ic (0 < M.1 253 8) (
    lp d 218 F 55 [some (vR 12 0 253), o1, o2, some (vI l3)] (sI M 253 7 ((M.1 253 7) + 0))) (
    lp d 218 F 55 [some (vR 12 0 253), o1, o2, some (vI l3)] (sI M 253 7 ((M.1 253 7) + 1))) := ((evp_step (code := lkE (codT 218)) (hd := hdT 218) (call := evD d) (F := F) (pc := 34) (lv := [some (vR 12 0 253), o1, o2, some (vI l3)]) (M := M) (e := (.aload_n 0, 1, 0, 0, 0, 0, 0)) rfl).trans (g218_34 (evD d) (evp (lkE (codT 218)) (hdT 218) (evD d) F) o1 o2 l3 M))
set_option maxRecDepth 100000 in
theorem g218_55 (call : Nat → List AV → Mem → Res) (back : Nat → Lv → Mem → Res) (o1 : Option AV) (o2 : Option AV) (l3 : Int32) (M : Mem) : stepK call back (evj (lkE cd_218) [18, 34, 55] call back 4000) (.aload_n 0, 1, 0, 0, 0, 0, 0) 55 [some (vR 12 0 253), o1, o2, some (vI l3)] [] M =
  ic (0 < M.1 253 8) (
    some (some (vI 0), M)) (
    some (some (vI l3), M)) := rfl
set_option maxRecDepth 100000 in
theorem e218_55 (d F : Nat) (o1 : Option AV) (o2 : Option AV) (l3 : Int32) (M : Mem) : lp d 218 (F + 1) 55 [some (vR 12 0 253), o1, o2, some (vI l3)] M =
  ic (0 < M.1 253 8) (
    some (some (vI 0), M)) (
    some (some (vI l3), M)) := ((evp_step (code := lkE (codT 218)) (hd := hdT 218) (call := evD d) (F := F) (pc := 55) (lv := [some (vR 12 0 253), o1, o2, some (vI l3)]) (M := M) (e := (.aload_n 0, 1, 0, 0, 0, 0, 0)) rfl).trans (g218_55 (evD d) (evp (lkE (codT 218)) (hdT 218) (evD d) F) o1 o2 l3 M))
-- IceParliamentModel readAct()V
set_option maxRecDepth 100000 in
theorem j219 (call : Nat → List AV → Mem → Res) (back : Nat → Lv → Mem → Res)  (M : Mem) : evj (lkE cd_219) [] call back 4000 0 [some (vR 12 0 253), none, none] [] M =
  ic ((112 : Int32) < 0 ∨ 220 ≤ (112 : Int32).toNatClampNeg) none (
    ic (M.1 259 (112 : Int32).toNatClampNeg = 6) (
      cVd (call 208 [vR 12 0 253, vI 5] M) fun M13 =>
      some (none, M13)) (
      cVd (call 209 [vR 12 0 253, vI (40 + (M.1 259 (112 : Int32).toNatClampNeg))] M) fun M1 =>
      cIn (call 218 [vR 12 0 253, vI 21, vI 4] M1) fun v3 M2 =>
      ic (136 + (5 * (M.1 259 (112 : Int32).toNatClampNeg)) < 0 ∨ 220 ≤ (136 + (5 * (M.1 259 (112 : Int32).toNatClampNeg))).toNatClampNeg) none (
        cIn (call 213 [vR 12 0 253, vI 5, vI 1, vI 20] (sI M2 259 ((136 + (5 * (M.1 259 (112 : Int32).toNatClampNeg))).toNatClampNeg) v3)) fun v5 M4 =>
        ic ((136 + (5 * (M.1 259 (112 : Int32).toNatClampNeg))) + 1 < 0 ∨ 220 ≤ ((136 + (5 * (M.1 259 (112 : Int32).toNatClampNeg))) + 1).toNatClampNeg) none (
          cIn (call 213 [vR 12 0 253, vI 6, vI 1, vI 99] (sI M4 259 (((136 + (5 * (M.1 259 (112 : Int32).toNatClampNeg))) + 1).toNatClampNeg) v5)) fun v7 M6 =>
          ic ((136 + (5 * (M.1 259 (112 : Int32).toNatClampNeg))) + 2 < 0 ∨ 220 ≤ ((136 + (5 * (M.1 259 (112 : Int32).toNatClampNeg))) + 2).toNatClampNeg) none (
            cIn (call 213 [vR 12 0 253, vI 7, vI 0, vI 99] (sI M6 259 (((136 + (5 * (M.1 259 (112 : Int32).toNatClampNeg))) + 2).toNatClampNeg) v7)) fun v9 M8 =>
            ic ((136 + (5 * (M.1 259 (112 : Int32).toNatClampNeg))) + 3 < 0 ∨ 220 ≤ ((136 + (5 * (M.1 259 (112 : Int32).toNatClampNeg))) + 3).toNatClampNeg) none (
              cVd (call 214 [vR 12 0 253, vI 8] (sI M8 259 (((136 + (5 * (M.1 259 (112 : Int32).toNatClampNeg))) + 3).toNatClampNeg) v9)) fun M10 =>
              cIn (call 220 [vR 12 0 253, vI 1, vI 20] M10) fun v12 M11 =>
              ic ((136 + (5 * (M.1 259 (112 : Int32).toNatClampNeg))) + 4 < 0 ∨ 220 ≤ ((136 + (5 * (M.1 259 (112 : Int32).toNatClampNeg))) + 4).toNatClampNeg) none (
                ic ((112 : Int32) < 0 ∨ 220 ≤ (112 : Int32).toNatClampNeg) none (
                  ic ((112 : Int32) < 0 ∨ 220 ≤ (112 : Int32).toNatClampNeg) none (
                    some (none, sI (sI M11 259 (((136 + (5 * (M.1 259 (112 : Int32).toNatClampNeg))) + 4).toNatClampNeg) v12) 259 ((112 : Int32).toNatClampNeg) (((sI M11 259 (((136 + (5 * (M.1 259 (112 : Int32).toNatClampNeg))) + 4).toNatClampNeg) v12).1 259 (112 : Int32).toNatClampNeg) + 1))))))))))) := rfl
set_option maxRecDepth 100000 in
theorem e219 (d : Nat)  (M : Mem) : evD (d + 1) 219 [vR 12 0 253] M =
  ic (M.1 259 112 = 6) (
    cVd (evD d 208 [vR 12 0 253, vI 5] M) fun M13 =>
    some (none, M13)) (
    cVd (evD d 209 [vR 12 0 253, vI (40 + (M.1 259 112))] M) fun M1 =>
    cIn (evD d 218 [vR 12 0 253, vI 21, vI 4] M1) fun v3 M2 =>
    ic (136 + (5 * (M.1 259 112)) < 0 ∨ 220 ≤ (136 + (5 * (M.1 259 112))).toNatClampNeg) none (
      cIn (evD d 213 [vR 12 0 253, vI 5, vI 1, vI 20] (sI M2 259 ((136 + (5 * (M.1 259 112))).toNatClampNeg) v3)) fun v5 M4 =>
      ic ((136 + (5 * (M.1 259 112))) + 1 < 0 ∨ 220 ≤ ((136 + (5 * (M.1 259 112))) + 1).toNatClampNeg) none (
        cIn (evD d 213 [vR 12 0 253, vI 6, vI 1, vI 99] (sI M4 259 (((136 + (5 * (M.1 259 112))) + 1).toNatClampNeg) v5)) fun v7 M6 =>
        ic ((136 + (5 * (M.1 259 112))) + 2 < 0 ∨ 220 ≤ ((136 + (5 * (M.1 259 112))) + 2).toNatClampNeg) none (
          cIn (evD d 213 [vR 12 0 253, vI 7, vI 0, vI 99] (sI M6 259 (((136 + (5 * (M.1 259 112))) + 2).toNatClampNeg) v7)) fun v9 M8 =>
          ic ((136 + (5 * (M.1 259 112))) + 3 < 0 ∨ 220 ≤ ((136 + (5 * (M.1 259 112))) + 3).toNatClampNeg) none (
            cVd (evD d 214 [vR 12 0 253, vI 8] (sI M8 259 (((136 + (5 * (M.1 259 112))) + 3).toNatClampNeg) v9)) fun M10 =>
            cIn (evD d 220 [vR 12 0 253, vI 1, vI 20] M10) fun v12 M11 =>
            ic ((136 + (5 * (M.1 259 112))) + 4 < 0 ∨ 220 ≤ ((136 + (5 * (M.1 259 112))) + 4).toNatClampNeg) none (
              some (none, sI (sI M11 259 (((136 + (5 * (M.1 259 112))) + 4).toNatClampNeg) v12) 259 112 (((sI M11 259 (((136 + (5 * (M.1 259 112))) + 4).toNatClampNeg) v12).1 259 112) + 1)))))))) := ((evD_step (d := d) (x := 219) (as := [vR 12 0 253]) (M := M) (md := (⟨"IceParliamentModel", "readAct", "()V"⟩, prog_14_method_32_code, 3, (Option.none : Option Jvm.ClassFile.FieldType), 12, 12)) rfl rfl).trans (j219 (evD d) (evp0 (lkE (codT 219)) (hdT 219) (evD d))  M)).trans (by (try simp only [ic_f (show ¬ ((112 : Int32) < 0 ∨ 220 ≤ (112 : Int32).toNatClampNeg) by decide)]); (try simp only [show (112 : Int32).toNatClampNeg = 112 from rfl]))
-- IceParliamentModel takeTold(ZI)I
set_option maxRecDepth 100000 in
theorem j220 (call : Nat → List AV → Mem → Res) (back : Nat → Lv → Mem → Res) (p0 : Int32) (p1 : Int32) (M : Mem) : evj (lkE cd_220) [] call back 4000 0 [some (vR 12 0 253), some (vI p0), some (vI p1), none] [] M =
  cIn (call 221 [vR 12 0 253, vI p0, vI p1] M) fun v2 M1 =>
  ic (0 < M1.1 253 8) (
    some (some (vI v2), sI M1 253 7 ((M1.1 253 7) + 0))) (
    some (some (vI v2), sI M1 253 7 ((M1.1 253 7) + 1))) := rfl
set_option maxRecDepth 100000 in
theorem e220 (d : Nat) (p0 : Int32) (p1 : Int32) (M : Mem) : evD (d + 1) 220 [vR 12 0 253, vI p0, vI p1] M =
  cIn (evD d 221 [vR 12 0 253, vI p0, vI p1] M) fun v2 M1 =>
  ic (0 < M1.1 253 8) (
    some (some (vI v2), sI M1 253 7 ((M1.1 253 7) + 0))) (
    some (some (vI v2), sI M1 253 7 ((M1.1 253 7) + 1))) := ((evD_step (d := d) (x := 220) (as := [vR 12 0 253, vI p0, vI p1]) (M := M) (md := (⟨"IceParliamentModel", "takeTold", "(ZI)I"⟩, prog_14_method_26_code, 4, (Option.some Jvm.ClassFile.FieldType.int), 12, 12)) rfl rfl).trans (j220 (evD d) (evp0 (lkE (codT 220)) (hdT 220) (evD d)) p0 p1 M))
-- IceParliamentModel toldHere(ZI)I
set_option maxRecDepth 100000 in
theorem j221 (call : Nat → List AV → Mem → Res) (back : Nat → Lv → Mem → Res) (p0 : Int32) (p1 : Int32) (M : Mem) : evj (lkE cd_221) [19, 38, 59] call back 4000 0 [some (vR 12 0 253), some (vI p0), some (vI p1), none] [] M =
  ic (M.1 253 8 = 0) (
    cIn (call 210 [vR 12 0 253] M) fun v2 M1 =>
    ic (v2 = 0) (
      cVd (call 208 [vR 12 0 253, vI 1] M1) fun M3 =>
      back 19 [some (vR 12 0 253), some (vI p0), some (vI p1), none] M3) (
      back 19 [some (vR 12 0 253), some (vI p0), some (vI p1), none] M1)) (
    back 19 [some (vR 12 0 253), some (vI p0), some (vI p1), none] M) := rfl
set_option maxRecDepth 100000 in
theorem e221 (d : Nat) (p0 : Int32) (p1 : Int32) (M : Mem) : evD (d + 1) 221 [vR 12 0 253, vI p0, vI p1] M =
  ic (M.1 253 8 = 0) (
    cIn (evD d 210 [vR 12 0 253] M) fun v2 M1 =>
    ic (v2 = 0) (
      cVd (evD d 208 [vR 12 0 253, vI 1] M1) fun M3 =>
      lp0 d 221 19 [some (vR 12 0 253), some (vI p0), some (vI p1), none] M3) (
      lp0 d 221 19 [some (vR 12 0 253), some (vI p0), some (vI p1), none] M1)) (
    lp0 d 221 19 [some (vR 12 0 253), some (vI p0), some (vI p1), none] M) := ((evD_step (d := d) (x := 221) (as := [vR 12 0 253, vI p0, vI p1]) (M := M) (md := (⟨"IceParliamentModel", "toldHere", "(ZI)I"⟩, prog_14_method_25_code, 4, (Option.some Jvm.ClassFile.FieldType.int), 12, 12)) rfl rfl).trans (j221 (evD d) (evp0 (lkE (codT 221)) (hdT 221) (evD d)) p0 p1 M))
set_option maxRecDepth 100000 in
theorem g221_19 (call : Nat → List AV → Mem → Res) (back : Nat → Lv → Mem → Res) (l1 : Int32) (l2 : Int32) (o3 : Option AV) (M : Mem) : stepK call back (evj (lkE cd_221) [19, 38, 59] call back 4000) (.aload_n 0, 1, 0, 0, 0, 0, 0) 19 [some (vR 12 0 253), some (vI l1), some (vI l2), o3] [] M =
  ic (0 < M.1 253 8) (
    back 38 [some (vR 12 0 253), some (vI l1), some (vI l2), some (vI (-1))] M) (
    cIn (call 212 [vR 12 0 253, vI l1] M) fun v2 M1 =>
    back 38 [some (vR 12 0 253), some (vI l1), some (vI l2), some (vI (v2 - l2))] M1) := rfl
set_option maxRecDepth 100000 in
theorem e221_19 (d F : Nat) (l1 : Int32) (l2 : Int32) (o3 : Option AV) (M : Mem) : lp d 221 (F + 1) 19 [some (vR 12 0 253), some (vI l1), some (vI l2), o3] M =
  ic (0 < M.1 253 8) (
    lp d 221 F 38 [some (vR 12 0 253), some (vI l1), some (vI l2), some (vI (-1))] M) (
    cIn (evD d 212 [vR 12 0 253, vI l1] M) fun v2 M1 =>
    lp d 221 F 38 [some (vR 12 0 253), some (vI l1), some (vI l2), some (vI (v2 - l2))] M1) := ((evp_step (code := lkE (codT 221)) (hd := hdT 221) (call := evD d) (F := F) (pc := 19) (lv := [some (vR 12 0 253), some (vI l1), some (vI l2), o3]) (M := M) (e := (.aload_n 0, 1, 0, 0, 0, 0, 0)) rfl).trans (g221_19 (evD d) (evp (lkE (codT 221)) (hdT 221) (evD d) F) l1 l2 o3 M))
set_option maxRecDepth 100000 in
theorem g221_38 (call : Nat → List AV → Mem → Res) (back : Nat → Lv → Mem → Res) (o1 : Option AV) (o2 : Option AV) (l3 : Int32) (M : Mem) : stepK call back (evj (lkE cd_221) [19, 38, 59] call back 4000) (.aload_n 0, 1, 0, 0, 0, 0, 0) 38 [some (vR 12 0 253), o1, o2, some (vI l3)] [] M =
  ic (M.1 253 8 = 0) (
    cIn (call 222 [vI l3, vI 0, vI 5] M) fun v2 M1 =>
    ic (v2 = 0) (
      cVd (call 208 [vR 12 0 253, vI 2] M1) fun M3 =>
      back 59 [some (vR 12 0 253), o1, o2, some (vI l3)] M3) (
      back 59 [some (vR 12 0 253), o1, o2, some (vI l3)] M1)) (
    back 59 [some (vR 12 0 253), o1, o2, some (vI l3)] M) := rfl
set_option maxRecDepth 100000 in
theorem e221_38 (d F : Nat) (o1 : Option AV) (o2 : Option AV) (l3 : Int32) (M : Mem) : lp d 221 (F + 1) 38 [some (vR 12 0 253), o1, o2, some (vI l3)] M =
  ic (M.1 253 8 = 0) (
    cIn (evD d 222 [vI l3, vI 0, vI 5] M) fun v2 M1 =>
    ic (v2 = 0) (
      cVd (evD d 208 [vR 12 0 253, vI 2] M1) fun M3 =>
      lp d 221 F 59 [some (vR 12 0 253), o1, o2, some (vI l3)] M3) (
      lp d 221 F 59 [some (vR 12 0 253), o1, o2, some (vI l3)] M1)) (
    lp d 221 F 59 [some (vR 12 0 253), o1, o2, some (vI l3)] M) := ((evp_step (code := lkE (codT 221)) (hd := hdT 221) (call := evD d) (F := F) (pc := 38) (lv := [some (vR 12 0 253), o1, o2, some (vI l3)]) (M := M) (e := (.aload_n 0, 1, 0, 0, 0, 0, 0)) rfl).trans (g221_38 (evD d) (evp (lkE (codT 221)) (hdT 221) (evD d) F) o1 o2 l3 M))
set_option maxRecDepth 100000 in
theorem g221_59 (call : Nat → List AV → Mem → Res) (back : Nat → Lv → Mem → Res) (o1 : Option AV) (o2 : Option AV) (l3 : Int32) (M : Mem) : stepK call back (evj (lkE cd_221) [19, 38, 59] call back 4000) (.aload_n 0, 1, 0, 0, 0, 0, 0) 59 [some (vR 12 0 253), o1, o2, some (vI l3)] [] M =
  ic (0 < M.1 253 8) (
    some (some (vI 0), M)) (
    some (some (vI l3), M)) := rfl
set_option maxRecDepth 100000 in
theorem e221_59 (d F : Nat) (o1 : Option AV) (o2 : Option AV) (l3 : Int32) (M : Mem) : lp d 221 (F + 1) 59 [some (vR 12 0 253), o1, o2, some (vI l3)] M =
  ic (0 < M.1 253 8) (
    some (some (vI 0), M)) (
    some (some (vI l3), M)) := ((evp_step (code := lkE (codT 221)) (hd := hdT 221) (call := evD d) (F := F) (pc := 59) (lv := [some (vR 12 0 253), o1, o2, some (vI l3)]) (M := M) (e := (.aload_n 0, 1, 0, 0, 0, 0, 0)) rfl).trans (g221_59 (evD d) (evp (lkE (codT 221)) (hdT 221) (evD d) F) o1 o2 l3 M))
-- IceParliamentModel within(III)Z
set_option maxRecDepth 100000 in
theorem j222 (call : Nat → List AV → Mem → Res) (back : Nat → Lv → Mem → Res) (p0 : Int32) (p1 : Int32) (p2 : Int32) (M : Mem) : evj (lkE cd_222) [] call back 4000 0 [some (vI p0), some (vI p1), some (vI p2)] [] M =
  ic (p0 < p1) (
    ic ((0 : Int32) &&& 1 = 0) (
      some (some (vI 0), M)) none) (
    ic (p2 < p0) (
      ic ((0 : Int32) &&& 1 = 0) (
        some (some (vI 0), M)) none) (
      ic ((1 : Int32) &&& 1 = 1) (
        some (some (vI 1), M)) none)) := rfl
set_option maxRecDepth 100000 in
theorem e222 (d : Nat) (p0 : Int32) (p1 : Int32) (p2 : Int32) (M : Mem) : evD (d + 1) 222 [vI p0, vI p1, vI p2] M =
  ic (p0 < p1) (
    some (some (vI 0), M)) (
    ic (p2 < p0) (
      some (some (vI 0), M)) (
      some (some (vI 1), M))) := ((evD_step (d := d) (x := 222) (as := [vI p0, vI p1, vI p2]) (M := M) (md := (⟨"IceParliamentModel", "within", "(III)Z"⟩, prog_14_method_17_code, 3, (Option.some Jvm.ClassFile.FieldType.boolean), 12, 99)) rfl rfl).trans (j222 (evD d) (evp0 (lkE (codT 222)) (hdT 222) (evD d)) p0 p1 p2 M)).trans (by (try simp only [ic_t (show (0 : Int32) &&& 1 = 0 by decide), ic_t (show (1 : Int32) &&& 1 = 1 by decide)]))
-- IceParliamentModel readClash()V
set_option maxRecDepth 100000 in
theorem j223 (call : Nat → List AV → Mem → Res) (back : Nat → Lv → Mem → Res)  (M : Mem) : evj (lkE cd_223) [57, 62] call back 4000 0 [some (vR 12 0 253), none, none] [] M =
  cIn (call 220 [vR 12 0 253, vI 1, vI 40] (sI M 253 7 ((M.1 253 7) + 1))) fun v2 M1 =>
  cIn (call 221 [vR 12 0 253, vI 1, vI 40] M1) fun v4 M3 =>
  ic (M3.1 253 8 = 0) (
    ic (v2 = v4) (
      back 57 [some (vR 12 0 253), some (vI v2), some (vI v4)] M3) (
      ic ((166 + (6 * v2)) + v4 < 0 ∨ 220 ≤ ((166 + (6 * v2)) + v4).toNatClampNeg) none (
        ic (M3.1 259 ((166 + (6 * v2)) + v4).toNatClampNeg = 1) (
          back 57 [some (vR 12 0 253), some (vI v2), some (vI v4)] M3) (
          back 62 [some (vR 12 0 253), some (vI v2), some (vI v4)] M3)))) (
    back 62 [some (vR 12 0 253), some (vI v2), some (vI v4)] M3) := rfl
set_option maxRecDepth 100000 in
theorem e223 (d : Nat)  (M : Mem) : evD (d + 1) 223 [vR 12 0 253] M =
  cIn (evD d 220 [vR 12 0 253, vI 1, vI 40] (sI M 253 7 ((M.1 253 7) + 1))) fun v2 M1 =>
  cIn (evD d 221 [vR 12 0 253, vI 1, vI 40] M1) fun v4 M3 =>
  ic (M3.1 253 8 = 0) (
    ic (v2 = v4) (
      lp0 d 223 57 [some (vR 12 0 253), some (vI v2), some (vI v4)] M3) (
      ic ((166 + (6 * v2)) + v4 < 0 ∨ 220 ≤ ((166 + (6 * v2)) + v4).toNatClampNeg) none (
        ic (M3.1 259 ((166 + (6 * v2)) + v4).toNatClampNeg = 1) (
          lp0 d 223 57 [some (vR 12 0 253), some (vI v2), some (vI v4)] M3) (
          lp0 d 223 62 [some (vR 12 0 253), some (vI v2), some (vI v4)] M3)))) (
    lp0 d 223 62 [some (vR 12 0 253), some (vI v2), some (vI v4)] M3) := ((evD_step (d := d) (x := 223) (as := [vR 12 0 253]) (M := M) (md := (⟨"IceParliamentModel", "readClash", "()V"⟩, prog_14_method_33_code, 3, (Option.none : Option Jvm.ClassFile.FieldType), 12, 12)) rfl rfl).trans (j223 (evD d) (evp0 (lkE (codT 223)) (hdT 223) (evD d))  M))
set_option maxRecDepth 100000 in
theorem g223_62 (call : Nat → List AV → Mem → Res) (back : Nat → Lv → Mem → Res) (l1 : Int32) (l2 : Int32) (M : Mem) : stepK call back (evj (lkE cd_223) [57, 62] call back 4000) (.aload_n 0, 1, 0, 0, 0, 0, 0) 62 [some (vR 12 0 253), some (vI l1), some (vI l2)] [] M =
  ic (M.1 253 8 = 0) (
    ic ((166 + (6 * l1)) + l2 < 0 ∨ 220 ≤ ((166 + (6 * l1)) + l2).toNatClampNeg) none (
      ic ((166 + (6 * l2)) + l1 < 0 ∨ 220 ≤ ((166 + (6 * l2)) + l1).toNatClampNeg) none (
        ic ((113 : Int32) < 0 ∨ 220 ≤ (113 : Int32).toNatClampNeg) none (
          ic ((113 : Int32) < 0 ∨ 220 ≤ (113 : Int32).toNatClampNeg) none (
            some (none, sI (sI (sI (sI M 253 7 ((M.1 253 7) + 1)) 259 (((166 + (6 * l1)) + l2).toNatClampNeg) 1) 259 (((166 + (6 * l2)) + l1).toNatClampNeg) 1) 259 ((113 : Int32).toNatClampNeg) (((sI (sI (sI M 253 7 ((M.1 253 7) + 1)) 259 (((166 + (6 * l1)) + l2).toNatClampNeg) 1) 259 (((166 + (6 * l2)) + l1).toNatClampNeg) 1).1 259 (113 : Int32).toNatClampNeg) + 1))))))) (
    some (none, M)) := rfl
set_option maxRecDepth 100000 in
theorem e223_62 (d F : Nat) (l1 : Int32) (l2 : Int32) (M : Mem) : lp d 223 (F + 1) 62 [some (vR 12 0 253), some (vI l1), some (vI l2)] M =
  ic (M.1 253 8 = 0) (
    ic ((166 + (6 * l1)) + l2 < 0 ∨ 220 ≤ ((166 + (6 * l1)) + l2).toNatClampNeg) none (
      ic ((166 + (6 * l2)) + l1 < 0 ∨ 220 ≤ ((166 + (6 * l2)) + l1).toNatClampNeg) none (
        some (none, sI (sI (sI (sI M 253 7 ((M.1 253 7) + 1)) 259 (((166 + (6 * l1)) + l2).toNatClampNeg) 1) 259 (((166 + (6 * l2)) + l1).toNatClampNeg) 1) 259 113 (((sI (sI (sI M 253 7 ((M.1 253 7) + 1)) 259 (((166 + (6 * l1)) + l2).toNatClampNeg) 1) 259 (((166 + (6 * l2)) + l1).toNatClampNeg) 1).1 259 113) + 1))))) (
    some (none, M)) := ((evp_step (code := lkE (codT 223)) (hd := hdT 223) (call := evD d) (F := F) (pc := 62) (lv := [some (vR 12 0 253), some (vI l1), some (vI l2)]) (M := M) (e := (.aload_n 0, 1, 0, 0, 0, 0, 0)) rfl).trans (g223_62 (evD d) (evp (lkE (codT 223)) (hdT 223) (evD d) F) l1 l2 M)).trans (by (try simp only [ic_f (show ¬ ((113 : Int32) < 0 ∨ 220 ≤ (113 : Int32).toNatClampNeg) by decide)]); (try simp only [show (113 : Int32).toNatClampNeg = 113 from rfl]))
set_option maxRecDepth 100000 in
theorem g223_57 (call : Nat → List AV → Mem → Res) (back : Nat → Lv → Mem → Res) (l1 : Int32) (l2 : Int32) (M : Mem) : stepK call back (evj (lkE cd_223) [57, 62] call back 4000) (.aload_n 0, 1, 0, 0, 0, 0, 0) 57 [some (vR 12 0 253), some (vI l1), some (vI l2)] [] M =
  cVd (call 208 [vR 12 0 253, vI 3] M) fun M1 =>
  back 62 [some (vR 12 0 253), some (vI l1), some (vI l2)] M1 := rfl
set_option maxRecDepth 100000 in
theorem e223_57 (d F : Nat) (l1 : Int32) (l2 : Int32) (M : Mem) : lp d 223 (F + 1) 57 [some (vR 12 0 253), some (vI l1), some (vI l2)] M =
  cVd (evD d 208 [vR 12 0 253, vI 3] M) fun M1 =>
  lp d 223 F 62 [some (vR 12 0 253), some (vI l1), some (vI l2)] M1 := ((evp_step (code := lkE (codT 223)) (hd := hdT 223) (call := evD d) (F := F) (pc := 57) (lv := [some (vR 12 0 253), some (vI l1), some (vI l2)]) (M := M) (e := (.aload_n 0, 1, 0, 0, 0, 0, 0)) rfl).trans (g223_57 (evD d) (evp (lkE (codT 223)) (hdT 223) (evD d) F) l1 l2 M))
-- IceParliamentModel readOnce()V
set_option maxRecDepth 100000 in
theorem j224 (call : Nat → List AV → Mem → Res) (back : Nat → Lv → Mem → Res)  (M : Mem) : evj (lkE cd_224) [37, 131] call back 4000 0 [some (vR 12 0 253), none] [] M =
  cIn (call 211 [vR 12 0 253, vI 10, vI 4] M) fun v2 M1 =>
  ic (v2 < 0) (
    cVd (call 208 [vR 12 0 253, vI 1] M1) fun M4 =>
    back 37 [some (vR 12 0 253), some (vI v2)] M4) (
    ic (((M1.1 253 20) >>> (v2 &&& 31)) &&& 1 = 1) (
      cVd (call 208 [vR 12 0 253, vI 3] M1) fun M3 =>
      back 37 [some (vR 12 0 253), some (vI v2)] M3) (
      back 37 [some (vR 12 0 253), some (vI v2)] M1)) := rfl
set_option maxRecDepth 100000 in
theorem e224 (d : Nat)  (M : Mem) : evD (d + 1) 224 [vR 12 0 253] M =
  cIn (evD d 211 [vR 12 0 253, vI 10, vI 4] M) fun v2 M1 =>
  ic (v2 < 0) (
    cVd (evD d 208 [vR 12 0 253, vI 1] M1) fun M4 =>
    lp0 d 224 37 [some (vR 12 0 253), some (vI v2)] M4) (
    ic (((M1.1 253 20) >>> (v2 &&& 31)) &&& 1 = 1) (
      cVd (evD d 208 [vR 12 0 253, vI 3] M1) fun M3 =>
      lp0 d 224 37 [some (vR 12 0 253), some (vI v2)] M3) (
      lp0 d 224 37 [some (vR 12 0 253), some (vI v2)] M1)) := ((evD_step (d := d) (x := 224) (as := [vR 12 0 253]) (M := M) (md := (⟨"IceParliamentModel", "readOnce", "()V"⟩, prog_14_method_34_code, 2, (Option.none : Option Jvm.ClassFile.FieldType), 12, 12)) rfl rfl).trans (j224 (evD d) (evp0 (lkE (codT 224)) (hdT 224) (evD d))  M))
set_option maxRecDepth 100000 in
theorem g224_37 (call : Nat → List AV → Mem → Res) (back : Nat → Lv → Mem → Res) (l1 : Int32) (M : Mem) : stepK call back (evj (lkE cd_224) [37, 131] call back 4000) (.aload_n 0, 1, 0, 0, 0, 0, 0) 37 [some (vR 12 0 253), some (vI l1)] [] M =
  ic (0 < M.1 253 8) (
    some (none, M)) (
    ic (l1 = 0) (
      cVd (call 225 [vR 12 0 253] (sI (sI M 253 20 ((M.1 253 20) ||| (1 <<< (l1 &&& 31)))) 253 7 (((sI M 253 20 ((M.1 253 20) ||| (1 <<< (l1 &&& 31)))).1 253 7) + 1))) fun M3 =>
      some (none, M3)) (
      ic (l1 = 1) (
        cIn (call 216 [vR 12 0 253, vI 0, vI 10] (sI (sI M 253 20 ((M.1 253 20) ||| (1 <<< (l1 &&& 31)))) 253 7 (((sI M 253 20 ((M.1 253 20) ||| (1 <<< (l1 &&& 31)))).1 253 7) + 1))) fun v2 M1 =>
        ic ((115 : Int32) < 0 ∨ 220 ≤ (115 : Int32).toNatClampNeg) none (
          some (none, sI M1 259 ((115 : Int32).toNatClampNeg) v2))) (
        ic ((116 + l1) - 2 < 0 ∨ 220 ≤ ((116 + l1) - 2).toNatClampNeg) none (
          ic (l1 = 2) (
            back 131 [some (vR 12 0 253), some (vI l1)] (sI (sI (sI (sI M 253 20 ((M.1 253 20) ||| (1 <<< (l1 &&& 31)))) 253 7 (((sI M 253 20 ((M.1 253 20) ||| (1 <<< (l1 &&& 31)))).1 253 7) + 1)) 259 (((116 + l1) - 2).toNatClampNeg) ((sI (sI M 253 20 ((M.1 253 20) ||| (1 <<< (l1 &&& 31)))) 253 7 (((sI M 253 20 ((M.1 253 20) ||| (1 <<< (l1 &&& 31)))).1 253 7) + 1)).1 253 13)) 253 21 7)) (
            back 131 [some (vR 12 0 253), some (vI l1)] (sI (sI (sI (sI M 253 20 ((M.1 253 20) ||| (1 <<< (l1 &&& 31)))) 253 7 (((sI M 253 20 ((M.1 253 20) ||| (1 <<< (l1 &&& 31)))).1 253 7) + 1)) 259 (((116 + l1) - 2).toNatClampNeg) ((sI (sI M 253 20 ((M.1 253 20) ||| (1 <<< (l1 &&& 31)))) 253 7 (((sI M 253 20 ((M.1 253 20) ||| (1 <<< (l1 &&& 31)))).1 253 7) + 1)).1 253 13)) 253 21 28)))))) := rfl
set_option maxRecDepth 100000 in
theorem e224_37 (d F : Nat) (l1 : Int32) (M : Mem) : lp d 224 (F + 1) 37 [some (vR 12 0 253), some (vI l1)] M =
  ic (0 < M.1 253 8) (
    some (none, M)) (
    ic (l1 = 0) (
      cVd (evD d 225 [vR 12 0 253] (sI (sI M 253 20 ((M.1 253 20) ||| (1 <<< (l1 &&& 31)))) 253 7 (((sI M 253 20 ((M.1 253 20) ||| (1 <<< (l1 &&& 31)))).1 253 7) + 1))) fun M3 =>
      some (none, M3)) (
      ic (l1 = 1) (
        cIn (evD d 216 [vR 12 0 253, vI 0, vI 10] (sI (sI M 253 20 ((M.1 253 20) ||| (1 <<< (l1 &&& 31)))) 253 7 (((sI M 253 20 ((M.1 253 20) ||| (1 <<< (l1 &&& 31)))).1 253 7) + 1))) fun v2 M1 =>
        some (none, sI M1 259 115 v2)) (
        ic ((116 + l1) - 2 < 0 ∨ 220 ≤ ((116 + l1) - 2).toNatClampNeg) none (
          ic (l1 = 2) (
            lp d 224 F 131 [some (vR 12 0 253), some (vI l1)] (sI (sI (sI (sI M 253 20 ((M.1 253 20) ||| (1 <<< (l1 &&& 31)))) 253 7 (((sI M 253 20 ((M.1 253 20) ||| (1 <<< (l1 &&& 31)))).1 253 7) + 1)) 259 (((116 + l1) - 2).toNatClampNeg) ((sI (sI M 253 20 ((M.1 253 20) ||| (1 <<< (l1 &&& 31)))) 253 7 (((sI M 253 20 ((M.1 253 20) ||| (1 <<< (l1 &&& 31)))).1 253 7) + 1)).1 253 13)) 253 21 7)) (
            lp d 224 F 131 [some (vR 12 0 253), some (vI l1)] (sI (sI (sI (sI M 253 20 ((M.1 253 20) ||| (1 <<< (l1 &&& 31)))) 253 7 (((sI M 253 20 ((M.1 253 20) ||| (1 <<< (l1 &&& 31)))).1 253 7) + 1)) 259 (((116 + l1) - 2).toNatClampNeg) ((sI (sI M 253 20 ((M.1 253 20) ||| (1 <<< (l1 &&& 31)))) 253 7 (((sI M 253 20 ((M.1 253 20) ||| (1 <<< (l1 &&& 31)))).1 253 7) + 1)).1 253 13)) 253 21 28)))))) := ((evp_step (code := lkE (codT 224)) (hd := hdT 224) (call := evD d) (F := F) (pc := 37) (lv := [some (vR 12 0 253), some (vI l1)]) (M := M) (e := (.aload_n 0, 1, 0, 0, 0, 0, 0)) rfl).trans (g224_37 (evD d) (evp (lkE (codT 224)) (hdT 224) (evD d) F) l1 M)).trans (by (try simp only [ic_f (show ¬ ((115 : Int32) < 0 ∨ 220 ≤ (115 : Int32).toNatClampNeg) by decide)]); (try simp only [show (115 : Int32).toNatClampNeg = 115 from rfl]))
set_option maxRecDepth 100000 in
theorem g224_131 (call : Nat → List AV → Mem → Res) (back : Nat → Lv → Mem → Res) (o1 : Option AV) (M : Mem) : stepK call back (evj (lkE cd_224) [37, 131] call back 4000) (.aload_n 0, 1, 0, 0, 0, 0, 0) 131 [some (vR 12 0 253), o1] [] M =
  cVd (call 226 [vR 12 0 253, vI 0] M) fun M1 =>
  cVd (call 232 [vR 12 0 253, vI 0, vI 0] M1) fun M2 =>
  some (none, M2) := rfl
set_option maxRecDepth 100000 in
theorem e224_131 (d F : Nat) (o1 : Option AV) (M : Mem) : lp d 224 (F + 1) 131 [some (vR 12 0 253), o1] M =
  cVd (evD d 226 [vR 12 0 253, vI 0] M) fun M1 =>
  cVd (evD d 232 [vR 12 0 253, vI 0, vI 0] M1) fun M2 =>
  some (none, M2) := ((evp_step (code := lkE (codT 224)) (hd := hdT 224) (call := evD d) (F := F) (pc := 131) (lv := [some (vR 12 0 253), o1]) (M := M) (e := (.aload_n 0, 1, 0, 0, 0, 0, 0)) rfl).trans (g224_131 (evD d) (evp (lkE (codT 224)) (hdT 224) (evD d) F) o1 M))
-- IceParliamentModel readNights()V
set_option maxRecDepth 100000 in
theorem j225 (call : Nat → List AV → Mem → Res) (back : Nat → Lv → Mem → Res)  (M : Mem) : evj (lkE cd_225) [2, 26, 65, 86, 89] call back 4000 0 [some (vR 12 0 253), none, none] [] M =
  back 2 [some (vR 12 0 253), some (vI 0), none] M := rfl
set_option maxRecDepth 100000 in
theorem e225 (d : Nat)  (M : Mem) : evD (d + 1) 225 [vR 12 0 253] M =
  lp0 d 225 2 [some (vR 12 0 253), some (vI 0), none] M := ((evD_step (d := d) (x := 225) (as := [vR 12 0 253]) (M := M) (md := (⟨"IceParliamentModel", "readNights", "()V"⟩, prog_14_method_35_code, 3, (Option.none : Option Jvm.ClassFile.FieldType), 12, 12)) rfl rfl).trans (j225 (evD d) (evp0 (lkE (codT 225)) (hdT 225) (evD d))  M))
set_option maxRecDepth 100000 in
theorem g225_2 (call : Nat → List AV → Mem → Res) (back : Nat → Lv → Mem → Res) (l1 : Int32) (o2 : Option AV) (M : Mem) : stepK call back (evj (lkE cd_225) [2, 26, 65, 86, 89] call back 4000) (.aload_n 0, 1, 0, 0, 0, 0, 0) 2 [some (vR 12 0 253), some (vI l1), o2] [] M =
  ic (M.1 253 8 = 0) (
    ic (l1 = 0) (
      back 26 [some (vR 12 0 253), some (vI l1), o2] M) (
      ic (M.1 253 7 < 0 ∨ 1002 ≤ (M.1 253 7).toNatClampNeg) none (
        ic (M.1 255 (M.1 253 7).toNatClampNeg = 2) (
          back 26 [some (vR 12 0 253), some (vI l1), o2] M) (
          back 89 [some (vR 12 0 253), some (vI l1), o2] M)))) (
    back 89 [some (vR 12 0 253), some (vI l1), o2] M) := rfl
set_option maxRecDepth 100000 in
theorem e225_2 (d F : Nat) (l1 : Int32) (o2 : Option AV) (M : Mem) : lp d 225 (F + 1) 2 [some (vR 12 0 253), some (vI l1), o2] M =
  ic (M.1 253 8 = 0) (
    ic (l1 = 0) (
      lp d 225 F 26 [some (vR 12 0 253), some (vI l1), o2] M) (
      ic (M.1 253 7 < 0 ∨ 1002 ≤ (M.1 253 7).toNatClampNeg) none (
        ic (M.1 255 (M.1 253 7).toNatClampNeg = 2) (
          lp d 225 F 26 [some (vR 12 0 253), some (vI l1), o2] M) (
          lp d 225 F 89 [some (vR 12 0 253), some (vI l1), o2] M)))) (
    lp d 225 F 89 [some (vR 12 0 253), some (vI l1), o2] M) := ((evp_step (code := lkE (codT 225)) (hd := hdT 225) (call := evD d) (F := F) (pc := 2) (lv := [some (vR 12 0 253), some (vI l1), o2]) (M := M) (e := (.aload_n 0, 1, 0, 0, 0, 0, 0)) rfl).trans (g225_2 (evD d) (evp (lkE (codT 225)) (hdT 225) (evD d) F) l1 o2 M))
set_option maxRecDepth 100000 in
theorem g225_89 (call : Nat → List AV → Mem → Res) (back : Nat → Lv → Mem → Res) (l1 : Int32) (o2 : Option AV) (M : Mem) : stepK call back (evj (lkE cd_225) [2, 26, 65, 86, 89] call back 4000) (.aload_n 0, 1, 0, 0, 0, 0, 0) 89 [some (vR 12 0 253), some (vI l1), o2] [] M =
  ic ((114 : Int32) < 0 ∨ 220 ≤ (114 : Int32).toNatClampNeg) none (
    some (none, sI M 259 ((114 : Int32).toNatClampNeg) l1)) := rfl
set_option maxRecDepth 100000 in
theorem e225_89 (d F : Nat) (l1 : Int32) (o2 : Option AV) (M : Mem) : lp d 225 (F + 1) 89 [some (vR 12 0 253), some (vI l1), o2] M =
  some (none, sI M 259 114 l1) := ((evp_step (code := lkE (codT 225)) (hd := hdT 225) (call := evD d) (F := F) (pc := 89) (lv := [some (vR 12 0 253), some (vI l1), o2]) (M := M) (e := (.aload_n 0, 1, 0, 0, 0, 0, 0)) rfl).trans (g225_89 (evD d) (evp (lkE (codT 225)) (hdT 225) (evD d) F) l1 o2 M)).trans (by (try simp only [ic_f (show ¬ ((114 : Int32) < 0 ∨ 220 ≤ (114 : Int32).toNatClampNeg) by decide)]); (try simp only [show (114 : Int32).toNatClampNeg = 114 from rfl]))
set_option maxRecDepth 100000 in
theorem g225_26 (call : Nat → List AV → Mem → Res) (back : Nat → Lv → Mem → Res) (l1 : Int32) (o2 : Option AV) (M : Mem) : stepK call back (evj (lkE cd_225) [2, 26, 65, 86, 89] call back 4000) (.aload_n 0, 1, 0, 0, 0, 0, 0) 26 [some (vR 12 0 253), some (vI l1), o2] [] M =
  cIn (call 216 [vR 12 0 253, vI 0, vI 9] M) fun v2 M1 =>
  ic (M1.1 253 8 = 0) (
    ic (l1 = 14) (
      cVd (call 208 [vR 12 0 253, vI 5] (sI M1 253 7 ((M1.1 253 7) - 1))) fun M3 =>
      back 86 [some (vR 12 0 253), some (vI l1), some (vI v2)] M3) (
      back 65 [some (vR 12 0 253), some (vI l1), some (vI v2)] M1)) (
    back 65 [some (vR 12 0 253), some (vI l1), some (vI v2)] M1) := rfl
set_option maxRecDepth 100000 in
theorem e225_26 (d F : Nat) (l1 : Int32) (o2 : Option AV) (M : Mem) : lp d 225 (F + 1) 26 [some (vR 12 0 253), some (vI l1), o2] M =
  cIn (evD d 216 [vR 12 0 253, vI 0, vI 9] M) fun v2 M1 =>
  ic (M1.1 253 8 = 0) (
    ic (l1 = 14) (
      cVd (evD d 208 [vR 12 0 253, vI 5] (sI M1 253 7 ((M1.1 253 7) - 1))) fun M3 =>
      lp d 225 F 86 [some (vR 12 0 253), some (vI l1), some (vI v2)] M3) (
      lp d 225 F 65 [some (vR 12 0 253), some (vI l1), some (vI v2)] M1)) (
    lp d 225 F 65 [some (vR 12 0 253), some (vI l1), some (vI v2)] M1) := ((evp_step (code := lkE (codT 225)) (hd := hdT 225) (call := evD d) (F := F) (pc := 26) (lv := [some (vR 12 0 253), some (vI l1), o2]) (M := M) (e := (.aload_n 0, 1, 0, 0, 0, 0, 0)) rfl).trans (g225_26 (evD d) (evp (lkE (codT 225)) (hdT 225) (evD d) F) l1 o2 M))
set_option maxRecDepth 100000 in
theorem g225_65 (call : Nat → List AV → Mem → Res) (back : Nat → Lv → Mem → Res) (l1 : Int32) (l2 : Int32) (M : Mem) : stepK call back (evj (lkE cd_225) [2, 26, 65, 86, 89] call back 4000) (.aload_n 0, 1, 0, 0, 0, 0, 0) 65 [some (vR 12 0 253), some (vI l1), some (vI l2)] [] M =
  ic (M.1 253 8 = 0) (
    ic (202 + l1 < 0 ∨ 220 ≤ (202 + l1).toNatClampNeg) none (
      back 86 [some (vR 12 0 253), some (vI (l1 + 1)), some (vI l2)] (sI M 259 ((202 + l1).toNatClampNeg) l2))) (
    back 86 [some (vR 12 0 253), some (vI l1), some (vI l2)] M) := rfl
set_option maxRecDepth 100000 in
theorem e225_65 (d F : Nat) (l1 : Int32) (l2 : Int32) (M : Mem) : lp d 225 (F + 1) 65 [some (vR 12 0 253), some (vI l1), some (vI l2)] M =
  ic (M.1 253 8 = 0) (
    ic (202 + l1 < 0 ∨ 220 ≤ (202 + l1).toNatClampNeg) none (
      lp d 225 F 86 [some (vR 12 0 253), some (vI (l1 + 1)), some (vI l2)] (sI M 259 ((202 + l1).toNatClampNeg) l2))) (
    lp d 225 F 86 [some (vR 12 0 253), some (vI l1), some (vI l2)] M) := ((evp_step (code := lkE (codT 225)) (hd := hdT 225) (call := evD d) (F := F) (pc := 65) (lv := [some (vR 12 0 253), some (vI l1), some (vI l2)]) (M := M) (e := (.aload_n 0, 1, 0, 0, 0, 0, 0)) rfl).trans (g225_65 (evD d) (evp (lkE (codT 225)) (hdT 225) (evD d) F) l1 l2 M))
set_option maxRecDepth 100000 in
theorem g225_86 (call : Nat → List AV → Mem → Res) (back : Nat → Lv → Mem → Res) (l1 : Int32) (o2 : Option AV) (M : Mem) : stepK call back (evj (lkE cd_225) [2, 26, 65, 86, 89] call back 4000) (.goto (-84), 3, 0, 2, 0, 0, 0) 86 [some (vR 12 0 253), some (vI l1), o2] [] M =
  back 2 [some (vR 12 0 253), some (vI l1), o2] M := rfl
set_option maxRecDepth 100000 in
theorem e225_86 (d F : Nat) (l1 : Int32) (o2 : Option AV) (M : Mem) : lp d 225 (F + 1) 86 [some (vR 12 0 253), some (vI l1), o2] M =
  lp d 225 F 2 [some (vR 12 0 253), some (vI l1), o2] M := ((evp_step (code := lkE (codT 225)) (hd := hdT 225) (call := evD d) (F := F) (pc := 86) (lv := [some (vR 12 0 253), some (vI l1), o2]) (M := M) (e := (.goto (-84), 3, 0, 2, 0, 0, 0)) rfl).trans (g225_86 (evD d) (evp (lkE (codT 225)) (hdT 225) (evD d) F) l1 o2 M))
-- IceParliamentModel all(I)V
set_option maxRecDepth 100000 in
theorem j226 (call : Nat → List AV → Mem → Res) (back : Nat → Lv → Mem → Res) (p0 : Int32) (M : Mem) : evj (lkE cd_226) [5] call back 4000 0 [some (vR 12 0 253), some (vI p0), none] [] M =
  cVd (call 227 [vR 12 0 253, vI p0] M) fun M1 =>
  back 5 [some (vR 12 0 253), some (vI p0), none] M1 := rfl
set_option maxRecDepth 100000 in
theorem e226 (d : Nat) (p0 : Int32) (M : Mem) : evD (d + 1) 226 [vR 12 0 253, vI p0] M =
  cVd (evD d 227 [vR 12 0 253, vI p0] M) fun M1 =>
  lp0 d 226 5 [some (vR 12 0 253), some (vI p0), none] M1 := ((evD_step (d := d) (x := 226) (as := [vR 12 0 253, vI p0]) (M := M) (md := (⟨"IceParliamentModel", "all", "(I)V"⟩, prog_14_method_38_code, 3, (Option.none : Option Jvm.ClassFile.FieldType), 12, 12)) rfl rfl).trans (j226 (evD d) (evp0 (lkE (codT 226)) (hdT 226) (evD d)) p0 M))
set_option maxRecDepth 100000 in
theorem g226_5 (call : Nat → List AV → Mem → Res) (back : Nat → Lv → Mem → Res) (l1 : Int32) (o2 : Option AV) (M : Mem) : stepK call back (evj (lkE cd_226) [5] call back 4000) (.aload_n 0, 1, 0, 0, 0, 0, 0) 5 [some (vR 12 0 253), some (vI l1), o2] [] M =
  cIn (call 206 [vR 12 0 253, vI 26] M) fun v2 M1 =>
  ic (v2 = 0) (
    cIn (call 206 [vR 12 0 253, vI 27] M1) fun v9 M8 =>
    ic (v9 = 0) (
      some (none, M8)) (
      cIn (call 206 [vR 12 0 253, vI 26] M8) fun v11 M10 =>
      cVd (call 227 [vR 12 0 253, vI l1] (sI M10 253 7 ((M10.1 253 7) + 1))) fun M12 =>
      ic (v11 = 0) (
        cVd (call 232 [vR 12 0 253, vI 10, vI 0] M12) fun M13 =>
        back 5 [some (vR 12 0 253), some (vI l1), some (vI v11)] M13) (
        cVd (call 232 [vR 12 0 253, vI 9, vI 0] M12) fun M14 =>
        back 5 [some (vR 12 0 253), some (vI l1), some (vI v11)] M14))) (
    cIn (call 206 [vR 12 0 253, vI 26] M1) fun v4 M3 =>
    cVd (call 227 [vR 12 0 253, vI l1] (sI M3 253 7 ((M3.1 253 7) + 1))) fun M5 =>
    ic (v4 = 0) (
      cVd (call 232 [vR 12 0 253, vI 10, vI 0] M5) fun M6 =>
      back 5 [some (vR 12 0 253), some (vI l1), some (vI v4)] M6) (
      cVd (call 232 [vR 12 0 253, vI 9, vI 0] M5) fun M7 =>
      back 5 [some (vR 12 0 253), some (vI l1), some (vI v4)] M7)) := rfl
set_option maxRecDepth 100000 in
theorem e226_5 (d F : Nat) (l1 : Int32) (o2 : Option AV) (M : Mem) : lp d 226 (F + 1) 5 [some (vR 12 0 253), some (vI l1), o2] M =
  cIn (evD d 206 [vR 12 0 253, vI 26] M) fun v2 M1 =>
  ic (v2 = 0) (
    cIn (evD d 206 [vR 12 0 253, vI 27] M1) fun v9 M8 =>
    ic (v9 = 0) (
      some (none, M8)) (
      cIn (evD d 206 [vR 12 0 253, vI 26] M8) fun v11 M10 =>
      cVd (evD d 227 [vR 12 0 253, vI l1] (sI M10 253 7 ((M10.1 253 7) + 1))) fun M12 =>
      ic (v11 = 0) (
        cVd (evD d 232 [vR 12 0 253, vI 10, vI 0] M12) fun M13 =>
        lp d 226 F 5 [some (vR 12 0 253), some (vI l1), some (vI v11)] M13) (
        cVd (evD d 232 [vR 12 0 253, vI 9, vI 0] M12) fun M14 =>
        lp d 226 F 5 [some (vR 12 0 253), some (vI l1), some (vI v11)] M14))) (
    cIn (evD d 206 [vR 12 0 253, vI 26] M1) fun v4 M3 =>
    cVd (evD d 227 [vR 12 0 253, vI l1] (sI M3 253 7 ((M3.1 253 7) + 1))) fun M5 =>
    ic (v4 = 0) (
      cVd (evD d 232 [vR 12 0 253, vI 10, vI 0] M5) fun M6 =>
      lp d 226 F 5 [some (vR 12 0 253), some (vI l1), some (vI v4)] M6) (
      cVd (evD d 232 [vR 12 0 253, vI 9, vI 0] M5) fun M7 =>
      lp d 226 F 5 [some (vR 12 0 253), some (vI l1), some (vI v4)] M7)) := ((evp_step (code := lkE (codT 226)) (hd := hdT 226) (call := evD d) (F := F) (pc := 5) (lv := [some (vR 12 0 253), some (vI l1), o2]) (M := M) (e := (.aload_n 0, 1, 0, 0, 0, 0, 0)) rfl).trans (g226_5 (evD d) (evp (lkE (codT 226)) (hdT 226) (evD d) F) l1 o2 M))
-- IceParliamentModel test(I)V
set_option maxRecDepth 100000 in
theorem j227 (call : Nat → List AV → Mem → Res) (back : Nat → Lv → Mem → Res) (p0 : Int32) (M : Mem) : evj (lkE cd_227) [] call back 4000 0 [some (vR 12 0 253), some (vI p0), none] [] M =
  cVd (call 228 [vR 12 0 253, vI p0] M) fun M1 =>
  cIn (call 231 [vR 12 0 253, vI 60] M1) fun v3 M2 =>
  cIn (call 233 [vR 12 0 253, vI 60] M2) fun v5 M4 =>
  ic (v5 = 0) (
    cIn (call 233 [vR 12 0 253, vI 61] M4) fun v10 M9 =>
    ic (v10 = 0) (
      some (none, M9)) (
      cVd (call 228 [vR 12 0 253, vI p0] M9) fun M11 =>
      ic (v3 = 0) (
        cVd (call 232 [vR 12 0 253, vI 8, vI 0] M11) fun M12 =>
        some (none, M12)) (
        cVd (call 232 [vR 12 0 253, vI 7, vI 0] M11) fun M13 =>
        some (none, M13)))) (
    cVd (call 228 [vR 12 0 253, vI p0] M4) fun M6 =>
    ic (v3 = 0) (
      cVd (call 232 [vR 12 0 253, vI 8, vI 0] M6) fun M7 =>
      some (none, M7)) (
      cVd (call 232 [vR 12 0 253, vI 7, vI 0] M6) fun M8 =>
      some (none, M8))) := rfl
set_option maxRecDepth 100000 in
theorem e227 (d : Nat) (p0 : Int32) (M : Mem) : evD (d + 1) 227 [vR 12 0 253, vI p0] M =
  cVd (evD d 228 [vR 12 0 253, vI p0] M) fun M1 =>
  cIn (evD d 231 [vR 12 0 253, vI 60] M1) fun v3 M2 =>
  cIn (evD d 233 [vR 12 0 253, vI 60] M2) fun v5 M4 =>
  ic (v5 = 0) (
    cIn (evD d 233 [vR 12 0 253, vI 61] M4) fun v10 M9 =>
    ic (v10 = 0) (
      some (none, M9)) (
      cVd (evD d 228 [vR 12 0 253, vI p0] M9) fun M11 =>
      ic (v3 = 0) (
        cVd (evD d 232 [vR 12 0 253, vI 8, vI 0] M11) fun M12 =>
        some (none, M12)) (
        cVd (evD d 232 [vR 12 0 253, vI 7, vI 0] M11) fun M13 =>
        some (none, M13)))) (
    cVd (evD d 228 [vR 12 0 253, vI p0] M4) fun M6 =>
    ic (v3 = 0) (
      cVd (evD d 232 [vR 12 0 253, vI 8, vI 0] M6) fun M7 =>
      some (none, M7)) (
      cVd (evD d 232 [vR 12 0 253, vI 7, vI 0] M6) fun M8 =>
      some (none, M8))) := ((evD_step (d := d) (x := 227) (as := [vR 12 0 253, vI p0]) (M := M) (md := (⟨"IceParliamentModel", "test", "(I)V"⟩, prog_14_method_39_code, 3, (Option.none : Option Jvm.ClassFile.FieldType), 12, 12)) rfl rfl).trans (j227 (evD d) (evp0 (lkE (codT 227)) (hdT 227) (evD d)) p0 M))
-- IceParliamentModel sums(I)V
set_option maxRecDepth 100000 in
theorem j228 (call : Nat → List AV → Mem → Res) (back : Nat → Lv → Mem → Res) (p0 : Int32) (M : Mem) : evj (lkE cd_228) [5] call back 4000 0 [some (vR 12 0 253), some (vI p0), none] [] M =
  cVd (call 229 [vR 12 0 253, vI p0] M) fun M1 =>
  back 5 [some (vR 12 0 253), some (vI p0), none] M1 := rfl
set_option maxRecDepth 100000 in
theorem e228 (d : Nat) (p0 : Int32) (M : Mem) : evD (d + 1) 228 [vR 12 0 253, vI p0] M =
  cVd (evD d 229 [vR 12 0 253, vI p0] M) fun M1 =>
  lp0 d 228 5 [some (vR 12 0 253), some (vI p0), none] M1 := ((evD_step (d := d) (x := 228) (as := [vR 12 0 253, vI p0]) (M := M) (md := (⟨"IceParliamentModel", "sums", "(I)V"⟩, prog_14_method_40_code, 3, (Option.none : Option Jvm.ClassFile.FieldType), 12, 12)) rfl rfl).trans (j228 (evD d) (evp0 (lkE (codT 228)) (hdT 228) (evD d)) p0 M))
set_option maxRecDepth 100000 in
theorem g228_5 (call : Nat → List AV → Mem → Res) (back : Nat → Lv → Mem → Res) (l1 : Int32) (o2 : Option AV) (M : Mem) : stepK call back (evj (lkE cd_228) [5] call back 4000) (.aload_n 0, 1, 0, 0, 0, 0, 0) 5 [some (vR 12 0 253), some (vI l1), o2] [] M =
  cIn (call 231 [vR 12 0 253, vI 43] M) fun v2 M1 =>
  ic (v2 = 0) (
    cIn (call 231 [vR 12 0 253, vI 45] M1) fun v9 M8 =>
    ic (v9 = 0) (
      some (none, M8)) (
      cIn (call 231 [vR 12 0 253, vI 43] M8) fun v11 M10 =>
      cVd (call 229 [vR 12 0 253, vI l1] (sI M10 253 7 ((M10.1 253 7) + 1))) fun M12 =>
      ic (v11 = 0) (
        cVd (call 232 [vR 12 0 253, vI 5, vI 0] M12) fun M13 =>
        back 5 [some (vR 12 0 253), some (vI l1), some (vI v11)] M13) (
        cVd (call 232 [vR 12 0 253, vI 4, vI 0] M12) fun M14 =>
        back 5 [some (vR 12 0 253), some (vI l1), some (vI v11)] M14))) (
    cIn (call 231 [vR 12 0 253, vI 43] M1) fun v4 M3 =>
    cVd (call 229 [vR 12 0 253, vI l1] (sI M3 253 7 ((M3.1 253 7) + 1))) fun M5 =>
    ic (v4 = 0) (
      cVd (call 232 [vR 12 0 253, vI 5, vI 0] M5) fun M6 =>
      back 5 [some (vR 12 0 253), some (vI l1), some (vI v4)] M6) (
      cVd (call 232 [vR 12 0 253, vI 4, vI 0] M5) fun M7 =>
      back 5 [some (vR 12 0 253), some (vI l1), some (vI v4)] M7)) := rfl
set_option maxRecDepth 100000 in
theorem e228_5 (d F : Nat) (l1 : Int32) (o2 : Option AV) (M : Mem) : lp d 228 (F + 1) 5 [some (vR 12 0 253), some (vI l1), o2] M =
  cIn (evD d 231 [vR 12 0 253, vI 43] M) fun v2 M1 =>
  ic (v2 = 0) (
    cIn (evD d 231 [vR 12 0 253, vI 45] M1) fun v9 M8 =>
    ic (v9 = 0) (
      some (none, M8)) (
      cIn (evD d 231 [vR 12 0 253, vI 43] M8) fun v11 M10 =>
      cVd (evD d 229 [vR 12 0 253, vI l1] (sI M10 253 7 ((M10.1 253 7) + 1))) fun M12 =>
      ic (v11 = 0) (
        cVd (evD d 232 [vR 12 0 253, vI 5, vI 0] M12) fun M13 =>
        lp d 228 F 5 [some (vR 12 0 253), some (vI l1), some (vI v11)] M13) (
        cVd (evD d 232 [vR 12 0 253, vI 4, vI 0] M12) fun M14 =>
        lp d 228 F 5 [some (vR 12 0 253), some (vI l1), some (vI v11)] M14))) (
    cIn (evD d 231 [vR 12 0 253, vI 43] M1) fun v4 M3 =>
    cVd (evD d 229 [vR 12 0 253, vI l1] (sI M3 253 7 ((M3.1 253 7) + 1))) fun M5 =>
    ic (v4 = 0) (
      cVd (evD d 232 [vR 12 0 253, vI 5, vI 0] M5) fun M6 =>
      lp d 228 F 5 [some (vR 12 0 253), some (vI l1), some (vI v4)] M6) (
      cVd (evD d 232 [vR 12 0 253, vI 4, vI 0] M5) fun M7 =>
      lp d 228 F 5 [some (vR 12 0 253), some (vI l1), some (vI v4)] M7)) := ((evp_step (code := lkE (codT 228)) (hd := hdT 228) (call := evD d) (F := F) (pc := 5) (lv := [some (vR 12 0 253), some (vI l1), o2]) (M := M) (e := (.aload_n 0, 1, 0, 0, 0, 0, 0)) rfl).trans (g228_5 (evD d) (evp (lkE (codT 228)) (hdT 228) (evD d) F) l1 o2 M))
-- IceParliamentModel products(I)V
set_option maxRecDepth 100000 in
theorem j229 (call : Nat → List AV → Mem → Res) (back : Nat → Lv → Mem → Res) (p0 : Int32) (M : Mem) : evj (lkE cd_229) [5] call back 4000 0 [some (vR 12 0 253), some (vI p0)] [] M =
  cVd (call 230 [vR 12 0 253, vI p0] M) fun M1 =>
  back 5 [some (vR 12 0 253), some (vI p0)] M1 := rfl
set_option maxRecDepth 100000 in
theorem e229 (d : Nat) (p0 : Int32) (M : Mem) : evD (d + 1) 229 [vR 12 0 253, vI p0] M =
  cVd (evD d 230 [vR 12 0 253, vI p0] M) fun M1 =>
  lp0 d 229 5 [some (vR 12 0 253), some (vI p0)] M1 := ((evD_step (d := d) (x := 229) (as := [vR 12 0 253, vI p0]) (M := M) (md := (⟨"IceParliamentModel", "products", "(I)V"⟩, prog_14_method_41_code, 2, (Option.none : Option Jvm.ClassFile.FieldType), 12, 12)) rfl rfl).trans (j229 (evD d) (evp0 (lkE (codT 229)) (hdT 229) (evD d)) p0 M))
set_option maxRecDepth 100000 in
theorem g229_5 (call : Nat → List AV → Mem → Res) (back : Nat → Lv → Mem → Res) (l1 : Int32) (M : Mem) : stepK call back (evj (lkE cd_229) [5] call back 4000) (.aload_n 0, 1, 0, 0, 0, 0, 0) 5 [some (vR 12 0 253), some (vI l1)] [] M =
  cIn (call 233 [vR 12 0 253, vI 42] M) fun v2 M1 =>
  ic (v2 = 0) (
    some (none, M1)) (
    cVd (call 230 [vR 12 0 253, vI l1] M1) fun M3 =>
    cVd (call 232 [vR 12 0 253, vI 6, vI 0] M3) fun M4 =>
    back 5 [some (vR 12 0 253), some (vI l1)] M4) := rfl
set_option maxRecDepth 100000 in
theorem e229_5 (d F : Nat) (l1 : Int32) (M : Mem) : lp d 229 (F + 1) 5 [some (vR 12 0 253), some (vI l1)] M =
  cIn (evD d 233 [vR 12 0 253, vI 42] M) fun v2 M1 =>
  ic (v2 = 0) (
    some (none, M1)) (
    cVd (evD d 230 [vR 12 0 253, vI l1] M1) fun M3 =>
    cVd (evD d 232 [vR 12 0 253, vI 6, vI 0] M3) fun M4 =>
    lp d 229 F 5 [some (vR 12 0 253), some (vI l1)] M4) := ((evp_step (code := lkE (codT 229)) (hd := hdT 229) (call := evD d) (F := F) (pc := 5) (lv := [some (vR 12 0 253), some (vI l1)]) (M := M) (e := (.aload_n 0, 1, 0, 0, 0, 0, 0)) rfl).trans (g229_5 (evD d) (evp (lkE (codT 229)) (hdT 229) (evD d) F) l1 M))
-- IceParliamentModel takePart(I)V
set_option maxRecDepth 100000 in
theorem j230 (call : Nat → List AV → Mem → Res) (back : Nat → Lv → Mem → Res) (p0 : Int32) (M : Mem) : evj (lkE cd_230) [27, 55, 57, 91, 101, 190] call back 4000 0 [some (vR 12 0 253), some (vI p0), none, none] [] M =
  ic (0 < M.1 253 8) (
    some (none, M)) (
    ic (M.1 253 7 < 0 ∨ 1002 ≤ (M.1 253 7).toNatClampNeg) none (
      ic (M.1 255 (M.1 253 7).toNatClampNeg = 2) (
        back 27 [some (vR 12 0 253), some (vI p0), some (vI 1), none] M) (
        back 27 [some (vR 12 0 253), some (vI p0), some (vI 0), none] M))) := rfl
set_option maxRecDepth 100000 in
theorem e230 (d : Nat) (p0 : Int32) (M : Mem) : evD (d + 1) 230 [vR 12 0 253, vI p0] M =
  ic (0 < M.1 253 8) (
    some (none, M)) (
    ic (M.1 253 7 < 0 ∨ 1002 ≤ (M.1 253 7).toNatClampNeg) none (
      ic (M.1 255 (M.1 253 7).toNatClampNeg = 2) (
        lp0 d 230 27 [some (vR 12 0 253), some (vI p0), some (vI 1), none] M) (
        lp0 d 230 27 [some (vR 12 0 253), some (vI p0), some (vI 0), none] M))) := ((evD_step (d := d) (x := 230) (as := [vR 12 0 253, vI p0]) (M := M) (md := (⟨"IceParliamentModel", "takePart", "(I)V"⟩, prog_14_method_42_code, 4, (Option.none : Option Jvm.ClassFile.FieldType), 12, 12)) rfl rfl).trans (j230 (evD d) (evp0 (lkE (codT 230)) (hdT 230) (evD d)) p0 M))
set_option maxRecDepth 100000 in
theorem g230_27 (call : Nat → List AV → Mem → Res) (back : Nat → Lv → Mem → Res) (l1 : Int32) (l2 : Int32) (o3 : Option AV) (M : Mem) : stepK call back (evj (lkE cd_230) [27, 55, 57, 91, 101, 190] call back 4000) (.aload_n 0, 1, 0, 0, 0, 0, 0) 27 [some (vR 12 0 253), some (vI l1), some (vI l2), o3] [] M =
  cIn (call 211 [vR 12 0 253, vI 28, vI 5] M) fun v2 M1 =>
  ic (v2 < 0) (
    back 55 [some (vR 12 0 253), some (vI l1), some (vI l2), some (vI v2)] M1) (
    ic (((M1.1 253 21) >>> (v2 &&& 31)) &&& 1 = 1) (
      back 57 [some (vR 12 0 253), some (vI l1), some (vI l2), some (vI v2)] M1) (
      back 55 [some (vR 12 0 253), some (vI l1), some (vI l2), some (vI v2)] M1)) := rfl
set_option maxRecDepth 100000 in
theorem e230_27 (d F : Nat) (l1 : Int32) (l2 : Int32) (o3 : Option AV) (M : Mem) : lp d 230 (F + 1) 27 [some (vR 12 0 253), some (vI l1), some (vI l2), o3] M =
  cIn (evD d 211 [vR 12 0 253, vI 28, vI 5] M) fun v2 M1 =>
  ic (v2 < 0) (
    lp d 230 F 55 [some (vR 12 0 253), some (vI l1), some (vI l2), some (vI v2)] M1) (
    ic (((M1.1 253 21) >>> (v2 &&& 31)) &&& 1 = 1) (
      lp d 230 F 57 [some (vR 12 0 253), some (vI l1), some (vI l2), some (vI v2)] M1) (
      lp d 230 F 55 [some (vR 12 0 253), some (vI l1), some (vI l2), some (vI v2)] M1)) := ((evp_step (code := lkE (codT 230)) (hd := hdT 230) (call := evD d) (F := F) (pc := 27) (lv := [some (vR 12 0 253), some (vI l1), some (vI l2), o3]) (M := M) (e := (.aload_n 0, 1, 0, 0, 0, 0, 0)) rfl).trans (g230_27 (evD d) (evp (lkE (codT 230)) (hdT 230) (evD d) F) l1 l2 o3 M))
set_option maxRecDepth 100000 in
theorem g230_55 (call : Nat → List AV → Mem → Res) (back : Nat → Lv → Mem → Res) (l1 : Int32) (l2 : Int32) (o3 : Option AV) (M : Mem) : stepK call back (evj (lkE cd_230) [27, 55, 57, 91, 101, 190] call back 4000) (.iconst (-1), 1, 0, 0, 0, (-1), 0) 55 [some (vR 12 0 253), some (vI l1), some (vI l2), o3] [] M =
  back 57 [some (vR 12 0 253), some (vI l1), some (vI l2), some (vI (-1))] M := rfl
set_option maxRecDepth 100000 in
theorem e230_55 (d F : Nat) (l1 : Int32) (l2 : Int32) (o3 : Option AV) (M : Mem) : lp d 230 (F + 1) 55 [some (vR 12 0 253), some (vI l1), some (vI l2), o3] M =
  lp d 230 F 57 [some (vR 12 0 253), some (vI l1), some (vI l2), some (vI (-1))] M := ((evp_step (code := lkE (codT 230)) (hd := hdT 230) (call := evD d) (F := F) (pc := 55) (lv := [some (vR 12 0 253), some (vI l1), some (vI l2), o3]) (M := M) (e := (.iconst (-1), 1, 0, 0, 0, (-1), 0)) rfl).trans (g230_55 (evD d) (evp (lkE (codT 230)) (hdT 230) (evD d) F) l1 l2 o3 M))
set_option maxRecDepth 100000 in
theorem g230_57 (call : Nat → List AV → Mem → Res) (back : Nat → Lv → Mem → Res) (l1 : Int32) (l2 : Int32) (l3 : Int32) (M : Mem) : stepK call back (evj (lkE cd_230) [27, 55, 57, 91, 101, 190] call back 4000) (.iload_n 3, 1, 3, 0, 0, 0, 0) 57 [some (vR 12 0 253), some (vI l1), some (vI l2), some (vI l3)] [] M =
  ic (l3 < 0) (
    ic (l2 = 0) (
      cIn (call 231 [vR 12 0 253, vI 40] M) fun v2 M1 =>
      ic (v2 = 0) (
        cIn (call 206 [vR 12 0 253, vI 25] M1) fun v4 M3 =>
        ic (v4 = 0) (
          cVd (call 208 [vR 12 0 253, vI 1] M3) fun M5 =>
          back 101 [some (vR 12 0 253), some (vI l1), some (vI l2), some (vI l3)] M5) (
          back 91 [some (vR 12 0 253), some (vI l1), some (vI l2), some (vI l3)] M3)) (
        back 91 [some (vR 12 0 253), some (vI l1), some (vI l2), some (vI l3)] M1)) (
      back 91 [some (vR 12 0 253), some (vI l1), some (vI l2), some (vI l3)] M)) (
    back 91 [some (vR 12 0 253), some (vI l1), some (vI l2), some (vI l3)] M) := rfl
set_option maxRecDepth 100000 in
theorem e230_57 (d F : Nat) (l1 : Int32) (l2 : Int32) (l3 : Int32) (M : Mem) : lp d 230 (F + 1) 57 [some (vR 12 0 253), some (vI l1), some (vI l2), some (vI l3)] M =
  ic (l3 < 0) (
    ic (l2 = 0) (
      cIn (evD d 231 [vR 12 0 253, vI 40] M) fun v2 M1 =>
      ic (v2 = 0) (
        cIn (evD d 206 [vR 12 0 253, vI 25] M1) fun v4 M3 =>
        ic (v4 = 0) (
          cVd (evD d 208 [vR 12 0 253, vI 1] M3) fun M5 =>
          lp d 230 F 101 [some (vR 12 0 253), some (vI l1), some (vI l2), some (vI l3)] M5) (
          lp d 230 F 91 [some (vR 12 0 253), some (vI l1), some (vI l2), some (vI l3)] M3)) (
        lp d 230 F 91 [some (vR 12 0 253), some (vI l1), some (vI l2), some (vI l3)] M1)) (
      lp d 230 F 91 [some (vR 12 0 253), some (vI l1), some (vI l2), some (vI l3)] M)) (
    lp d 230 F 91 [some (vR 12 0 253), some (vI l1), some (vI l2), some (vI l3)] M) := ((evp_step (code := lkE (codT 230)) (hd := hdT 230) (call := evD d) (F := F) (pc := 57) (lv := [some (vR 12 0 253), some (vI l1), some (vI l2), some (vI l3)]) (M := M) (e := (.iload_n 3, 1, 3, 0, 0, 0, 0)) rfl).trans (g230_57 (evD d) (evp (lkE (codT 230)) (hdT 230) (evD d) F) l1 l2 l3 M))
set_option maxRecDepth 100000 in
theorem g230_91 (call : Nat → List AV → Mem → Res) (back : Nat → Lv → Mem → Res) (l1 : Int32) (l2 : Int32) (l3 : Int32) (M : Mem) : stepK call back (evj (lkE cd_230) [27, 55, 57, 91, 101, 190] call back 4000) (.iload_n 1, 1, 1, 0, 0, 0, 0) 91 [some (vR 12 0 253), some (vI l1), some (vI l2), some (vI l3)] [] M =
  ic (l1 = 5) (
    cVd (call 208 [vR 12 0 253, vI 5] M) fun M1 =>
    back 101 [some (vR 12 0 253), some (vI l1), some (vI l2), some (vI l3)] M1) (
    back 101 [some (vR 12 0 253), some (vI l1), some (vI l2), some (vI l3)] M) := rfl
set_option maxRecDepth 100000 in
theorem e230_91 (d F : Nat) (l1 : Int32) (l2 : Int32) (l3 : Int32) (M : Mem) : lp d 230 (F + 1) 91 [some (vR 12 0 253), some (vI l1), some (vI l2), some (vI l3)] M =
  ic (l1 = 5) (
    cVd (evD d 208 [vR 12 0 253, vI 5] M) fun M1 =>
    lp d 230 F 101 [some (vR 12 0 253), some (vI l1), some (vI l2), some (vI l3)] M1) (
    lp d 230 F 101 [some (vR 12 0 253), some (vI l1), some (vI l2), some (vI l3)] M) := ((evp_step (code := lkE (codT 230)) (hd := hdT 230) (call := evD d) (F := F) (pc := 91) (lv := [some (vR 12 0 253), some (vI l1), some (vI l2), some (vI l3)]) (M := M) (e := (.iload_n 1, 1, 1, 0, 0, 0, 0)) rfl).trans (g230_91 (evD d) (evp (lkE (codT 230)) (hdT 230) (evD d) F) l1 l2 l3 M))
set_option maxRecDepth 100000 in
theorem g230_101 (call : Nat → List AV → Mem → Res) (back : Nat → Lv → Mem → Res) (l1 : Int32) (l2 : Int32) (l3 : Int32) (M : Mem) : stepK call back (evj (lkE cd_230) [27, 55, 57, 91, 101, 190] call back 4000) (.aload_n 0, 1, 0, 0, 0, 0, 0) 101 [some (vR 12 0 253), some (vI l1), some (vI l2), some (vI l3)] [] M =
  ic (0 < M.1 253 8) (
    some (none, M)) (
    cIn (call 215 [vR 12 0 253, vI 25] M) fun v2 M1 =>
    ic (v2 = 0) (
      cIn (call 233 [vR 12 0 253, vI 40] M1) fun v4 M3 =>
      ic (v4 = 0) (
        ic (l2 = 0) (
          ic (l2 = 0) (
            cVd (call 232 [vR 12 0 253, vI 2, vI l3] M3) fun M5 =>
            back 190 [some (vR 12 0 253), some (vI l1), some (vI l2), some (vI l3)] M5) (
            ic (M3.1 253 7 < 0 ∨ 1002 ≤ (M3.1 253 7).toNatClampNeg) none (
              cVd (call 232 [vR 12 0 253, vI 2, vI ((M3.2.1 257 (M3.1 253 7).toNatClampNeg).toInt32)] M3) fun M6 =>
              back 190 [some (vR 12 0 253), some (vI l1), some (vI l2), some (vI l3)] M6))) (
          ic (l2 = 0) (
            cVd (call 232 [vR 12 0 253, vI 1, vI l3] M3) fun M7 =>
            back 190 [some (vR 12 0 253), some (vI l1), some (vI l2), some (vI l3)] M7) (
            ic (M3.1 253 7 < 0 ∨ 1002 ≤ (M3.1 253 7).toNatClampNeg) none (
              cVd (call 232 [vR 12 0 253, vI 1, vI ((M3.2.1 257 (M3.1 253 7).toNatClampNeg).toInt32)] M3) fun M8 =>
              back 190 [some (vR 12 0 253), some (vI l1), some (vI l2), some (vI l3)] M8)))) (
        cVd (call 226 [vR 12 0 253, vI (l1 + 1)] M3) fun M9 =>
        cVd (call 234 [vR 12 0 253, vI 41] M9) fun M10 =>
        some (none, M10))) (
      cVd (call 230 [vR 12 0 253, vI (l1 + 1)] M1) fun M11 =>
      cVd (call 232 [vR 12 0 253, vI 3, vI 0] M11) fun M12 =>
      some (none, M12))) := rfl
set_option maxRecDepth 100000 in
theorem e230_101 (d F : Nat) (l1 : Int32) (l2 : Int32) (l3 : Int32) (M : Mem) : lp d 230 (F + 1) 101 [some (vR 12 0 253), some (vI l1), some (vI l2), some (vI l3)] M =
  ic (0 < M.1 253 8) (
    some (none, M)) (
    cIn (evD d 215 [vR 12 0 253, vI 25] M) fun v2 M1 =>
    ic (v2 = 0) (
      cIn (evD d 233 [vR 12 0 253, vI 40] M1) fun v4 M3 =>
      ic (v4 = 0) (
        ic (l2 = 0) (
          ic (l2 = 0) (
            cVd (evD d 232 [vR 12 0 253, vI 2, vI l3] M3) fun M5 =>
            lp d 230 F 190 [some (vR 12 0 253), some (vI l1), some (vI l2), some (vI l3)] M5) (
            ic (M3.1 253 7 < 0 ∨ 1002 ≤ (M3.1 253 7).toNatClampNeg) none (
              cVd (evD d 232 [vR 12 0 253, vI 2, vI ((M3.2.1 257 (M3.1 253 7).toNatClampNeg).toInt32)] M3) fun M6 =>
              lp d 230 F 190 [some (vR 12 0 253), some (vI l1), some (vI l2), some (vI l3)] M6))) (
          ic (l2 = 0) (
            cVd (evD d 232 [vR 12 0 253, vI 1, vI l3] M3) fun M7 =>
            lp d 230 F 190 [some (vR 12 0 253), some (vI l1), some (vI l2), some (vI l3)] M7) (
            ic (M3.1 253 7 < 0 ∨ 1002 ≤ (M3.1 253 7).toNatClampNeg) none (
              cVd (evD d 232 [vR 12 0 253, vI 1, vI ((M3.2.1 257 (M3.1 253 7).toNatClampNeg).toInt32)] M3) fun M8 =>
              lp d 230 F 190 [some (vR 12 0 253), some (vI l1), some (vI l2), some (vI l3)] M8)))) (
        cVd (evD d 226 [vR 12 0 253, vI (l1 + 1)] M3) fun M9 =>
        cVd (evD d 234 [vR 12 0 253, vI 41] M9) fun M10 =>
        some (none, M10))) (
      cVd (evD d 230 [vR 12 0 253, vI (l1 + 1)] M1) fun M11 =>
      cVd (evD d 232 [vR 12 0 253, vI 3, vI 0] M11) fun M12 =>
      some (none, M12))) := ((evp_step (code := lkE (codT 230)) (hd := hdT 230) (call := evD d) (F := F) (pc := 101) (lv := [some (vR 12 0 253), some (vI l1), some (vI l2), some (vI l3)]) (M := M) (e := (.aload_n 0, 1, 0, 0, 0, 0, 0)) rfl).trans (g230_101 (evD d) (evp (lkE (codT 230)) (hdT 230) (evD d) F) l1 l2 l3 M))
set_option maxRecDepth 100000 in
theorem g230_190 (call : Nat → List AV → Mem → Res) (back : Nat → Lv → Mem → Res) (o1 : Option AV) (o2 : Option AV) (o3 : Option AV) (M : Mem) : stepK call back (evj (lkE cd_230) [27, 55, 57, 91, 101, 190] call back 4000) (.aload_n 0, 1, 0, 0, 0, 0, 0) 190 [some (vR 12 0 253), o1, o2, o3] [] M =
  some (none, sI M 253 7 ((M.1 253 7) + 1)) := rfl
set_option maxRecDepth 100000 in
theorem e230_190 (d F : Nat) (o1 : Option AV) (o2 : Option AV) (o3 : Option AV) (M : Mem) : lp d 230 (F + 1) 190 [some (vR 12 0 253), o1, o2, o3] M =
  some (none, sI M 253 7 ((M.1 253 7) + 1)) := ((evp_step (code := lkE (codT 230)) (hd := hdT 230) (call := evD d) (F := F) (pc := 190) (lv := [some (vR 12 0 253), o1, o2, o3]) (M := M) (e := (.aload_n 0, 1, 0, 0, 0, 0, 0)) rfl).trans (g230_190 (evD d) (evp (lkE (codT 230)) (hdT 230) (evD d) F) o1 o2 o3 M))
-- IceParliamentModel isSign(I)Z
set_option maxRecDepth 100000 in
theorem j231 (call : Nat → List AV → Mem → Res) (back : Nat → Lv → Mem → Res) (p0 : Int32) (M : Mem) : evj (lkE cd_231) [] call back 4000 0 [some (vR 12 0 253), some (vI p0)] [] M =
  ic (M.1 253 8 = 0) (
    ic (M.1 253 7 < 0 ∨ 1002 ≤ (M.1 253 7).toNatClampNeg) none (
      ic (M.1 255 (M.1 253 7).toNatClampNeg = 3) (
        ic (M.1 253 7 < 0 ∨ 1002 ≤ (M.1 253 7).toNatClampNeg) none (
          ic (lg_cmp (M.2.1 257 (M.1 253 7).toNatClampNeg) p0.toInt64 = 0) (
            ic ((1 : Int32) &&& 1 = 1) (
              some (some (vI 1), M)) none) (
            ic ((0 : Int32) &&& 1 = 0) (
              some (some (vI 0), M)) none))) (
        ic ((0 : Int32) &&& 1 = 0) (
          some (some (vI 0), M)) none))) (
    ic ((0 : Int32) &&& 1 = 0) (
      some (some (vI 0), M)) none) := rfl
set_option maxRecDepth 100000 in
theorem e231 (d : Nat) (p0 : Int32) (M : Mem) : evD (d + 1) 231 [vR 12 0 253, vI p0] M =
  ic (M.1 253 8 = 0) (
    ic (M.1 253 7 < 0 ∨ 1002 ≤ (M.1 253 7).toNatClampNeg) none (
      ic (M.1 255 (M.1 253 7).toNatClampNeg = 3) (
        ic (M.1 253 7 < 0 ∨ 1002 ≤ (M.1 253 7).toNatClampNeg) none (
          ic (lg_cmp (M.2.1 257 (M.1 253 7).toNatClampNeg) p0.toInt64 = 0) (
            some (some (vI 1), M)) (
            some (some (vI 0), M)))) (
        some (some (vI 0), M)))) (
    some (some (vI 0), M)) := ((evD_step (d := d) (x := 231) (as := [vR 12 0 253, vI p0]) (M := M) (md := (⟨"IceParliamentModel", "isSign", "(I)Z"⟩, prog_14_method_11_code, 2, (Option.some Jvm.ClassFile.FieldType.boolean), 12, 12)) rfl rfl).trans (j231 (evD d) (evp0 (lkE (codT 231)) (hdT 231) (evD d)) p0 M)).trans (by (try simp only [ic_t (show (0 : Int32) &&& 1 = 0 by decide), ic_t (show (1 : Int32) &&& 1 = 1 by decide)]))
-- IceParliamentModel emit(II)V
set_option maxRecDepth 100000 in
theorem j232 (call : Nat → List AV → Mem → Res) (back : Nat → Lv → Mem → Res) (p0 : Int32) (p1 : Int32) (M : Mem) : evj (lkE cd_232) [] call back 4000 0 [some (vR 12 0 253), some (vI p0), some (vI p1)] [] M =
  ic (1100 + (M.1 253 13) < 0 ∨ 2200 ≤ (1100 + (M.1 253 13)).toNatClampNeg) none (
    ic (1100 + ((sI M 260 ((1100 + (M.1 253 13)).toNatClampNeg) p0).1 253 13) < 0 ∨ 2200 ≤ (1100 + ((sI M 260 ((1100 + (M.1 253 13)).toNatClampNeg) p0).1 253 13)).toNatClampNeg) none (
      some (none, sI (sI (sI M 260 ((1100 + (M.1 253 13)).toNatClampNeg) p0) 261 ((1100 + ((sI M 260 ((1100 + (M.1 253 13)).toNatClampNeg) p0).1 253 13)).toNatClampNeg) p1) 253 13 (((sI (sI M 260 ((1100 + (M.1 253 13)).toNatClampNeg) p0) 261 ((1100 + ((sI M 260 ((1100 + (M.1 253 13)).toNatClampNeg) p0).1 253 13)).toNatClampNeg) p1).1 253 13) + 1)))) := rfl
set_option maxRecDepth 100000 in
theorem e232 (d : Nat) (p0 : Int32) (p1 : Int32) (M : Mem) : evD (d + 1) 232 [vR 12 0 253, vI p0, vI p1] M =
  ic (1100 + (M.1 253 13) < 0 ∨ 2200 ≤ (1100 + (M.1 253 13)).toNatClampNeg) none (
    ic (1100 + ((sI M 260 ((1100 + (M.1 253 13)).toNatClampNeg) p0).1 253 13) < 0 ∨ 2200 ≤ (1100 + ((sI M 260 ((1100 + (M.1 253 13)).toNatClampNeg) p0).1 253 13)).toNatClampNeg) none (
      some (none, sI (sI (sI M 260 ((1100 + (M.1 253 13)).toNatClampNeg) p0) 261 ((1100 + ((sI M 260 ((1100 + (M.1 253 13)).toNatClampNeg) p0).1 253 13)).toNatClampNeg) p1) 253 13 (((sI (sI M 260 ((1100 + (M.1 253 13)).toNatClampNeg) p0) 261 ((1100 + ((sI M 260 ((1100 + (M.1 253 13)).toNatClampNeg) p0).1 253 13)).toNatClampNeg) p1).1 253 13) + 1)))) := ((evD_step (d := d) (x := 232) (as := [vR 12 0 253, vI p0, vI p1]) (M := M) (md := (⟨"IceParliamentModel", "emit", "(II)V"⟩, prog_14_method_37_code, 3, (Option.none : Option Jvm.ClassFile.FieldType), 12, 12)) rfl rfl).trans (j232 (evD d) (evp0 (lkE (codT 232)) (hdT 232) (evD d)) p0 p1 M))
-- IceParliamentModel hasSign(I)Z
set_option maxRecDepth 100000 in
theorem j233 (call : Nat → List AV → Mem → Res) (back : Nat → Lv → Mem → Res) (p0 : Int32) (M : Mem) : evj (lkE cd_233) [] call back 4000 0 [some (vR 12 0 253), some (vI p0), none] [] M =
  cIn (call 231 [vR 12 0 253, vI p0] M) fun v2 M1 =>
  ic (v2 = 0) (
    ic (v2 &&& 1 = v2) (
      some (some (vI v2), sI M1 253 7 ((M1.1 253 7) + 0))) none) (
    ic (v2 &&& 1 = v2) (
      some (some (vI v2), sI M1 253 7 ((M1.1 253 7) + 1))) none) := rfl
set_option maxRecDepth 100000 in
theorem e233 (d : Nat) (p0 : Int32) (M : Mem) : evD (d + 1) 233 [vR 12 0 253, vI p0] M =
  cIn (evD d 231 [vR 12 0 253, vI p0] M) fun v2 M1 =>
  ic (v2 = 0) (
    ic (v2 &&& 1 = v2) (
      some (some (vI v2), sI M1 253 7 ((M1.1 253 7) + 0))) none) (
    ic (v2 &&& 1 = v2) (
      some (some (vI v2), sI M1 253 7 ((M1.1 253 7) + 1))) none) := ((evD_step (d := d) (x := 233) (as := [vR 12 0 253, vI p0]) (M := M) (md := (⟨"IceParliamentModel", "hasSign", "(I)Z"⟩, prog_14_method_14_code, 3, (Option.some Jvm.ClassFile.FieldType.boolean), 12, 12)) rfl rfl).trans (j233 (evD d) (evp0 (lkE (codT 233)) (hdT 233) (evD d)) p0 M))
-- IceParliamentModel takeSign(I)V
set_option maxRecDepth 100000 in
theorem j234 (call : Nat → List AV → Mem → Res) (back : Nat → Lv → Mem → Res) (p0 : Int32) (M : Mem) : evj (lkE cd_234) [] call back 4000 0 [some (vR 12 0 253), some (vI p0)] [] M =
  cIn (call 231 [vR 12 0 253, vI p0] M) fun v2 M1 =>
  ic (v2 = 0) (
    cVd (call 208 [vR 12 0 253, vI 1] M1) fun M3 =>
    some (none, M3)) (
    some (none, sI M1 253 7 ((M1.1 253 7) + 1))) := rfl
set_option maxRecDepth 100000 in
theorem e234 (d : Nat) (p0 : Int32) (M : Mem) : evD (d + 1) 234 [vR 12 0 253, vI p0] M =
  cIn (evD d 231 [vR 12 0 253, vI p0] M) fun v2 M1 =>
  ic (v2 = 0) (
    cVd (evD d 208 [vR 12 0 253, vI 1] M1) fun M3 =>
    some (none, M3)) (
    some (none, sI M1 253 7 ((M1.1 253 7) + 1))) := ((evD_step (d := d) (x := 234) (as := [vR 12 0 253, vI p0]) (M := M) (md := (⟨"IceParliamentModel", "takeSign", "(I)V"⟩, prog_14_method_13_code, 2, (Option.none : Option Jvm.ClassFile.FieldType), 12, 12)) rfl rfl).trans (j234 (evD d) (evp0 (lkE (codT 234)) (hdT 234) (evD d)) p0 M))
-- IceParliamentModel session()I
set_option maxRecDepth 100000 in
theorem j235 (call : Nat → List AV → Mem → Res) (back : Nat → Lv → Mem → Res)  (M : Mem) : evj (lkE cd_235) [11, 123, 158, 161, 170, 191] call back 4000 0 [some (vR 12 0 253), none, none] [] M =
  cVd (call 200 [vR 12 0 253] (sI M 253 0 0)) fun M1 =>
  back 11 [some (vR 12 0 253), some (vI 0), none] M1 := rfl
set_option maxRecDepth 100000 in
theorem e235 (d : Nat)  (M : Mem) : evD (d + 1) 235 [vR 12 0 253] M =
  cVd (evD d 200 [vR 12 0 253] (sI M 253 0 0)) fun M1 =>
  lp0 d 235 11 [some (vR 12 0 253), some (vI 0), none] M1 := ((evD_step (d := d) (x := 235) (as := [vR 12 0 253]) (M := M) (md := (⟨"IceParliamentModel", "session", "()I"⟩, prog_14_method_36_code, 3, (Option.some Jvm.ClassFile.FieldType.int), 12, 12)) rfl rfl).trans (j235 (evD d) (evp0 (lkE (codT 235)) (hdT 235) (evD d))  M))
set_option maxRecDepth 100000 in
theorem g235_11 (call : Nat → List AV → Mem → Res) (back : Nat → Lv → Mem → Res) (l1 : Int32) (o2 : Option AV) (M : Mem) : stepK call back (evj (lkE cd_235) [11, 123, 158, 161, 170, 191] call back 4000) (.aload_n 0, 1, 0, 0, 0, 0, 0) 11 [some (vR 12 0 253), some (vI l1), o2] [] M =
  ic (M.1 253 8 = 0) (
    ic (M.1 253 7 < 0 ∨ 1002 ≤ (M.1 253 7).toNatClampNeg) none (
      ic (M.1 255 (M.1 253 7).toNatClampNeg = 0) (
        back 170 [some (vR 12 0 253), some (vI l1), o2] M) (
        cIn (call 211 [vR 12 0 253, vI 14, vI 5] M) fun v2 M1 =>
        ic (v2 < 0) (
          cVd (call 208 [vR 12 0 253, vI 1] M1) fun M8 =>
          back 161 [some (vR 12 0 253), some (vI l1), some (vI v2)] M8) (
          ic (l1 = 40) (
            cVd (call 208 [vR 12 0 253, vI 5] M1) fun M7 =>
            back 161 [some (vR 12 0 253), some (vI l1), some (vI v2)] M7) (
            ic (125 + (3 * l1) < 0 ∨ 250 ≤ (125 + (3 * l1)).toNatClampNeg) none (
              ic (v2 = 4) (
                ic (126 + (3 * l1) < 0 ∨ 250 ≤ (126 + (3 * l1)).toNatClampNeg) none (
                  back 123 [some (vR 12 0 253), some (vI l1), some (vI v2)] (sI (sI (sI M1 253 7 ((M1.1 253 7) + 1)) 266 ((125 + (3 * l1)).toNatClampNeg) v2) 266 ((126 + (3 * l1)).toNatClampNeg) 0))) (
                ic (v2 = 1) (
                  cIn (call 220 [vR 12 0 253, vI 0, vI 20] (sI (sI M1 253 7 ((M1.1 253 7) + 1)) 266 ((125 + (3 * l1)).toNatClampNeg) v2)) fun v6 M5 =>
                  ic (126 + (3 * l1) < 0 ∨ 250 ≤ (126 + (3 * l1)).toNatClampNeg) none (
                    back 123 [some (vR 12 0 253), some (vI l1), some (vI v2)] (sI M5 266 ((126 + (3 * l1)).toNatClampNeg) v6))) (
                  cIn (call 220 [vR 12 0 253, vI 0, vI 40] (sI (sI M1 253 7 ((M1.1 253 7) + 1)) 266 ((125 + (3 * l1)).toNatClampNeg) v2)) fun v4 M3 =>
                  ic (126 + (3 * l1) < 0 ∨ 250 ≤ (126 + (3 * l1)).toNatClampNeg) none (
                    back 123 [some (vR 12 0 253), some (vI l1), some (vI v2)] (sI M3 266 ((126 + (3 * l1)).toNatClampNeg) v4)))))))))) (
    back 170 [some (vR 12 0 253), some (vI l1), o2] M) := rfl
set_option maxRecDepth 100000 in
theorem e235_11 (d F : Nat) (l1 : Int32) (o2 : Option AV) (M : Mem) : lp d 235 (F + 1) 11 [some (vR 12 0 253), some (vI l1), o2] M =
  ic (M.1 253 8 = 0) (
    ic (M.1 253 7 < 0 ∨ 1002 ≤ (M.1 253 7).toNatClampNeg) none (
      ic (M.1 255 (M.1 253 7).toNatClampNeg = 0) (
        lp d 235 F 170 [some (vR 12 0 253), some (vI l1), o2] M) (
        cIn (evD d 211 [vR 12 0 253, vI 14, vI 5] M) fun v2 M1 =>
        ic (v2 < 0) (
          cVd (evD d 208 [vR 12 0 253, vI 1] M1) fun M8 =>
          lp d 235 F 161 [some (vR 12 0 253), some (vI l1), some (vI v2)] M8) (
          ic (l1 = 40) (
            cVd (evD d 208 [vR 12 0 253, vI 5] M1) fun M7 =>
            lp d 235 F 161 [some (vR 12 0 253), some (vI l1), some (vI v2)] M7) (
            ic (125 + (3 * l1) < 0 ∨ 250 ≤ (125 + (3 * l1)).toNatClampNeg) none (
              ic (v2 = 4) (
                ic (126 + (3 * l1) < 0 ∨ 250 ≤ (126 + (3 * l1)).toNatClampNeg) none (
                  lp d 235 F 123 [some (vR 12 0 253), some (vI l1), some (vI v2)] (sI (sI (sI M1 253 7 ((M1.1 253 7) + 1)) 266 ((125 + (3 * l1)).toNatClampNeg) v2) 266 ((126 + (3 * l1)).toNatClampNeg) 0))) (
                ic (v2 = 1) (
                  cIn (evD d 220 [vR 12 0 253, vI 0, vI 20] (sI (sI M1 253 7 ((M1.1 253 7) + 1)) 266 ((125 + (3 * l1)).toNatClampNeg) v2)) fun v6 M5 =>
                  ic (126 + (3 * l1) < 0 ∨ 250 ≤ (126 + (3 * l1)).toNatClampNeg) none (
                    lp d 235 F 123 [some (vR 12 0 253), some (vI l1), some (vI v2)] (sI M5 266 ((126 + (3 * l1)).toNatClampNeg) v6))) (
                  cIn (evD d 220 [vR 12 0 253, vI 0, vI 40] (sI (sI M1 253 7 ((M1.1 253 7) + 1)) 266 ((125 + (3 * l1)).toNatClampNeg) v2)) fun v4 M3 =>
                  ic (126 + (3 * l1) < 0 ∨ 250 ≤ (126 + (3 * l1)).toNatClampNeg) none (
                    lp d 235 F 123 [some (vR 12 0 253), some (vI l1), some (vI v2)] (sI M3 266 ((126 + (3 * l1)).toNatClampNeg) v4)))))))))) (
    lp d 235 F 170 [some (vR 12 0 253), some (vI l1), o2] M) := ((evp_step (code := lkE (codT 235)) (hd := hdT 235) (call := evD d) (F := F) (pc := 11) (lv := [some (vR 12 0 253), some (vI l1), o2]) (M := M) (e := (.aload_n 0, 1, 0, 0, 0, 0, 0)) rfl).trans (g235_11 (evD d) (evp (lkE (codT 235)) (hdT 235) (evD d) F) l1 o2 M))
set_option maxRecDepth 100000 in
theorem g235_170 (call : Nat → List AV → Mem → Res) (back : Nat → Lv → Mem → Res) (l1 : Int32) (o2 : Option AV) (M : Mem) : stepK call back (evj (lkE cd_235) [11, 123, 158, 161, 170, 191] call back 4000) (.aload_n 0, 1, 0, 0, 0, 0, 0) 170 [some (vR 12 0 253), some (vI l1), o2] [] M =
  ic (0 < M.1 253 8) (
    some (some (vI (M.1 253 8)), M)) (
    ic ((0 : Int32) < 0 ∨ 250 ≤ (0 : Int32).toNatClampNeg) none (
      back 191 [some (vR 12 0 253), some (vI l1), some (vI 0)] (sI M 266 ((0 : Int32).toNatClampNeg) l1))) := rfl
set_option maxRecDepth 100000 in
theorem e235_170 (d F : Nat) (l1 : Int32) (o2 : Option AV) (M : Mem) : lp d 235 (F + 1) 170 [some (vR 12 0 253), some (vI l1), o2] M =
  ic (0 < M.1 253 8) (
    some (some (vI (M.1 253 8)), M)) (
    lp d 235 F 191 [some (vR 12 0 253), some (vI l1), some (vI 0)] (sI M 266 0 l1)) := ((evp_step (code := lkE (codT 235)) (hd := hdT 235) (call := evD d) (F := F) (pc := 170) (lv := [some (vR 12 0 253), some (vI l1), o2]) (M := M) (e := (.aload_n 0, 1, 0, 0, 0, 0, 0)) rfl).trans (g235_170 (evD d) (evp (lkE (codT 235)) (hdT 235) (evD d) F) l1 o2 M)).trans (by (try simp only [ic_f (show ¬ ((0 : Int32) < 0 ∨ 250 ≤ (0 : Int32).toNatClampNeg) by decide)]); (try simp only [show (0 : Int32).toNatClampNeg = 0 from rfl]))
set_option maxRecDepth 100000 in
theorem g235_123 (call : Nat → List AV → Mem → Res) (back : Nat → Lv → Mem → Res) (l1 : Int32) (l2 : Int32) (M : Mem) : stepK call back (evj (lkE cd_235) [11, 123, 158, 161, 170, 191] call back 4000) (.aload_n 0, 1, 0, 0, 0, 0, 0) 123 [some (vR 12 0 253), some (vI l1), some (vI l2)] [] M =
  ic (1 < l2) (
    ic (127 + (3 * l1) < 0 ∨ 250 ≤ (127 + (3 * l1)).toNatClampNeg) none (
      back 158 [some (vR 12 0 253), some (vI l1), some (vI l2)] (sI M 266 ((127 + (3 * l1)).toNatClampNeg) 0))) (
    ic (l2 = 0) (
      cIn (call 220 [vR 12 0 253, vI 0, vI 0] M) fun v4 M3 =>
      ic (127 + (3 * l1) < 0 ∨ 250 ≤ (127 + (3 * l1)).toNatClampNeg) none (
        back 158 [some (vR 12 0 253), some (vI l1), some (vI l2)] (sI M3 266 ((127 + (3 * l1)).toNatClampNeg) v4))) (
      cIn (call 220 [vR 12 0 253, vI 0, vI 40] M) fun v2 M1 =>
      ic (127 + (3 * l1) < 0 ∨ 250 ≤ (127 + (3 * l1)).toNatClampNeg) none (
        back 158 [some (vR 12 0 253), some (vI l1), some (vI l2)] (sI M1 266 ((127 + (3 * l1)).toNatClampNeg) v2)))) := rfl
set_option maxRecDepth 100000 in
theorem e235_123 (d F : Nat) (l1 : Int32) (l2 : Int32) (M : Mem) : lp d 235 (F + 1) 123 [some (vR 12 0 253), some (vI l1), some (vI l2)] M =
  ic (1 < l2) (
    ic (127 + (3 * l1) < 0 ∨ 250 ≤ (127 + (3 * l1)).toNatClampNeg) none (
      lp d 235 F 158 [some (vR 12 0 253), some (vI l1), some (vI l2)] (sI M 266 ((127 + (3 * l1)).toNatClampNeg) 0))) (
    ic (l2 = 0) (
      cIn (evD d 220 [vR 12 0 253, vI 0, vI 0] M) fun v4 M3 =>
      ic (127 + (3 * l1) < 0 ∨ 250 ≤ (127 + (3 * l1)).toNatClampNeg) none (
        lp d 235 F 158 [some (vR 12 0 253), some (vI l1), some (vI l2)] (sI M3 266 ((127 + (3 * l1)).toNatClampNeg) v4))) (
      cIn (evD d 220 [vR 12 0 253, vI 0, vI 40] M) fun v2 M1 =>
      ic (127 + (3 * l1) < 0 ∨ 250 ≤ (127 + (3 * l1)).toNatClampNeg) none (
        lp d 235 F 158 [some (vR 12 0 253), some (vI l1), some (vI l2)] (sI M1 266 ((127 + (3 * l1)).toNatClampNeg) v2)))) := ((evp_step (code := lkE (codT 235)) (hd := hdT 235) (call := evD d) (F := F) (pc := 123) (lv := [some (vR 12 0 253), some (vI l1), some (vI l2)]) (M := M) (e := (.aload_n 0, 1, 0, 0, 0, 0, 0)) rfl).trans (g235_123 (evD d) (evp (lkE (codT 235)) (hdT 235) (evD d) F) l1 l2 M))
set_option maxRecDepth 100000 in
theorem g235_161 (call : Nat → List AV → Mem → Res) (back : Nat → Lv → Mem → Res) (l1 : Int32) (o2 : Option AV) (M : Mem) : stepK call back (evj (lkE cd_235) [11, 123, 158, 161, 170, 191] call back 4000) (.aload_n 0, 1, 0, 0, 0, 0, 0) 161 [some (vR 12 0 253), some (vI l1), o2] [] M =
  cVd (call 234 [vR 12 0 253, vI 59] M) fun M1 =>
  back 11 [some (vR 12 0 253), some (vI l1), o2] M1 := rfl
set_option maxRecDepth 100000 in
theorem e235_161 (d F : Nat) (l1 : Int32) (o2 : Option AV) (M : Mem) : lp d 235 (F + 1) 161 [some (vR 12 0 253), some (vI l1), o2] M =
  cVd (evD d 234 [vR 12 0 253, vI 59] M) fun M1 =>
  lp d 235 F 11 [some (vR 12 0 253), some (vI l1), o2] M1 := ((evp_step (code := lkE (codT 235)) (hd := hdT 235) (call := evD d) (F := F) (pc := 161) (lv := [some (vR 12 0 253), some (vI l1), o2]) (M := M) (e := (.aload_n 0, 1, 0, 0, 0, 0, 0)) rfl).trans (g235_161 (evD d) (evp (lkE (codT 235)) (hdT 235) (evD d) F) l1 o2 M))
set_option maxRecDepth 100000 in
theorem g235_191 (call : Nat → List AV → Mem → Res) (back : Nat → Lv → Mem → Res) (l1 : Int32) (l2 : Int32) (M : Mem) : stepK call back (evj (lkE cd_235) [11, 123, 158, 161, 170, 191] call back 4000) (.iload_n 2, 1, 2, 0, 0, 0, 0) 191 [some (vR 12 0 253), some (vI l1), some (vI l2)] [] M =
  ic (l2 < 3 * l1) (
    ic (125 + l2 < 0 ∨ 250 ≤ (125 + l2).toNatClampNeg) none (
      ic (1 + l2 < 0 ∨ 250 ≤ (1 + l2).toNatClampNeg) none (
        back 191 [some (vR 12 0 253), some (vI l1), some (vI (l2 + 1))] (sI M 266 ((1 + l2).toNatClampNeg) (M.1 266 (125 + l2).toNatClampNeg))))) (
    some (some (vI 0), M)) := rfl
set_option maxRecDepth 100000 in
theorem e235_191 (d F : Nat) (l1 : Int32) (l2 : Int32) (M : Mem) : lp d 235 (F + 1) 191 [some (vR 12 0 253), some (vI l1), some (vI l2)] M =
  ic (l2 < 3 * l1) (
    ic (125 + l2 < 0 ∨ 250 ≤ (125 + l2).toNatClampNeg) none (
      ic (1 + l2 < 0 ∨ 250 ≤ (1 + l2).toNatClampNeg) none (
        lp d 235 F 191 [some (vR 12 0 253), some (vI l1), some (vI (l2 + 1))] (sI M 266 ((1 + l2).toNatClampNeg) (M.1 266 (125 + l2).toNatClampNeg))))) (
    some (some (vI 0), M)) := ((evp_step (code := lkE (codT 235)) (hd := hdT 235) (call := evD d) (F := F) (pc := 191) (lv := [some (vR 12 0 253), some (vI l1), some (vI l2)]) (M := M) (e := (.iload_n 2, 1, 2, 0, 0, 0, 0)) rfl).trans (g235_191 (evD d) (evp (lkE (codT 235)) (hdT 235) (evD d) F) l1 l2 M))
set_option maxRecDepth 100000 in
theorem g235_158 (call : Nat → List AV → Mem → Res) (back : Nat → Lv → Mem → Res) (l1 : Int32) (o2 : Option AV) (M : Mem) : stepK call back (evj (lkE cd_235) [11, 123, 158, 161, 170, 191] call back 4000) (.iinc 1 (1), 3, 1, 0, 0, 1, 0) 158 [some (vR 12 0 253), some (vI l1), o2] [] M =
  back 161 [some (vR 12 0 253), some (vI (l1 + 1)), o2] M := rfl
set_option maxRecDepth 100000 in
theorem e235_158 (d F : Nat) (l1 : Int32) (o2 : Option AV) (M : Mem) : lp d 235 (F + 1) 158 [some (vR 12 0 253), some (vI l1), o2] M =
  lp d 235 F 161 [some (vR 12 0 253), some (vI (l1 + 1)), o2] M := ((evp_step (code := lkE (codT 235)) (hd := hdT 235) (call := evD d) (F := F) (pc := 158) (lv := [some (vR 12 0 253), some (vI l1), o2]) (M := M) (e := (.iinc 1 (1), 3, 1, 0, 0, 1, 0)) rfl).trans (g235_158 (evD d) (evp (lkE (codT 235)) (hdT 235) (evD d) F) l1 o2 M))
-- IceParliamentModel act(II)I
set_option maxRecDepth 100000 in
theorem j236 (call : Nat → List AV → Mem → Res) (back : Nat → Lv → Mem → Res) (p0 : Int32) (p1 : Int32) (M : Mem) : evj (lkE cd_236) [23] call back 4000 0 [some (vR 12 0 253), some (vI p0), some (vI p1), none] [] M =
  cIn (call 237 [vR 12 0 253, vI p0] (sI M 253 0 0)) fun v2 M1 =>
  ic (v2 = 0) (
    back 23 [some (vR 12 0 253), some (vI p0), some (vI p1), none] M1) (
    cIn (call 222 [vI p1, vI 0, vI 8] M1) fun v4 M3 =>
    ic (v4 = 0) (
      back 23 [some (vR 12 0 253), some (vI p0), some (vI p1), none] M3) (
      cIn (call 238 [vR 12 0 253, vI 0, vI p0] M3) fun v6 M5 =>
      ic (p1 = Int32.ofInt (0)) (
        cIn (call 198 [vR 12 0 253, vI p0, vI 0] M5) fun v8 M7 =>
        some (some (vI v8), M7)) (
        ic (p1 = Int32.ofInt (1)) (
          ic (7 + p0 < 0 ∨ 1127 ≤ (7 + p0).toNatClampNeg) none (
            some (some (vI (M5.1 269 (7 + p0).toNatClampNeg)), M5))) (
          ic (p1 = Int32.ofInt (2)) (
            ic (13 + p0 < 0 ∨ 1127 ≤ (13 + p0).toNatClampNeg) none (
              some (some (vI (M5.1 269 (13 + p0).toNatClampNeg)), M5))) (
            ic (p1 = Int32.ofInt (3)) (
              cIn (call 239 [vR 12 0 253, vI p0] M5) fun v10 M9 =>
              some (some (vI v10), M9)) (
              ic (p1 = Int32.ofInt (4)) (
                ic (v6 = 0) (
                  some (some (vI (-1)), M5)) (
                  ic (19 + p0 < 0 ∨ 1127 ≤ (19 + p0).toNatClampNeg) none (
                    some (some (vI (M5.1 269 (19 + p0).toNatClampNeg)), M5)))) (
                ic (p1 = Int32.ofInt (5)) (
                  ic (25 + p0 < 0 ∨ 1127 ≤ (25 + p0).toNatClampNeg) none (
                    some (some (vI (M5.1 269 (25 + p0).toNatClampNeg)), M5))) (
                  ic (p1 = Int32.ofInt (6)) (
                    cIn (call 240 [vR 12 0 253, vI 0, vI p0] M5) fun v12 M11 =>
                    ic (v12 = 0) (
                      some (some (vI 0), M11)) (
                      some (some (vI 1), M11))) (
                    ic (p1 = Int32.ofInt (7)) (
                      ic (1 + p0 < 0 ∨ 1127 ≤ (1 + p0).toNatClampNeg) none (
                        ic (M5.1 269 (1 + p0).toNatClampNeg = 2) (
                          some (some (vI 1), M5)) (
                          some (some (vI 0), M5)))) (
                      ic (v6 = 0) (
                        some (some (vI 0), M5)) (
                        cIn (call 241 [vR 12 0 253, vI 0, vI p0, vI 0] M5) fun v14 M13 =>
                        some (some (vI v14), M13)))))))))))) := rfl
set_option maxRecDepth 100000 in
theorem e236 (d : Nat) (p0 : Int32) (p1 : Int32) (M : Mem) : evD (d + 1) 236 [vR 12 0 253, vI p0, vI p1] M =
  cIn (evD d 237 [vR 12 0 253, vI p0] (sI M 253 0 0)) fun v2 M1 =>
  ic (v2 = 0) (
    lp0 d 236 23 [some (vR 12 0 253), some (vI p0), some (vI p1), none] M1) (
    cIn (evD d 222 [vI p1, vI 0, vI 8] M1) fun v4 M3 =>
    ic (v4 = 0) (
      lp0 d 236 23 [some (vR 12 0 253), some (vI p0), some (vI p1), none] M3) (
      cIn (evD d 238 [vR 12 0 253, vI 0, vI p0] M3) fun v6 M5 =>
      ic (p1 = Int32.ofInt (0)) (
        cIn (evD d 198 [vR 12 0 253, vI p0, vI 0] M5) fun v8 M7 =>
        some (some (vI v8), M7)) (
        ic (p1 = Int32.ofInt (1)) (
          ic (7 + p0 < 0 ∨ 1127 ≤ (7 + p0).toNatClampNeg) none (
            some (some (vI (M5.1 269 (7 + p0).toNatClampNeg)), M5))) (
          ic (p1 = Int32.ofInt (2)) (
            ic (13 + p0 < 0 ∨ 1127 ≤ (13 + p0).toNatClampNeg) none (
              some (some (vI (M5.1 269 (13 + p0).toNatClampNeg)), M5))) (
            ic (p1 = Int32.ofInt (3)) (
              cIn (evD d 239 [vR 12 0 253, vI p0] M5) fun v10 M9 =>
              some (some (vI v10), M9)) (
              ic (p1 = Int32.ofInt (4)) (
                ic (v6 = 0) (
                  some (some (vI (-1)), M5)) (
                  ic (19 + p0 < 0 ∨ 1127 ≤ (19 + p0).toNatClampNeg) none (
                    some (some (vI (M5.1 269 (19 + p0).toNatClampNeg)), M5)))) (
                ic (p1 = Int32.ofInt (5)) (
                  ic (25 + p0 < 0 ∨ 1127 ≤ (25 + p0).toNatClampNeg) none (
                    some (some (vI (M5.1 269 (25 + p0).toNatClampNeg)), M5))) (
                  ic (p1 = Int32.ofInt (6)) (
                    cIn (evD d 240 [vR 12 0 253, vI 0, vI p0] M5) fun v12 M11 =>
                    ic (v12 = 0) (
                      some (some (vI 0), M11)) (
                      some (some (vI 1), M11))) (
                    ic (p1 = Int32.ofInt (7)) (
                      ic (1 + p0 < 0 ∨ 1127 ≤ (1 + p0).toNatClampNeg) none (
                        ic (M5.1 269 (1 + p0).toNatClampNeg = 2) (
                          some (some (vI 1), M5)) (
                          some (some (vI 0), M5)))) (
                      ic (v6 = 0) (
                        some (some (vI 0), M5)) (
                        cIn (evD d 241 [vR 12 0 253, vI 0, vI p0, vI 0] M5) fun v14 M13 =>
                        some (some (vI v14), M13)))))))))))) := ((evD_step (d := d) (x := 236) (as := [vR 12 0 253, vI p0, vI p1]) (M := M) (md := (⟨"IceParliamentModel", "act", "(II)I"⟩, prog_14_method_66_code, 4, (Option.some Jvm.ClassFile.FieldType.int), 12, 12)) rfl rfl).trans (j236 (evD d) (evp0 (lkE (codT 236)) (hdT 236) (evD d)) p0 p1 M))
set_option maxRecDepth 100000 in
theorem g236_23 (call : Nat → List AV → Mem → Res) (back : Nat → Lv → Mem → Res) (o0 : Option AV) (o1 : Option AV) (o2 : Option AV) (o3 : Option AV) (M : Mem) : stepK call back (evj (lkE cd_236) [23] call back 4000) (.iconst (-1), 1, 0, 0, 0, (-1), 0) 23 [o0, o1, o2, o3] [] M =
  some (some (vI (-1)), M) := rfl
set_option maxRecDepth 100000 in
theorem e236_23 (d F : Nat) (o0 : Option AV) (o1 : Option AV) (o2 : Option AV) (o3 : Option AV) (M : Mem) : lp d 236 (F + 1) 23 [o0, o1, o2, o3] M =
  some (some (vI (-1)), M) := ((evp_step (code := lkE (codT 236)) (hd := hdT 236) (call := evD d) (F := F) (pc := 23) (lv := [o0, o1, o2, o3]) (M := M) (e := (.iconst (-1), 1, 0, 0, 0, (-1), 0)) rfl).trans (g236_23 (evD d) (evp (lkE (codT 236)) (hdT 236) (evD d) F) o0 o1 o2 o3 M))
-- IceParliamentModel isAct(I)Z
set_option maxRecDepth 100000 in
theorem j237 (call : Nat → List AV → Mem → Res) (back : Nat → Lv → Mem → Res) (p0 : Int32) (M : Mem) : evj (lkE cd_237) [] call back 4000 0 [some (vR 12 0 253), some (vI p0)] [] M =
  ic (p0 < 0) (
    ic ((0 : Int32) &&& 1 = 0) (
      some (some (vI 0), M)) none) (
    cIn (call 197 [vR 12 0 253] M) fun v2 M1 =>
    ic (p0 < v2) (
      ic ((1 : Int32) &&& 1 = 1) (
        some (some (vI 1), M1)) none) (
      ic ((0 : Int32) &&& 1 = 0) (
        some (some (vI 0), M1)) none)) := rfl
set_option maxRecDepth 100000 in
theorem e237 (d : Nat) (p0 : Int32) (M : Mem) : evD (d + 1) 237 [vR 12 0 253, vI p0] M =
  ic (p0 < 0) (
    some (some (vI 0), M)) (
    cIn (evD d 197 [vR 12 0 253] M) fun v2 M1 =>
    ic (p0 < v2) (
      some (some (vI 1), M1)) (
      some (some (vI 0), M1))) := ((evD_step (d := d) (x := 237) (as := [vR 12 0 253, vI p0]) (M := M) (md := (⟨"IceParliamentModel", "isAct", "(I)Z"⟩, prog_14_method_53_code, 2, (Option.some Jvm.ClassFile.FieldType.boolean), 12, 12)) rfl rfl).trans (j237 (evD d) (evp0 (lkE (codT 237)) (hdT 237) (evD d)) p0 M)).trans (by (try simp only [ic_t (show (0 : Int32) &&& 1 = 0 by decide), ic_t (show (1 : Int32) &&& 1 = 1 by decide)]))
-- IceParliamentModel stood(II)Z
set_option maxRecDepth 100000 in
theorem j238 (call : Nat → List AV → Mem → Res) (back : Nat → Lv → Mem → Res) (p0 : Int32) (p1 : Int32) (M : Mem) : evj (lkE cd_238) [] call back 4000 0 [some (vR 12 0 253), some (vI p0), some (vI p1)] [] M =
  cIn (call 237 [vR 12 0 253, vI p1] M) fun v2 M1 =>
  ic (v2 = 0) (
    ic ((0 : Int32) &&& 1 = 0) (
      some (some (vI 0), M1)) none) (
    ic ((p0 + 1) + p1 < 0 ∨ 1127 ≤ ((p0 + 1) + p1).toNatClampNeg) none (
      ic (M1.1 269 ((p0 + 1) + p1).toNatClampNeg = 1) (
        ic ((1 : Int32) &&& 1 = 1) (
          some (some (vI 1), M1)) none) (
        ic ((0 : Int32) &&& 1 = 0) (
          some (some (vI 0), M1)) none))) := rfl
set_option maxRecDepth 100000 in
theorem e238 (d : Nat) (p0 : Int32) (p1 : Int32) (M : Mem) : evD (d + 1) 238 [vR 12 0 253, vI p0, vI p1] M =
  cIn (evD d 237 [vR 12 0 253, vI p1] M) fun v2 M1 =>
  ic (v2 = 0) (
    some (some (vI 0), M1)) (
    ic ((p0 + 1) + p1 < 0 ∨ 1127 ≤ ((p0 + 1) + p1).toNatClampNeg) none (
      ic (M1.1 269 ((p0 + 1) + p1).toNatClampNeg = 1) (
        some (some (vI 1), M1)) (
        some (some (vI 0), M1)))) := ((evD_step (d := d) (x := 238) (as := [vR 12 0 253, vI p0, vI p1]) (M := M) (md := (⟨"IceParliamentModel", "stood", "(II)Z"⟩, prog_14_method_56_code, 3, (Option.some Jvm.ClassFile.FieldType.boolean), 12, 12)) rfl rfl).trans (j238 (evD d) (evp0 (lkE (codT 238)) (hdT 238) (evD d)) p0 p1 M)).trans (by (try simp only [ic_t (show (0 : Int32) &&& 1 = 0 by decide), ic_t (show (1 : Int32) &&& 1 = 1 by decide)]))
-- IceParliamentModel needs(I)I
set_option maxRecDepth 100000 in
theorem j239 (call : Nat → List AV → Mem → Res) (back : Nat → Lv → Mem → Res) (p0 : Int32) (M : Mem) : evj (lkE cd_239) [] call back 4000 0 [some (vR 12 0 253), some (vI p0), none] [] M =
  cIn (call 198 [vR 12 0 253, vI p0, vI 2] M) fun v2 M1 =>
  ic ((2 : Int32) = 0) none (
    cIn (call 198 [vR 12 0 253, vI p0, vI 0] M1) fun v4 M3 =>
    ic (v4 = 1) (
      ic (v2 / 2 < 1) (
        some (some (vI 1), M3)) (
        some (some (vI (v2 / 2)), M3))) (
      cIn (call 198 [vR 12 0 253, vI p0, vI 2] M3) fun v6 M5 =>
      some (some (vI v6), M5))) := rfl
set_option maxRecDepth 100000 in
theorem e239 (d : Nat) (p0 : Int32) (M : Mem) : evD (d + 1) 239 [vR 12 0 253, vI p0] M =
  cIn (evD d 198 [vR 12 0 253, vI p0, vI 2] M) fun v2 M1 =>
  cIn (evD d 198 [vR 12 0 253, vI p0, vI 0] M1) fun v4 M3 =>
  ic (v4 = 1) (
    ic (v2 / 2 < 1) (
      some (some (vI 1), M3)) (
      some (some (vI (v2 / 2)), M3))) (
    cIn (evD d 198 [vR 12 0 253, vI p0, vI 2] M3) fun v6 M5 =>
    some (some (vI v6), M5)) := ((evD_step (d := d) (x := 239) (as := [vR 12 0 253, vI p0]) (M := M) (md := (⟨"IceParliamentModel", "needs", "(I)I"⟩, prog_14_method_57_code, 3, (Option.some Jvm.ClassFile.FieldType.int), 12, 12)) rfl rfl).trans (j239 (evD d) (evp0 (lkE (codT 239)) (hdT 239) (evD d)) p0 M)).trans (by (try simp only [ic_f (show ¬ ((2 : Int32) = 0) by decide)]))
-- IceParliamentModel inForce(II)Z
set_option maxRecDepth 100000 in
theorem j240 (call : Nat → List AV → Mem → Res) (back : Nat → Lv → Mem → Res) (p0 : Int32) (p1 : Int32) (M : Mem) : evj (lkE cd_240) [] call back 4000 0 [some (vR 12 0 253), some (vI p0), some (vI p1)] [] M =
  cIn (call 238 [vR 12 0 253, vI p0, vI p1] M) fun v2 M1 =>
  ic (v2 = 0) (
    ic ((0 : Int32) &&& 1 = 0) (
      some (some (vI 0), M1)) none) (
    ic ((p0 + 13) + p1 < 0 ∨ 1127 ≤ ((p0 + 13) + p1).toNatClampNeg) none (
      cIn (call 239 [vR 12 0 253, vI p1] M1) fun v4 M3 =>
      ic (M1.1 269 ((p0 + 13) + p1).toNatClampNeg < v4) (
        ic ((0 : Int32) &&& 1 = 0) (
          some (some (vI 0), M3)) none) (
        ic ((1 : Int32) &&& 1 = 1) (
          some (some (vI 1), M3)) none))) := rfl
set_option maxRecDepth 100000 in
theorem e240 (d : Nat) (p0 : Int32) (p1 : Int32) (M : Mem) : evD (d + 1) 240 [vR 12 0 253, vI p0, vI p1] M =
  cIn (evD d 238 [vR 12 0 253, vI p0, vI p1] M) fun v2 M1 =>
  ic (v2 = 0) (
    some (some (vI 0), M1)) (
    ic ((p0 + 13) + p1 < 0 ∨ 1127 ≤ ((p0 + 13) + p1).toNatClampNeg) none (
      cIn (evD d 239 [vR 12 0 253, vI p1] M1) fun v4 M3 =>
      ic (M1.1 269 ((p0 + 13) + p1).toNatClampNeg < v4) (
        some (some (vI 0), M3)) (
        some (some (vI 1), M3)))) := ((evD_step (d := d) (x := 240) (as := [vR 12 0 253, vI p0, vI p1]) (M := M) (md := (⟨"IceParliamentModel", "inForce", "(II)Z"⟩, prog_14_method_58_code, 3, (Option.some Jvm.ClassFile.FieldType.boolean), 12, 12)) rfl rfl).trans (j240 (evD d) (evp0 (lkE (codT 240)) (hdT 240) (evD d)) p0 p1 M)).trans (by (try simp only [ic_t (show (0 : Int32) &&& 1 = 0 by decide), ic_t (show (1 : Int32) &&& 1 = 1 by decide)]))
-- IceParliamentModel meltsNow(IIZ)I
set_option maxRecDepth 100000 in
theorem j241 (call : Nat → List AV → Mem → Res) (back : Nat → Lv → Mem → Res) (p0 : Int32) (p1 : Int32) (p2 : Int32) (M : Mem) : evj (lkE cd_241) [] call back 4000 0 [some (vR 12 0 253), some (vI p0), some (vI p1), some (vI p2), none] [] M =
  ic ((p0 + 19) + p1 < 0 ∨ 1127 ≤ ((p0 + 19) + p1).toNatClampNeg) none (
    ic ((p0 + 7) + p1 < 0 ∨ 1127 ≤ ((p0 + 7) + p1).toNatClampNeg) none (
      ic (p0 + 0 < 0 ∨ 1127 ≤ (p0 + 0).toNatClampNeg) none (
        cIn (call 242 [vR 12 0 253, vI p1, vI (M.1 269 ((p0 + 19) + p1).toNatClampNeg), vI (M.1 269 ((p0 + 7) + p1).toNatClampNeg), vI (M.1 269 (p0 + 0).toNatClampNeg), vI p2] M) fun v2 M1 =>
        ic ((p0 + 25) + p1 < 0 ∨ 1127 ≤ ((p0 + 25) + p1).toNatClampNeg) none (
          ic (v2 - (M1.1 269 ((p0 + 25) + p1).toNatClampNeg) < 0) (
            some (some (vI 0), M1)) (
            some (some (vI (v2 - (M1.1 269 ((p0 + 25) + p1).toNatClampNeg))), M1)))))) := rfl
set_option maxRecDepth 100000 in
theorem e241 (d : Nat) (p0 : Int32) (p1 : Int32) (p2 : Int32) (M : Mem) : evD (d + 1) 241 [vR 12 0 253, vI p0, vI p1, vI p2] M =
  ic ((p0 + 19) + p1 < 0 ∨ 1127 ≤ ((p0 + 19) + p1).toNatClampNeg) none (
    ic ((p0 + 7) + p1 < 0 ∨ 1127 ≤ ((p0 + 7) + p1).toNatClampNeg) none (
      ic (p0 + 0 < 0 ∨ 1127 ≤ (p0 + 0).toNatClampNeg) none (
        cIn (evD d 242 [vR 12 0 253, vI p1, vI (M.1 269 ((p0 + 19) + p1).toNatClampNeg), vI (M.1 269 ((p0 + 7) + p1).toNatClampNeg), vI (M.1 269 (p0 + 0).toNatClampNeg), vI p2] M) fun v2 M1 =>
        ic ((p0 + 25) + p1 < 0 ∨ 1127 ≤ ((p0 + 25) + p1).toNatClampNeg) none (
          ic (v2 - (M1.1 269 ((p0 + 25) + p1).toNatClampNeg) < 0) (
            some (some (vI 0), M1)) (
            some (some (vI (v2 - (M1.1 269 ((p0 + 25) + p1).toNatClampNeg))), M1)))))) := ((evD_step (d := d) (x := 241) (as := [vR 12 0 253, vI p0, vI p1, vI p2]) (M := M) (md := (⟨"IceParliamentModel", "meltsNow", "(IIZ)I"⟩, prog_14_method_63_code, 5, (Option.some Jvm.ClassFile.FieldType.int), 12, 12)) rfl rfl).trans (j241 (evD d) (evp0 (lkE (codT 241)) (hdT 241) (evD d)) p0 p1 p2 M))
-- IceParliamentModel meltOf(IIIIZ)I
set_option maxRecDepth 100000 in
theorem j242 (call : Nat → List AV → Mem → Res) (back : Nat → Lv → Mem → Res) (p0 : Int32) (p1 : Int32) (p2 : Int32) (p3 : Int32) (p4 : Int32) (M : Mem) : evj (lkE cd_242) [75, 100, 138, 161] call back 4000 0 [some (vR 12 0 253), some (vI p0), some (vI p1), some (vI p2), some (vI p3), some (vI p4), none, none] [] M =
  cIn (call 243 [vR 12 0 253, vI p3, vI p4] M) fun v2 M1 =>
  ic ((0 : Int32) < 0 ∨ 5 ≤ (0 : Int32).toNatClampNeg) none (
    ic (8 + p1 < 0 ∨ 220 ≤ (8 + p1).toNatClampNeg) none (
      ic ((1 : Int32) < 0 ∨ 5 ≤ (1 : Int32).toNatClampNeg) none (
        ic ((2 : Int32) < 0 ∨ 5 ≤ (2 : Int32).toNatClampNeg) none (
          ic ((6 : Int32) < 0 ∨ 220 ≤ (6 : Int32).toNatClampNeg) none (
            ic ((sI (sI (sI M1 267 ((0 : Int32).toNatClampNeg) v2) 267 ((1 : Int32).toNatClampNeg) ((sI M1 267 ((0 : Int32).toNatClampNeg) v2).1 259 (8 + p1).toNatClampNeg)) 267 ((2 : Int32).toNatClampNeg) p2).1 259 (6 : Int32).toNatClampNeg < 0) (
              ic ((0 : Int32) < 0 ∨ 5 ≤ (0 : Int32).toNatClampNeg) none (
                ic ((1 : Int32) < 0 ∨ 5 ≤ (1 : Int32).toNatClampNeg) none (
                  back 75 [some (vR 12 0 253), some (vI p0), some (vI p1), some (vI p2), some (vI p3), some (vI p4), some (vI (((sI (sI (sI M1 267 ((0 : Int32).toNatClampNeg) v2) 267 ((1 : Int32).toNatClampNeg) ((sI M1 267 ((0 : Int32).toNatClampNeg) v2).1 259 (8 + p1).toNatClampNeg)) 267 ((2 : Int32).toNatClampNeg) p2).1 267 (0 : Int32).toNatClampNeg) - ((sI (sI (sI M1 267 ((0 : Int32).toNatClampNeg) v2) 267 ((1 : Int32).toNatClampNeg) ((sI M1 267 ((0 : Int32).toNatClampNeg) v2).1 259 (8 + p1).toNatClampNeg)) 267 ((2 : Int32).toNatClampNeg) p2).1 267 (1 : Int32).toNatClampNeg))), none] (sI (sI (sI M1 267 ((0 : Int32).toNatClampNeg) v2) 267 ((1 : Int32).toNatClampNeg) ((sI M1 267 ((0 : Int32).toNatClampNeg) v2).1 259 (8 + p1).toNatClampNeg)) 267 ((2 : Int32).toNatClampNeg) p2)))) (
              ic ((6 : Int32) < 0 ∨ 220 ≤ (6 : Int32).toNatClampNeg) none (
                cIn (call 244 [vR 12 0 253, vI ((sI (sI (sI M1 267 ((0 : Int32).toNatClampNeg) v2) 267 ((1 : Int32).toNatClampNeg) ((sI M1 267 ((0 : Int32).toNatClampNeg) v2).1 259 (8 + p1).toNatClampNeg)) 267 ((2 : Int32).toNatClampNeg) p2).1 259 (6 : Int32).toNatClampNeg)] (sI (sI (sI M1 267 ((0 : Int32).toNatClampNeg) v2) 267 ((1 : Int32).toNatClampNeg) ((sI M1 267 ((0 : Int32).toNatClampNeg) v2).1 259 (8 + p1).toNatClampNeg)) 267 ((2 : Int32).toNatClampNeg) p2)) fun v4 M3 =>
                back 75 [some (vR 12 0 253), some (vI p0), some (vI p1), some (vI p2), some (vI p3), some (vI p4), some (vI v4), none] M3))))))) := rfl
set_option maxRecDepth 100000 in
theorem e242 (d : Nat) (p0 : Int32) (p1 : Int32) (p2 : Int32) (p3 : Int32) (p4 : Int32) (M : Mem) : evD (d + 1) 242 [vR 12 0 253, vI p0, vI p1, vI p2, vI p3, vI p4] M =
  cIn (evD d 243 [vR 12 0 253, vI p3, vI p4] M) fun v2 M1 =>
  ic (8 + p1 < 0 ∨ 220 ≤ (8 + p1).toNatClampNeg) none (
    ic ((sI (sI (sI M1 267 0 v2) 267 1 ((sI M1 267 0 v2).1 259 (8 + p1).toNatClampNeg)) 267 2 p2).1 259 6 < 0) (
      lp0 d 242 75 [some (vR 12 0 253), some (vI p0), some (vI p1), some (vI p2), some (vI p3), some (vI p4), some (vI (((sI (sI (sI M1 267 0 v2) 267 1 ((sI M1 267 0 v2).1 259 (8 + p1).toNatClampNeg)) 267 2 p2).1 267 0) - ((sI (sI (sI M1 267 0 v2) 267 1 ((sI M1 267 0 v2).1 259 (8 + p1).toNatClampNeg)) 267 2 p2).1 267 1))), none] (sI (sI (sI M1 267 0 v2) 267 1 ((sI M1 267 0 v2).1 259 (8 + p1).toNatClampNeg)) 267 2 p2)) (
      cIn (evD d 244 [vR 12 0 253, vI ((sI (sI (sI M1 267 0 v2) 267 1 ((sI M1 267 0 v2).1 259 (8 + p1).toNatClampNeg)) 267 2 p2).1 259 6)] (sI (sI (sI M1 267 0 v2) 267 1 ((sI M1 267 0 v2).1 259 (8 + p1).toNatClampNeg)) 267 2 p2)) fun v4 M3 =>
      lp0 d 242 75 [some (vR 12 0 253), some (vI p0), some (vI p1), some (vI p2), some (vI p3), some (vI p4), some (vI v4), none] M3)) := ((evD_step (d := d) (x := 242) (as := [vR 12 0 253, vI p0, vI p1, vI p2, vI p3, vI p4]) (M := M) (md := (⟨"IceParliamentModel", "meltOf", "(IIIIZ)I"⟩, prog_14_method_62_code, 8, (Option.some Jvm.ClassFile.FieldType.int), 12, 12)) rfl rfl).trans (j242 (evD d) (evp0 (lkE (codT 242)) (hdT 242) (evD d)) p0 p1 p2 p3 p4 M)).trans (by (try simp only [ic_f (show ¬ ((0 : Int32) < 0 ∨ 5 ≤ (0 : Int32).toNatClampNeg) by decide), ic_f (show ¬ ((1 : Int32) < 0 ∨ 5 ≤ (1 : Int32).toNatClampNeg) by decide), ic_f (show ¬ ((2 : Int32) < 0 ∨ 5 ≤ (2 : Int32).toNatClampNeg) by decide), ic_f (show ¬ ((6 : Int32) < 0 ∨ 220 ≤ (6 : Int32).toNatClampNeg) by decide)]); (try simp only [show (0 : Int32).toNatClampNeg = 0 from rfl, show (1 : Int32).toNatClampNeg = 1 from rfl, show (2 : Int32).toNatClampNeg = 2 from rfl, show (6 : Int32).toNatClampNeg = 6 from rfl]))
set_option maxRecDepth 100000 in
theorem g242_75a (call : Nat → List AV → Mem → Res) (back : Nat → Lv → Mem → Res) (l1 : Int32) (l2 : Int32) (o3 : Option AV) (o4 : Option AV) (l6 : Int32) (o7 : Option AV) (M : Mem) : stepK call back (evj (lkE cd_242) [75, 100, 138, 161] call back 4000) (.iload 6, 2, 6, 0, 0, 0, 0) 75 [some (vR 12 0 253), some (vI l1), some (vI l2), o3, o4, none, some (vI l6), o7] [] M =
  ic (l6 < 0) (
    back 100 [some (vR 12 0 253), some (vI l1), some (vI l2), o3, o4, none, some (vI 0), o7] M) (
    ic (9 < l6) (
      back 100 [some (vR 12 0 253), some (vI l1), some (vI l2), o3, o4, none, some (vI 9), o7] M) (
      back 100 [some (vR 12 0 253), some (vI l1), some (vI l2), o3, o4, none, some (vI l6), o7] M)) := rfl
set_option maxRecDepth 100000 in
theorem e242_75a (d F : Nat) (l1 : Int32) (l2 : Int32) (o3 : Option AV) (o4 : Option AV) (l6 : Int32) (o7 : Option AV) (M : Mem) : lp d 242 (F + 1) 75 [some (vR 12 0 253), some (vI l1), some (vI l2), o3, o4, none, some (vI l6), o7] M =
  ic (l6 < 0) (
    lp d 242 F 100 [some (vR 12 0 253), some (vI l1), some (vI l2), o3, o4, none, some (vI 0), o7] M) (
    ic (9 < l6) (
      lp d 242 F 100 [some (vR 12 0 253), some (vI l1), some (vI l2), o3, o4, none, some (vI 9), o7] M) (
      lp d 242 F 100 [some (vR 12 0 253), some (vI l1), some (vI l2), o3, o4, none, some (vI l6), o7] M)) := ((evp_step (code := lkE (codT 242)) (hd := hdT 242) (call := evD d) (F := F) (pc := 75) (lv := [some (vR 12 0 253), some (vI l1), some (vI l2), o3, o4, none, some (vI l6), o7]) (M := M) (e := (.iload 6, 2, 6, 0, 0, 0, 0)) rfl).trans (g242_75a (evD d) (evp (lkE (codT 242)) (hdT 242) (evD d) F) l1 l2 o3 o4 l6 o7 M))
set_option maxRecDepth 100000 in
theorem g242_75b (call : Nat → List AV → Mem → Res) (back : Nat → Lv → Mem → Res) (l1 : Int32) (l2 : Int32) (o3 : Option AV) (o4 : Option AV) (o5 : Int32) (l6 : Int32) (o7 : Option AV) (M : Mem) : stepK call back (evj (lkE cd_242) [75, 100, 138, 161] call back 4000) (.iload 6, 2, 6, 0, 0, 0, 0) 75 [some (vR 12 0 253), some (vI l1), some (vI l2), o3, o4, some (vI o5), some (vI l6), o7] [] M =
  ic (l6 < 0) (
    back 100 [some (vR 12 0 253), some (vI l1), some (vI l2), o3, o4, some (vI o5), some (vI 0), o7] M) (
    ic (9 < l6) (
      back 100 [some (vR 12 0 253), some (vI l1), some (vI l2), o3, o4, some (vI o5), some (vI 9), o7] M) (
      back 100 [some (vR 12 0 253), some (vI l1), some (vI l2), o3, o4, some (vI o5), some (vI l6), o7] M)) := rfl
set_option maxRecDepth 100000 in
theorem e242_75b (d F : Nat) (l1 : Int32) (l2 : Int32) (o3 : Option AV) (o4 : Option AV) (o5 : Int32) (l6 : Int32) (o7 : Option AV) (M : Mem) : lp d 242 (F + 1) 75 [some (vR 12 0 253), some (vI l1), some (vI l2), o3, o4, some (vI o5), some (vI l6), o7] M =
  ic (l6 < 0) (
    lp d 242 F 100 [some (vR 12 0 253), some (vI l1), some (vI l2), o3, o4, some (vI o5), some (vI 0), o7] M) (
    ic (9 < l6) (
      lp d 242 F 100 [some (vR 12 0 253), some (vI l1), some (vI l2), o3, o4, some (vI o5), some (vI 9), o7] M) (
      lp d 242 F 100 [some (vR 12 0 253), some (vI l1), some (vI l2), o3, o4, some (vI o5), some (vI l6), o7] M)) := ((evp_step (code := lkE (codT 242)) (hd := hdT 242) (call := evD d) (F := F) (pc := 75) (lv := [some (vR 12 0 253), some (vI l1), some (vI l2), o3, o4, some (vI o5), some (vI l6), o7]) (M := M) (e := (.iload 6, 2, 6, 0, 0, 0, 0)) rfl).trans (g242_75b (evD d) (evp (lkE (codT 242)) (hdT 242) (evD d) F) l1 l2 o3 o4 o5 l6 o7 M))
set_option maxRecDepth 100000 in
theorem g242_100a (call : Nat → List AV → Mem → Res) (back : Nat → Lv → Mem → Res) (l1 : Int32) (l2 : Int32) (o3 : Option AV) (o4 : Option AV) (l6 : Int32) (o7 : Option AV) (M : Mem) : stepK call back (evj (lkE cd_242) [75, 100, 138, 161] call back 4000) (.aload_n 0, 1, 0, 0, 0, 0, 0) 100 [some (vR 12 0 253), some (vI l1), some (vI l2), o3, o4, none, some (vI l6), o7] [] M =
  cIn (call 198 [vR 12 0 253, vI l1, vI 0] M) fun v2 M1 =>
  ic (v2 = 1) (
    back 138 [some (vR 12 0 253), some (vI l1), some (vI l2), o3, o4, none, some (vI (l6 + 1)), some (vI v2)] M1) (
    ic (v2 = 2) (
      ic ((2 : Int32) = 0) none (
        back 138 [some (vR 12 0 253), some (vI l1), some (vI l2), o3, o4, none, some (vI (l6 / 2)), some (vI v2)] M1)) (
      back 138 [some (vR 12 0 253), some (vI l1), some (vI l2), o3, o4, none, some (vI l6), some (vI v2)] M1)) := rfl
set_option maxRecDepth 100000 in
theorem e242_100a (d F : Nat) (l1 : Int32) (l2 : Int32) (o3 : Option AV) (o4 : Option AV) (l6 : Int32) (o7 : Option AV) (M : Mem) : lp d 242 (F + 1) 100 [some (vR 12 0 253), some (vI l1), some (vI l2), o3, o4, none, some (vI l6), o7] M =
  cIn (evD d 198 [vR 12 0 253, vI l1, vI 0] M) fun v2 M1 =>
  ic (v2 = 1) (
    lp d 242 F 138 [some (vR 12 0 253), some (vI l1), some (vI l2), o3, o4, none, some (vI (l6 + 1)), some (vI v2)] M1) (
    ic (v2 = 2) (
      lp d 242 F 138 [some (vR 12 0 253), some (vI l1), some (vI l2), o3, o4, none, some (vI (l6 / 2)), some (vI v2)] M1) (
      lp d 242 F 138 [some (vR 12 0 253), some (vI l1), some (vI l2), o3, o4, none, some (vI l6), some (vI v2)] M1)) := ((evp_step (code := lkE (codT 242)) (hd := hdT 242) (call := evD d) (F := F) (pc := 100) (lv := [some (vR 12 0 253), some (vI l1), some (vI l2), o3, o4, none, some (vI l6), o7]) (M := M) (e := (.aload_n 0, 1, 0, 0, 0, 0, 0)) rfl).trans (g242_100a (evD d) (evp (lkE (codT 242)) (hdT 242) (evD d) F) l1 l2 o3 o4 l6 o7 M)).trans (by (try simp only [ic_f (show ¬ ((2 : Int32) = 0) by decide)]))
set_option maxRecDepth 100000 in
theorem g242_100b (call : Nat → List AV → Mem → Res) (back : Nat → Lv → Mem → Res) (l1 : Int32) (l2 : Int32) (o3 : Option AV) (o4 : Option AV) (o5 : Int32) (l6 : Int32) (o7 : Option AV) (M : Mem) : stepK call back (evj (lkE cd_242) [75, 100, 138, 161] call back 4000) (.aload_n 0, 1, 0, 0, 0, 0, 0) 100 [some (vR 12 0 253), some (vI l1), some (vI l2), o3, o4, some (vI o5), some (vI l6), o7] [] M =
  cIn (call 198 [vR 12 0 253, vI l1, vI 0] M) fun v2 M1 =>
  ic (v2 = 1) (
    back 138 [some (vR 12 0 253), some (vI l1), some (vI l2), o3, o4, some (vI o5), some (vI (l6 + 1)), some (vI v2)] M1) (
    ic (v2 = 2) (
      ic ((2 : Int32) = 0) none (
        back 138 [some (vR 12 0 253), some (vI l1), some (vI l2), o3, o4, some (vI o5), some (vI (l6 / 2)), some (vI v2)] M1)) (
      back 138 [some (vR 12 0 253), some (vI l1), some (vI l2), o3, o4, some (vI o5), some (vI l6), some (vI v2)] M1)) := rfl
set_option maxRecDepth 100000 in
theorem e242_100b (d F : Nat) (l1 : Int32) (l2 : Int32) (o3 : Option AV) (o4 : Option AV) (o5 : Int32) (l6 : Int32) (o7 : Option AV) (M : Mem) : lp d 242 (F + 1) 100 [some (vR 12 0 253), some (vI l1), some (vI l2), o3, o4, some (vI o5), some (vI l6), o7] M =
  cIn (evD d 198 [vR 12 0 253, vI l1, vI 0] M) fun v2 M1 =>
  ic (v2 = 1) (
    lp d 242 F 138 [some (vR 12 0 253), some (vI l1), some (vI l2), o3, o4, some (vI o5), some (vI (l6 + 1)), some (vI v2)] M1) (
    ic (v2 = 2) (
      lp d 242 F 138 [some (vR 12 0 253), some (vI l1), some (vI l2), o3, o4, some (vI o5), some (vI (l6 / 2)), some (vI v2)] M1) (
      lp d 242 F 138 [some (vR 12 0 253), some (vI l1), some (vI l2), o3, o4, some (vI o5), some (vI l6), some (vI v2)] M1)) := ((evp_step (code := lkE (codT 242)) (hd := hdT 242) (call := evD d) (F := F) (pc := 100) (lv := [some (vR 12 0 253), some (vI l1), some (vI l2), o3, o4, some (vI o5), some (vI l6), o7]) (M := M) (e := (.aload_n 0, 1, 0, 0, 0, 0, 0)) rfl).trans (g242_100b (evD d) (evp (lkE (codT 242)) (hdT 242) (evD d) F) l1 l2 o3 o4 o5 l6 o7 M)).trans (by (try simp only [ic_f (show ¬ ((2 : Int32) = 0) by decide)]))
set_option maxRecDepth 100000 in
theorem g242_138 (call : Nat → List AV → Mem → Res) (back : Nat → Lv → Mem → Res) (o1 : Option AV) (l2 : Int32) (o3 : Option AV) (o4 : Option AV) (o5 : Option AV) (l6 : Int32) (l7 : Int32) (M : Mem) : stepK call back (evj (lkE cd_242) [75, 100, 138, 161] call back 4000) (.iload 7, 2, 7, 0, 0, 0, 0) 138 [some (vR 12 0 253), o1, some (vI l2), o3, o4, o5, some (vI l6), some (vI l7)] [] M =
  ic (l7 = 3) (
    ic (8 + l2 < 0 ∨ 220 ≤ (8 + l2).toNatClampNeg) none (
      ic (M.1 259 (8 + l2).toNatClampNeg < 5) (
        back 161 [some (vR 12 0 253), o1, some (vI l2), o3, o4, o5, some (vI l6), some (vI l7)] M) (
        some (some (vI 0), M)))) (
    back 161 [some (vR 12 0 253), o1, some (vI l2), o3, o4, o5, some (vI l6), some (vI l7)] M) := rfl
set_option maxRecDepth 100000 in
theorem e242_138 (d F : Nat) (o1 : Option AV) (l2 : Int32) (o3 : Option AV) (o4 : Option AV) (o5 : Option AV) (l6 : Int32) (l7 : Int32) (M : Mem) : lp d 242 (F + 1) 138 [some (vR 12 0 253), o1, some (vI l2), o3, o4, o5, some (vI l6), some (vI l7)] M =
  ic (l7 = 3) (
    ic (8 + l2 < 0 ∨ 220 ≤ (8 + l2).toNatClampNeg) none (
      ic (M.1 259 (8 + l2).toNatClampNeg < 5) (
        lp d 242 F 161 [some (vR 12 0 253), o1, some (vI l2), o3, o4, o5, some (vI l6), some (vI l7)] M) (
        some (some (vI 0), M)))) (
    lp d 242 F 161 [some (vR 12 0 253), o1, some (vI l2), o3, o4, o5, some (vI l6), some (vI l7)] M) := ((evp_step (code := lkE (codT 242)) (hd := hdT 242) (call := evD d) (F := F) (pc := 138) (lv := [some (vR 12 0 253), o1, some (vI l2), o3, o4, o5, some (vI l6), some (vI l7)]) (M := M) (e := (.iload 7, 2, 7, 0, 0, 0, 0)) rfl).trans (g242_138 (evD d) (evp (lkE (codT 242)) (hdT 242) (evD d) F) o1 l2 o3 o4 o5 l6 l7 M))
set_option maxRecDepth 100000 in
theorem g242_161 (call : Nat → List AV → Mem → Res) (back : Nat → Lv → Mem → Res) (o0 : Option AV) (o1 : Option AV) (o2 : Option AV) (o3 : Option AV) (o4 : Option AV) (o5 : Option AV) (l6 : Int32) (o7 : Option AV) (M : Mem) : stepK call back (evj (lkE cd_242) [75, 100, 138, 161] call back 4000) (.iload 6, 2, 6, 0, 0, 0, 0) 161 [o0, o1, o2, o3, o4, o5, some (vI l6), o7] [] M =
  some (some (vI l6), M) := rfl
set_option maxRecDepth 100000 in
theorem e242_161 (d F : Nat) (o0 : Option AV) (o1 : Option AV) (o2 : Option AV) (o3 : Option AV) (o4 : Option AV) (o5 : Option AV) (l6 : Int32) (o7 : Option AV) (M : Mem) : lp d 242 (F + 1) 161 [o0, o1, o2, o3, o4, o5, some (vI l6), o7] M =
  some (some (vI l6), M) := ((evp_step (code := lkE (codT 242)) (hd := hdT 242) (call := evD d) (F := F) (pc := 161) (lv := [o0, o1, o2, o3, o4, o5, some (vI l6), o7]) (M := M) (e := (.iload 6, 2, 6, 0, 0, 0, 0)) rfl).trans (g242_161 (evD d) (evp (lkE (codT 242)) (hdT 242) (evD d) F) o0 o1 o2 o3 o4 o5 l6 o7 M))
-- IceParliamentModel warmthOf(IZ)I
set_option maxRecDepth 100000 in
theorem j243 (call : Nat → List AV → Mem → Res) (back : Nat → Lv → Mem → Res) (p0 : Int32) (p1 : Int32) (M : Mem) : evj (lkE cd_243) [] call back 4000 0 [some (vR 12 0 253), some (vI p0), some (vI p1)] [] M =
  ic ((4 : Int32) < 0 ∨ 220 ≤ (4 : Int32).toNatClampNeg) none (
    ic (M.1 259 (4 : Int32).toNatClampNeg = 0) none (
      ic (92 + (p0 - p0 / (M.1 259 (4 : Int32).toNatClampNeg) * (M.1 259 (4 : Int32).toNatClampNeg)) < 0 ∨ 220 ≤ (92 + (p0 - p0 / (M.1 259 (4 : Int32).toNatClampNeg) * (M.1 259 (4 : Int32).toNatClampNeg))).toNatClampNeg) none (
        ic (p1 = 0) (
          some (some (vI ((M.1 259 (92 + (p0 - p0 / (M.1 259 (4 : Int32).toNatClampNeg) * (M.1 259 (4 : Int32).toNatClampNeg))).toNatClampNeg) + 0)), M)) (
          some (some (vI ((M.1 259 (92 + (p0 - p0 / (M.1 259 (4 : Int32).toNatClampNeg) * (M.1 259 (4 : Int32).toNatClampNeg))).toNatClampNeg) + 3)), M))))) := rfl
set_option maxRecDepth 100000 in
theorem e243 (d : Nat) (p0 : Int32) (p1 : Int32) (M : Mem) : evD (d + 1) 243 [vR 12 0 253, vI p0, vI p1] M =
  ic (M.1 259 4 = 0) none (
    ic (92 + (p0 - p0 / (M.1 259 4) * (M.1 259 4)) < 0 ∨ 220 ≤ (92 + (p0 - p0 / (M.1 259 4) * (M.1 259 4))).toNatClampNeg) none (
      ic (p1 = 0) (
        some (some (vI ((M.1 259 (92 + (p0 - p0 / (M.1 259 4) * (M.1 259 4))).toNatClampNeg) + 0)), M)) (
        some (some (vI ((M.1 259 (92 + (p0 - p0 / (M.1 259 4) * (M.1 259 4))).toNatClampNeg) + 3)), M)))) := ((evD_step (d := d) (x := 243) (as := [vR 12 0 253, vI p0, vI p1]) (M := M) (md := (⟨"IceParliamentModel", "warmthOf", "(IZ)I"⟩, prog_14_method_61_code, 3, (Option.some Jvm.ClassFile.FieldType.int), 12, 12)) rfl rfl).trans (j243 (evD d) (evp0 (lkE (codT 243)) (hdT 243) (evD d)) p0 p1 M)).trans (by (try simp only [ic_f (show ¬ ((4 : Int32) < 0 ∨ 220 ≤ (4 : Int32).toNatClampNeg) by decide)]); (try simp only [show (4 : Int32).toNatClampNeg = 4 from rfl]))
-- IceParliamentModel worthAt(I)I
set_option maxRecDepth 100000 in
theorem j244 (call : Nat → List AV → Mem → Res) (back : Nat → Lv → Mem → Res) (p0 : Int32) (M : Mem) : evj (lkE cd_244) [4, 33, 65, 101, 134] call back 4000 0 [some (vR 12 0 253), some (vI p0), none, none, none] [] M =
  back 4 [some (vR 12 0 253), some (vI p0), some (vI 0), some (vI p0), none] M := rfl
set_option maxRecDepth 100000 in
theorem e244 (d : Nat) (p0 : Int32) (M : Mem) : evD (d + 1) 244 [vR 12 0 253, vI p0] M =
  lp0 d 244 4 [some (vR 12 0 253), some (vI p0), some (vI 0), some (vI p0), none] M := ((evD_step (d := d) (x := 244) (as := [vR 12 0 253, vI p0]) (M := M) (md := (⟨"IceParliamentModel", "worthAt", "(I)I"⟩, prog_14_method_43_code, 5, (Option.some Jvm.ClassFile.FieldType.int), 12, 12)) rfl rfl).trans (j244 (evD d) (evp0 (lkE (codT 244)) (hdT 244) (evD d)) p0 M))
set_option maxRecDepth 100000 in
theorem g244_4a (call : Nat → List AV → Mem → Res) (back : Nat → Lv → Mem → Res) (l2 : Int32) (l3 : Int32) (o4 : Option AV) (M : Mem) : stepK call back (evj (lkE cd_244) [4, 33, 65, 101, 134] call back 4000) (.aload_n 0, 1, 0, 0, 0, 0, 0) 4 [some (vR 12 0 253), none, some (vI l2), some (vI l3), o4] [] M =
  ic (l3 < 0 ∨ 2200 ≤ l3.toNatClampNeg) none (
    ic (M.1 260 l3.toNatClampNeg = 0) (
      ic ((0 : Int32) < 0 ∨ 1100 ≤ (0 : Int32).toNatClampNeg) none (
        some (some (vI (M.1 268 (0 : Int32).toNatClampNeg)), M))) (
      ic (l3 < 0 ∨ 2200 ≤ l3.toNatClampNeg) none (
        ic (M.1 260 l3.toNatClampNeg = 1) (
          back 33 [some (vR 12 0 253), none, some (vI l2), some (vI l3), some (vI (M.1 260 l3.toNatClampNeg))] M) (
          ic (M.1 260 l3.toNatClampNeg = 2) (
            back 33 [some (vR 12 0 253), none, some (vI l2), some (vI l3), some (vI (M.1 260 l3.toNatClampNeg))] M) (
            ic (M.1 260 l3.toNatClampNeg = 3) (
              ic (l2 - 1 < 0 ∨ 1100 ≤ (l2 - 1).toNatClampNeg) none (
                ic (M.1 268 (l2 - 1).toNatClampNeg = 0) (
                  ic (l2 - 1 < 0 ∨ 1100 ≤ (l2 - 1).toNatClampNeg) none (
                    back 101 [some (vR 12 0 253), none, some (vI l2), some (vI l3), some (vI (M.1 260 l3.toNatClampNeg))] (sI M 268 ((l2 - 1).toNatClampNeg) 1))) (
                  ic (l2 - 1 < 0 ∨ 1100 ≤ (l2 - 1).toNatClampNeg) none (
                    back 101 [some (vR 12 0 253), none, some (vI l2), some (vI l3), some (vI (M.1 260 l3.toNatClampNeg))] (sI M 268 ((l2 - 1).toNatClampNeg) 0))))) (
              ic ((l2 + (-1)) - 1 < 0 ∨ 1100 ≤ ((l2 + (-1)) - 1).toNatClampNeg) none (
                ic (l2 + (-1) < 0 ∨ 1100 ≤ (l2 + (-1)).toNatClampNeg) none (
                  cIn (call 245 [vI (M.1 260 l3.toNatClampNeg), vI (M.1 268 ((l2 + (-1)) - 1).toNatClampNeg), vI (M.1 268 (l2 + (-1)).toNatClampNeg)] M) fun v2 M1 =>
                  ic ((l2 + (-1)) - 1 < 0 ∨ 1100 ≤ ((l2 + (-1)) - 1).toNatClampNeg) none (
                    back 134 [some (vR 12 0 253), none, some (vI (l2 + (-1))), some (vI l3), some (vI (M.1 260 l3.toNatClampNeg))] (sI M1 268 (((l2 + (-1)) - 1).toNatClampNeg) v2)))))))))) := rfl
set_option maxRecDepth 100000 in
theorem e244_4a (d F : Nat) (l2 : Int32) (l3 : Int32) (o4 : Option AV) (M : Mem) : lp d 244 (F + 1) 4 [some (vR 12 0 253), none, some (vI l2), some (vI l3), o4] M =
  ic (l3 < 0 ∨ 2200 ≤ l3.toNatClampNeg) none (
    ic (M.1 260 l3.toNatClampNeg = 0) (
      some (some (vI (M.1 268 0)), M)) (
      ic (l3 < 0 ∨ 2200 ≤ l3.toNatClampNeg) none (
        ic (M.1 260 l3.toNatClampNeg = 1) (
          lp d 244 F 33 [some (vR 12 0 253), none, some (vI l2), some (vI l3), some (vI (M.1 260 l3.toNatClampNeg))] M) (
          ic (M.1 260 l3.toNatClampNeg = 2) (
            lp d 244 F 33 [some (vR 12 0 253), none, some (vI l2), some (vI l3), some (vI (M.1 260 l3.toNatClampNeg))] M) (
            ic (M.1 260 l3.toNatClampNeg = 3) (
              ic (l2 - 1 < 0 ∨ 1100 ≤ (l2 - 1).toNatClampNeg) none (
                ic (M.1 268 (l2 - 1).toNatClampNeg = 0) (
                  ic (l2 - 1 < 0 ∨ 1100 ≤ (l2 - 1).toNatClampNeg) none (
                    lp d 244 F 101 [some (vR 12 0 253), none, some (vI l2), some (vI l3), some (vI (M.1 260 l3.toNatClampNeg))] (sI M 268 ((l2 - 1).toNatClampNeg) 1))) (
                  ic (l2 - 1 < 0 ∨ 1100 ≤ (l2 - 1).toNatClampNeg) none (
                    lp d 244 F 101 [some (vR 12 0 253), none, some (vI l2), some (vI l3), some (vI (M.1 260 l3.toNatClampNeg))] (sI M 268 ((l2 - 1).toNatClampNeg) 0))))) (
              ic ((l2 + (-1)) - 1 < 0 ∨ 1100 ≤ ((l2 + (-1)) - 1).toNatClampNeg) none (
                ic (l2 + (-1) < 0 ∨ 1100 ≤ (l2 + (-1)).toNatClampNeg) none (
                  cIn (evD d 245 [vI (M.1 260 l3.toNatClampNeg), vI (M.1 268 ((l2 + (-1)) - 1).toNatClampNeg), vI (M.1 268 (l2 + (-1)).toNatClampNeg)] M) fun v2 M1 =>
                  ic ((l2 + (-1)) - 1 < 0 ∨ 1100 ≤ ((l2 + (-1)) - 1).toNatClampNeg) none (
                    lp d 244 F 134 [some (vR 12 0 253), none, some (vI (l2 + (-1))), some (vI l3), some (vI (M.1 260 l3.toNatClampNeg))] (sI M1 268 (((l2 + (-1)) - 1).toNatClampNeg) v2)))))))))) := ((evp_step (code := lkE (codT 244)) (hd := hdT 244) (call := evD d) (F := F) (pc := 4) (lv := [some (vR 12 0 253), none, some (vI l2), some (vI l3), o4]) (M := M) (e := (.aload_n 0, 1, 0, 0, 0, 0, 0)) rfl).trans (g244_4a (evD d) (evp (lkE (codT 244)) (hdT 244) (evD d) F) l2 l3 o4 M)).trans (by (try simp only [ic_f (show ¬ ((0 : Int32) < 0 ∨ 1100 ≤ (0 : Int32).toNatClampNeg) by decide)]); (try simp only [show (0 : Int32).toNatClampNeg = 0 from rfl]))
set_option maxRecDepth 100000 in
theorem g244_4b (call : Nat → List AV → Mem → Res) (back : Nat → Lv → Mem → Res) (o1 : Int32) (l2 : Int32) (l3 : Int32) (o4 : Option AV) (M : Mem) : stepK call back (evj (lkE cd_244) [4, 33, 65, 101, 134] call back 4000) (.aload_n 0, 1, 0, 0, 0, 0, 0) 4 [some (vR 12 0 253), some (vI o1), some (vI l2), some (vI l3), o4] [] M =
  ic (l3 < 0 ∨ 2200 ≤ l3.toNatClampNeg) none (
    ic (M.1 260 l3.toNatClampNeg = 0) (
      ic ((0 : Int32) < 0 ∨ 1100 ≤ (0 : Int32).toNatClampNeg) none (
        some (some (vI (M.1 268 (0 : Int32).toNatClampNeg)), M))) (
      ic (l3 < 0 ∨ 2200 ≤ l3.toNatClampNeg) none (
        ic (M.1 260 l3.toNatClampNeg = 1) (
          back 33 [some (vR 12 0 253), some (vI o1), some (vI l2), some (vI l3), some (vI (M.1 260 l3.toNatClampNeg))] M) (
          ic (M.1 260 l3.toNatClampNeg = 2) (
            back 33 [some (vR 12 0 253), some (vI o1), some (vI l2), some (vI l3), some (vI (M.1 260 l3.toNatClampNeg))] M) (
            ic (M.1 260 l3.toNatClampNeg = 3) (
              ic (l2 - 1 < 0 ∨ 1100 ≤ (l2 - 1).toNatClampNeg) none (
                ic (M.1 268 (l2 - 1).toNatClampNeg = 0) (
                  ic (l2 - 1 < 0 ∨ 1100 ≤ (l2 - 1).toNatClampNeg) none (
                    back 101 [some (vR 12 0 253), some (vI o1), some (vI l2), some (vI l3), some (vI (M.1 260 l3.toNatClampNeg))] (sI M 268 ((l2 - 1).toNatClampNeg) 1))) (
                  ic (l2 - 1 < 0 ∨ 1100 ≤ (l2 - 1).toNatClampNeg) none (
                    back 101 [some (vR 12 0 253), some (vI o1), some (vI l2), some (vI l3), some (vI (M.1 260 l3.toNatClampNeg))] (sI M 268 ((l2 - 1).toNatClampNeg) 0))))) (
              ic ((l2 + (-1)) - 1 < 0 ∨ 1100 ≤ ((l2 + (-1)) - 1).toNatClampNeg) none (
                ic (l2 + (-1) < 0 ∨ 1100 ≤ (l2 + (-1)).toNatClampNeg) none (
                  cIn (call 245 [vI (M.1 260 l3.toNatClampNeg), vI (M.1 268 ((l2 + (-1)) - 1).toNatClampNeg), vI (M.1 268 (l2 + (-1)).toNatClampNeg)] M) fun v2 M1 =>
                  ic ((l2 + (-1)) - 1 < 0 ∨ 1100 ≤ ((l2 + (-1)) - 1).toNatClampNeg) none (
                    back 134 [some (vR 12 0 253), some (vI o1), some (vI (l2 + (-1))), some (vI l3), some (vI (M.1 260 l3.toNatClampNeg))] (sI M1 268 (((l2 + (-1)) - 1).toNatClampNeg) v2)))))))))) := rfl
set_option maxRecDepth 100000 in
theorem e244_4b (d F : Nat) (o1 : Int32) (l2 : Int32) (l3 : Int32) (o4 : Option AV) (M : Mem) : lp d 244 (F + 1) 4 [some (vR 12 0 253), some (vI o1), some (vI l2), some (vI l3), o4] M =
  ic (l3 < 0 ∨ 2200 ≤ l3.toNatClampNeg) none (
    ic (M.1 260 l3.toNatClampNeg = 0) (
      some (some (vI (M.1 268 0)), M)) (
      ic (l3 < 0 ∨ 2200 ≤ l3.toNatClampNeg) none (
        ic (M.1 260 l3.toNatClampNeg = 1) (
          lp d 244 F 33 [some (vR 12 0 253), some (vI o1), some (vI l2), some (vI l3), some (vI (M.1 260 l3.toNatClampNeg))] M) (
          ic (M.1 260 l3.toNatClampNeg = 2) (
            lp d 244 F 33 [some (vR 12 0 253), some (vI o1), some (vI l2), some (vI l3), some (vI (M.1 260 l3.toNatClampNeg))] M) (
            ic (M.1 260 l3.toNatClampNeg = 3) (
              ic (l2 - 1 < 0 ∨ 1100 ≤ (l2 - 1).toNatClampNeg) none (
                ic (M.1 268 (l2 - 1).toNatClampNeg = 0) (
                  ic (l2 - 1 < 0 ∨ 1100 ≤ (l2 - 1).toNatClampNeg) none (
                    lp d 244 F 101 [some (vR 12 0 253), some (vI o1), some (vI l2), some (vI l3), some (vI (M.1 260 l3.toNatClampNeg))] (sI M 268 ((l2 - 1).toNatClampNeg) 1))) (
                  ic (l2 - 1 < 0 ∨ 1100 ≤ (l2 - 1).toNatClampNeg) none (
                    lp d 244 F 101 [some (vR 12 0 253), some (vI o1), some (vI l2), some (vI l3), some (vI (M.1 260 l3.toNatClampNeg))] (sI M 268 ((l2 - 1).toNatClampNeg) 0))))) (
              ic ((l2 + (-1)) - 1 < 0 ∨ 1100 ≤ ((l2 + (-1)) - 1).toNatClampNeg) none (
                ic (l2 + (-1) < 0 ∨ 1100 ≤ (l2 + (-1)).toNatClampNeg) none (
                  cIn (evD d 245 [vI (M.1 260 l3.toNatClampNeg), vI (M.1 268 ((l2 + (-1)) - 1).toNatClampNeg), vI (M.1 268 (l2 + (-1)).toNatClampNeg)] M) fun v2 M1 =>
                  ic ((l2 + (-1)) - 1 < 0 ∨ 1100 ≤ ((l2 + (-1)) - 1).toNatClampNeg) none (
                    lp d 244 F 134 [some (vR 12 0 253), some (vI o1), some (vI (l2 + (-1))), some (vI l3), some (vI (M.1 260 l3.toNatClampNeg))] (sI M1 268 (((l2 + (-1)) - 1).toNatClampNeg) v2)))))))))) := ((evp_step (code := lkE (codT 244)) (hd := hdT 244) (call := evD d) (F := F) (pc := 4) (lv := [some (vR 12 0 253), some (vI o1), some (vI l2), some (vI l3), o4]) (M := M) (e := (.aload_n 0, 1, 0, 0, 0, 0, 0)) rfl).trans (g244_4b (evD d) (evp (lkE (codT 244)) (hdT 244) (evD d) F) o1 l2 l3 o4 M)).trans (by (try simp only [ic_f (show ¬ ((0 : Int32) < 0 ∨ 1100 ≤ (0 : Int32).toNatClampNeg) by decide)]); (try simp only [show (0 : Int32).toNatClampNeg = 0 from rfl]))
set_option maxRecDepth 100000 in
theorem g244_33 (call : Nat → List AV → Mem → Res) (back : Nat → Lv → Mem → Res) (o1 : Option AV) (l2 : Int32) (l3 : Int32) (l4 : Int32) (M : Mem) : stepK call back (evj (lkE cd_244) [4, 33, 65, 101, 134] call back 4000) (.aload_n 0, 1, 0, 0, 0, 0, 0) 33 [some (vR 12 0 253), o1, some (vI l2), some (vI l3), some (vI l4)] [] M =
  ic (l4 = 1) (
    ic (l3 < 0 ∨ 2200 ≤ l3.toNatClampNeg) none (
      ic (l2 < 0 ∨ 1100 ≤ l2.toNatClampNeg) none (
        back 65 [some (vR 12 0 253), o1, some (vI l2), some (vI l3), some (vI l4)] (sI M 268 l2.toNatClampNeg (M.1 261 l3.toNatClampNeg))))) (
    ic (l3 < 0 ∨ 2200 ≤ l3.toNatClampNeg) none (
      ic (M.1 261 l3.toNatClampNeg < 0 ∨ 5 ≤ (M.1 261 l3.toNatClampNeg).toNatClampNeg) none (
        ic (l2 < 0 ∨ 1100 ≤ l2.toNatClampNeg) none (
          back 65 [some (vR 12 0 253), o1, some (vI l2), some (vI l3), some (vI l4)] (sI M 268 l2.toNatClampNeg (M.1 267 (M.1 261 l3.toNatClampNeg).toNatClampNeg)))))) := rfl
set_option maxRecDepth 100000 in
theorem e244_33 (d F : Nat) (o1 : Option AV) (l2 : Int32) (l3 : Int32) (l4 : Int32) (M : Mem) : lp d 244 (F + 1) 33 [some (vR 12 0 253), o1, some (vI l2), some (vI l3), some (vI l4)] M =
  ic (l4 = 1) (
    ic (l3 < 0 ∨ 2200 ≤ l3.toNatClampNeg) none (
      ic (l2 < 0 ∨ 1100 ≤ l2.toNatClampNeg) none (
        lp d 244 F 65 [some (vR 12 0 253), o1, some (vI l2), some (vI l3), some (vI l4)] (sI M 268 l2.toNatClampNeg (M.1 261 l3.toNatClampNeg))))) (
    ic (l3 < 0 ∨ 2200 ≤ l3.toNatClampNeg) none (
      ic (M.1 261 l3.toNatClampNeg < 0 ∨ 5 ≤ (M.1 261 l3.toNatClampNeg).toNatClampNeg) none (
        ic (l2 < 0 ∨ 1100 ≤ l2.toNatClampNeg) none (
          lp d 244 F 65 [some (vR 12 0 253), o1, some (vI l2), some (vI l3), some (vI l4)] (sI M 268 l2.toNatClampNeg (M.1 267 (M.1 261 l3.toNatClampNeg).toNatClampNeg)))))) := ((evp_step (code := lkE (codT 244)) (hd := hdT 244) (call := evD d) (F := F) (pc := 33) (lv := [some (vR 12 0 253), o1, some (vI l2), some (vI l3), some (vI l4)]) (M := M) (e := (.aload_n 0, 1, 0, 0, 0, 0, 0)) rfl).trans (g244_33 (evD d) (evp (lkE (codT 244)) (hdT 244) (evD d) F) o1 l2 l3 l4 M))
set_option maxRecDepth 100000 in
theorem g244_134 (call : Nat → List AV → Mem → Res) (back : Nat → Lv → Mem → Res) (o1 : Option AV) (l2 : Int32) (l3 : Int32) (o4 : Option AV) (M : Mem) : stepK call back (evj (lkE cd_244) [4, 33, 65, 101, 134] call back 4000) (.iinc 3 (1), 3, 3, 0, 0, 1, 0) 134 [some (vR 12 0 253), o1, some (vI l2), some (vI l3), o4] [] M =
  back 4 [some (vR 12 0 253), o1, some (vI l2), some (vI (l3 + 1)), o4] M := rfl
set_option maxRecDepth 100000 in
theorem e244_134 (d F : Nat) (o1 : Option AV) (l2 : Int32) (l3 : Int32) (o4 : Option AV) (M : Mem) : lp d 244 (F + 1) 134 [some (vR 12 0 253), o1, some (vI l2), some (vI l3), o4] M =
  lp d 244 F 4 [some (vR 12 0 253), o1, some (vI l2), some (vI (l3 + 1)), o4] M := ((evp_step (code := lkE (codT 244)) (hd := hdT 244) (call := evD d) (F := F) (pc := 134) (lv := [some (vR 12 0 253), o1, some (vI l2), some (vI l3), o4]) (M := M) (e := (.iinc 3 (1), 3, 3, 0, 0, 1, 0)) rfl).trans (g244_134 (evD d) (evp (lkE (codT 244)) (hdT 244) (evD d) F) o1 l2 l3 o4 M))
set_option maxRecDepth 100000 in
theorem g244_101 (call : Nat → List AV → Mem → Res) (back : Nat → Lv → Mem → Res) (o1 : Option AV) (l2 : Int32) (l3 : Int32) (o4 : Option AV) (M : Mem) : stepK call back (evj (lkE cd_244) [4, 33, 65, 101, 134] call back 4000) (.goto (33), 3, 0, 134, 0, 0, 0) 101 [some (vR 12 0 253), o1, some (vI l2), some (vI l3), o4] [] M =
  back 134 [some (vR 12 0 253), o1, some (vI l2), some (vI l3), o4] M := rfl
set_option maxRecDepth 100000 in
theorem e244_101 (d F : Nat) (o1 : Option AV) (l2 : Int32) (l3 : Int32) (o4 : Option AV) (M : Mem) : lp d 244 (F + 1) 101 [some (vR 12 0 253), o1, some (vI l2), some (vI l3), o4] M =
  lp d 244 F 134 [some (vR 12 0 253), o1, some (vI l2), some (vI l3), o4] M := ((evp_step (code := lkE (codT 244)) (hd := hdT 244) (call := evD d) (F := F) (pc := 101) (lv := [some (vR 12 0 253), o1, some (vI l2), some (vI l3), o4]) (M := M) (e := (.goto (33), 3, 0, 134, 0, 0, 0)) rfl).trans (g244_101 (evD d) (evp (lkE (codT 244)) (hdT 244) (evD d) F) o1 l2 l3 o4 M))
set_option maxRecDepth 100000 in
theorem g244_65a (call : Nat → List AV → Mem → Res) (back : Nat → Lv → Mem → Res) (l2 : Int32) (l3 : Int32) (o4 : Option AV) (M : Mem) : stepK call back (evj (lkE cd_244) [4, 33, 65, 101, 134] call back 4000) (.iinc 2 (1), 3, 2, 0, 0, 1, 0) 65 [some (vR 12 0 253), none, some (vI l2), some (vI l3), o4] [] M =
  back 134 [some (vR 12 0 253), none, some (vI (l2 + 1)), some (vI l3), o4] M := rfl
set_option maxRecDepth 100000 in
theorem e244_65a (d F : Nat) (l2 : Int32) (l3 : Int32) (o4 : Option AV) (M : Mem) : lp d 244 (F + 1) 65 [some (vR 12 0 253), none, some (vI l2), some (vI l3), o4] M =
  lp d 244 F 134 [some (vR 12 0 253), none, some (vI (l2 + 1)), some (vI l3), o4] M := ((evp_step (code := lkE (codT 244)) (hd := hdT 244) (call := evD d) (F := F) (pc := 65) (lv := [some (vR 12 0 253), none, some (vI l2), some (vI l3), o4]) (M := M) (e := (.iinc 2 (1), 3, 2, 0, 0, 1, 0)) rfl).trans (g244_65a (evD d) (evp (lkE (codT 244)) (hdT 244) (evD d) F) l2 l3 o4 M))
set_option maxRecDepth 100000 in
theorem g244_65b (call : Nat → List AV → Mem → Res) (back : Nat → Lv → Mem → Res) (o1 : Int32) (l2 : Int32) (l3 : Int32) (o4 : Option AV) (M : Mem) : stepK call back (evj (lkE cd_244) [4, 33, 65, 101, 134] call back 4000) (.iinc 2 (1), 3, 2, 0, 0, 1, 0) 65 [some (vR 12 0 253), some (vI o1), some (vI l2), some (vI l3), o4] [] M =
  back 134 [some (vR 12 0 253), some (vI o1), some (vI (l2 + 1)), some (vI l3), o4] M := rfl
set_option maxRecDepth 100000 in
theorem e244_65b (d F : Nat) (o1 : Int32) (l2 : Int32) (l3 : Int32) (o4 : Option AV) (M : Mem) : lp d 244 (F + 1) 65 [some (vR 12 0 253), some (vI o1), some (vI l2), some (vI l3), o4] M =
  lp d 244 F 134 [some (vR 12 0 253), some (vI o1), some (vI (l2 + 1)), some (vI l3), o4] M := ((evp_step (code := lkE (codT 244)) (hd := hdT 244) (call := evD d) (F := F) (pc := 65) (lv := [some (vR 12 0 253), some (vI o1), some (vI l2), some (vI l3), o4]) (M := M) (e := (.iinc 2 (1), 3, 2, 0, 0, 1, 0)) rfl).trans (g244_65b (evD d) (evp (lkE (codT 244)) (hdT 244) (evD d) F) o1 l2 l3 o4 M))
-- IceParliamentModel both(III)I
set_option maxRecDepth 100000 in
theorem j245 (call : Nat → List AV → Mem → Res) (back : Nat → Lv → Mem → Res) (p0 : Int32) (p1 : Int32) (p2 : Int32) (M : Mem) : evj (lkE cd_245) [] call back 4000 0 [some (vI p0), some (vI p1), some (vI p2)] [] M =
  ic (p0 = Int32.ofInt (4)) (
    some (some (vI (p1 + p2)), M)) (
    ic (p0 = Int32.ofInt (5)) (
      some (some (vI (p1 - p2)), M)) (
      ic (p0 = Int32.ofInt (6)) (
        some (some (vI (p1 * p2)), M)) (
        ic (p0 = Int32.ofInt (7)) (
          ic (p1 < p2) (
            some (some (vI 1), M)) (
            some (some (vI 0), M))) (
          ic (p0 = Int32.ofInt (8)) (
            ic (p1 = p2) (
              some (some (vI 1), M)) (
              some (some (vI 0), M))) (
            ic (p0 = Int32.ofInt (9)) (
              ic (p1 = 0) (
                some (some (vI 0), M)) (
                ic (p2 = 0) (
                  some (some (vI 0), M)) (
                  some (some (vI 1), M)))) (
              ic (p1 = 0) (
                ic (p2 = 0) (
                  some (some (vI 0), M)) (
                  some (some (vI 1), M))) (
                some (some (vI 1), M)))))))) := rfl
set_option maxRecDepth 100000 in
theorem e245 (d : Nat) (p0 : Int32) (p1 : Int32) (p2 : Int32) (M : Mem) : evD (d + 1) 245 [vI p0, vI p1, vI p2] M =
  ic (p0 = Int32.ofInt (4)) (
    some (some (vI (p1 + p2)), M)) (
    ic (p0 = Int32.ofInt (5)) (
      some (some (vI (p1 - p2)), M)) (
      ic (p0 = Int32.ofInt (6)) (
        some (some (vI (p1 * p2)), M)) (
        ic (p0 = Int32.ofInt (7)) (
          ic (p1 < p2) (
            some (some (vI 1), M)) (
            some (some (vI 0), M))) (
          ic (p0 = Int32.ofInt (8)) (
            ic (p1 = p2) (
              some (some (vI 1), M)) (
              some (some (vI 0), M))) (
            ic (p0 = Int32.ofInt (9)) (
              ic (p1 = 0) (
                some (some (vI 0), M)) (
                ic (p2 = 0) (
                  some (some (vI 0), M)) (
                  some (some (vI 1), M)))) (
              ic (p1 = 0) (
                ic (p2 = 0) (
                  some (some (vI 0), M)) (
                  some (some (vI 1), M))) (
                some (some (vI 1), M)))))))) := ((evD_step (d := d) (x := 245) (as := [vI p0, vI p1, vI p2]) (M := M) (md := (⟨"IceParliamentModel", "both", "(III)I"⟩, prog_14_method_44_code, 3, (Option.some Jvm.ClassFile.FieldType.int), 12, 99)) rfl rfl).trans (j245 (evD d) (evp0 (lkE (codT 245)) (hdT 245) (evD d)) p0 p1 p2 M))
-- IceParliamentModel carver(II)I
set_option maxRecDepth 100000 in
theorem j246 (call : Nat → List AV → Mem → Res) (back : Nat → Lv → Mem → Res) (p0 : Int32) (p1 : Int32) (M : Mem) : evj (lkE cd_246) [] call back 4000 0 [some (vR 12 0 253), some (vI p0), some (vI p1)] [] M =
  cIn (call 247 [vR 12 0 253, vI p0] (sI M 253 0 0)) fun v2 M1 =>
  ic (v2 = 0) (
    some (some (vI (-2)), M1)) (
    cIn (call 222 [vI p1, vI 0, vI 3] M1) fun v4 M3 =>
    ic (v4 = 0) (
      some (some (vI (-2)), M3)) (
      ic (p1 < 2) (
        ic ((14 + (2 * p0)) + p1 < 0 ∨ 220 ≤ ((14 + (2 * p0)) + p1).toNatClampNeg) none (
          some (some (vI (M3.1 259 ((14 + (2 * p0)) + p1).toNatClampNeg)), M3))) (
        ic (p1 = 2) (
          ic (31 + p0 < 0 ∨ 1127 ≤ (31 + p0).toNatClampNeg) none (
            some (some (vI (M3.1 269 (31 + p0).toNatClampNeg)), M3))) (
          ic (37 + p0 < 0 ∨ 1127 ≤ (37 + p0).toNatClampNeg) none (
            some (some (vI (M3.1 269 (37 + p0).toNatClampNeg)), M3)))))) := rfl
set_option maxRecDepth 100000 in
theorem e246 (d : Nat) (p0 : Int32) (p1 : Int32) (M : Mem) : evD (d + 1) 246 [vR 12 0 253, vI p0, vI p1] M =
  cIn (evD d 247 [vR 12 0 253, vI p0] (sI M 253 0 0)) fun v2 M1 =>
  ic (v2 = 0) (
    some (some (vI (-2)), M1)) (
    cIn (evD d 222 [vI p1, vI 0, vI 3] M1) fun v4 M3 =>
    ic (v4 = 0) (
      some (some (vI (-2)), M3)) (
      ic (p1 < 2) (
        ic ((14 + (2 * p0)) + p1 < 0 ∨ 220 ≤ ((14 + (2 * p0)) + p1).toNatClampNeg) none (
          some (some (vI (M3.1 259 ((14 + (2 * p0)) + p1).toNatClampNeg)), M3))) (
        ic (p1 = 2) (
          ic (31 + p0 < 0 ∨ 1127 ≤ (31 + p0).toNatClampNeg) none (
            some (some (vI (M3.1 269 (31 + p0).toNatClampNeg)), M3))) (
          ic (37 + p0 < 0 ∨ 1127 ≤ (37 + p0).toNatClampNeg) none (
            some (some (vI (M3.1 269 (37 + p0).toNatClampNeg)), M3)))))) := ((evD_step (d := d) (x := 246) (as := [vR 12 0 253, vI p0, vI p1]) (M := M) (md := (⟨"IceParliamentModel", "carver", "(II)I"⟩, prog_14_method_67_code, 3, (Option.some Jvm.ClassFile.FieldType.int), 12, 12)) rfl rfl).trans (j246 (evD d) (evp0 (lkE (codT 246)) (hdT 246) (evD d)) p0 p1 M))
-- IceParliamentModel isCarver(I)Z
set_option maxRecDepth 100000 in
theorem j247 (call : Nat → List AV → Mem → Res) (back : Nat → Lv → Mem → Res) (p0 : Int32) (M : Mem) : evj (lkE cd_247) [] call back 4000 0 [some (vR 12 0 253), some (vI p0)] [] M =
  ic (p0 < 0) (
    ic ((0 : Int32) &&& 1 = 0) (
      some (some (vI 0), M)) none) (
    cIn (call 248 [vR 12 0 253] M) fun v2 M1 =>
    ic (p0 < v2) (
      ic ((1 : Int32) &&& 1 = 1) (
        some (some (vI 1), M1)) none) (
      ic ((0 : Int32) &&& 1 = 0) (
        some (some (vI 0), M1)) none)) := rfl
set_option maxRecDepth 100000 in
theorem e247 (d : Nat) (p0 : Int32) (M : Mem) : evD (d + 1) 247 [vR 12 0 253, vI p0] M =
  ic (p0 < 0) (
    some (some (vI 0), M)) (
    cIn (evD d 248 [vR 12 0 253] M) fun v2 M1 =>
    ic (p0 < v2) (
      some (some (vI 1), M1)) (
      some (some (vI 0), M1))) := ((evD_step (d := d) (x := 247) (as := [vR 12 0 253, vI p0]) (M := M) (md := (⟨"IceParliamentModel", "isCarver", "(I)Z"⟩, prog_14_method_55_code, 2, (Option.some Jvm.ClassFile.FieldType.boolean), 12, 12)) rfl rfl).trans (j247 (evD d) (evp0 (lkE (codT 247)) (hdT 247) (evD d)) p0 M)).trans (by (try simp only [ic_t (show (0 : Int32) &&& 1 = 0 by decide), ic_t (show (1 : Int32) &&& 1 = 1 by decide)]))
-- IceParliamentModel carvers()I
set_option maxRecDepth 100000 in
theorem j248 (call : Nat → List AV → Mem → Res) (back : Nat → Lv → Mem → Res)  (M : Mem) : evj (lkE cd_248) [] call back 4000 0 [some (vR 12 0 253)] [] M =
  ic ((1 : Int32) < 0 ∨ 220 ≤ (1 : Int32).toNatClampNeg) none (
    some (some (vI (M.1 259 (1 : Int32).toNatClampNeg)), M)) := rfl
set_option maxRecDepth 100000 in
theorem e248 (d : Nat)  (M : Mem) : evD (d + 1) 248 [vR 12 0 253] M =
  some (some (vI (M.1 259 1)), M) := ((evD_step (d := d) (x := 248) (as := [vR 12 0 253]) (M := M) (md := (⟨"IceParliamentModel", "carvers", "()I"⟩, prog_14_method_50_code, 1, (Option.some Jvm.ClassFile.FieldType.int), 12, 12)) rfl rfl).trans (j248 (evD d) (evp0 (lkE (codT 248)) (hdT 248) (evD d))  M)).trans (by (try simp only [ic_f (show ¬ ((1 : Int32) < 0 ∨ 220 ≤ (1 : Int32).toNatClampNeg) by decide)]); (try simp only [show (1 : Int32).toNatClampNeg = 1 from rfl]))
-- IceParliamentModel force()I
set_option maxRecDepth 100000 in
theorem j249 (call : Nat → List AV → Mem → Res) (back : Nat → Lv → Mem → Res)  (M : Mem) : evj (lkE cd_249) [] call back 4000 0 [some (vR 12 0 253)] [] M =
  cIn (call 250 [vR 12 0 253, vI 0] (sI M 253 0 0)) fun v2 M1 =>
  some (some (vI v2), M1) := rfl
set_option maxRecDepth 100000 in
theorem e249 (d : Nat)  (M : Mem) : evD (d + 1) 249 [vR 12 0 253] M =
  cIn (evD d 250 [vR 12 0 253, vI 0] (sI M 253 0 0)) fun v2 M1 =>
  some (some (vI v2), M1) := ((evD_step (d := d) (x := 249) (as := [vR 12 0 253]) (M := M) (md := (⟨"IceParliamentModel", "force", "()I"⟩, prog_14_method_68_code, 1, (Option.some Jvm.ClassFile.FieldType.int), 12, 12)) rfl rfl).trans (j249 (evD d) (evp0 (lkE (codT 249)) (hdT 249) (evD d))  M))
-- IceParliamentModel forceOf(I)I
set_option maxRecDepth 100000 in
theorem j250 (call : Nat → List AV → Mem → Res) (back : Nat → Lv → Mem → Res) (p0 : Int32) (M : Mem) : evj (lkE cd_250) [4] call back 4000 0 [some (vR 12 0 253), some (vI p0), none, none] [] M =
  back 4 [some (vR 12 0 253), some (vI p0), some (vI 0), some (vI 0)] M := rfl
set_option maxRecDepth 100000 in
theorem e250 (d : Nat) (p0 : Int32) (M : Mem) : evD (d + 1) 250 [vR 12 0 253, vI p0] M =
  lp0 d 250 4 [some (vR 12 0 253), some (vI p0), some (vI 0), some (vI 0)] M := ((evD_step (d := d) (x := 250) (as := [vR 12 0 253, vI p0]) (M := M) (md := (⟨"IceParliamentModel", "forceOf", "(I)I"⟩, prog_14_method_59_code, 4, (Option.some Jvm.ClassFile.FieldType.int), 12, 12)) rfl rfl).trans (j250 (evD d) (evp0 (lkE (codT 250)) (hdT 250) (evD d)) p0 M))
set_option maxRecDepth 100000 in
theorem g250_4 (call : Nat → List AV → Mem → Res) (back : Nat → Lv → Mem → Res) (l1 : Int32) (l2 : Int32) (l3 : Int32) (M : Mem) : stepK call back (evj (lkE cd_250) [4] call back 4000) (.iload_n 3, 1, 3, 0, 0, 0, 0) 4 [some (vR 12 0 253), some (vI l1), some (vI l2), some (vI l3)] [] M =
  cIn (call 197 [vR 12 0 253] M) fun v2 M1 =>
  ic (l3 < v2) (
    cIn (call 240 [vR 12 0 253, vI l1, vI l3] M1) fun v4 M3 =>
    ic (v4 = 0) (
      back 4 [some (vR 12 0 253), some (vI l1), some (vI (l2 ||| 0)), some (vI (l3 + 1))] M3) (
      back 4 [some (vR 12 0 253), some (vI l1), some (vI (l2 ||| (1 <<< (l3 &&& 31)))), some (vI (l3 + 1))] M3)) (
    some (some (vI l2), M1)) := rfl
set_option maxRecDepth 100000 in
theorem e250_4 (d F : Nat) (l1 : Int32) (l2 : Int32) (l3 : Int32) (M : Mem) : lp d 250 (F + 1) 4 [some (vR 12 0 253), some (vI l1), some (vI l2), some (vI l3)] M =
  cIn (evD d 197 [vR 12 0 253] M) fun v2 M1 =>
  ic (l3 < v2) (
    cIn (evD d 240 [vR 12 0 253, vI l1, vI l3] M1) fun v4 M3 =>
    ic (v4 = 0) (
      lp d 250 F 4 [some (vR 12 0 253), some (vI l1), some (vI (l2 ||| 0)), some (vI (l3 + 1))] M3) (
      lp d 250 F 4 [some (vR 12 0 253), some (vI l1), some (vI (l2 ||| (1 <<< (l3 &&& 31)))), some (vI (l3 + 1))] M3)) (
    some (some (vI l2), M1)) := ((evp_step (code := lkE (codT 250)) (hd := hdT 250) (call := evD d) (F := F) (pc := 4) (lv := [some (vR 12 0 253), some (vI l1), some (vI l2), some (vI l3)]) (M := M) (e := (.iload_n 3, 1, 3, 0, 0, 0, 0)) rfl).trans (g250_4 (evD d) (evp (lkE (codT 250)) (hdT 250) (evD d) F) l1 l2 l3 M))
-- IceParliamentModel side(I)I
set_option maxRecDepth 100000 in
theorem j251 (call : Nat → List AV → Mem → Res) (back : Nat → Lv → Mem → Res) (p0 : Int32) (M : Mem) : evj (lkE cd_251) [24] call back 4000 0 [some (vR 12 0 253), some (vI p0), none, none] [] M =
  cIn (call 222 [vI p0, vI 0, vI 1] (sI M 253 0 0)) fun v2 M1 =>
  ic (v2 = 0) (
    some (some (vI (-1)), M1)) (
    cIn (call 250 [vR 12 0 253, vI 0] M1) fun v4 M3 =>
    back 24 [some (vR 12 0 253), some (vI p0), some (vI v4), some (vI 0)] M3) := rfl
set_option maxRecDepth 100000 in
theorem e251 (d : Nat) (p0 : Int32) (M : Mem) : evD (d + 1) 251 [vR 12 0 253, vI p0] M =
  cIn (evD d 222 [vI p0, vI 0, vI 1] (sI M 253 0 0)) fun v2 M1 =>
  ic (v2 = 0) (
    some (some (vI (-1)), M1)) (
    cIn (evD d 250 [vR 12 0 253, vI 0] M1) fun v4 M3 =>
    lp0 d 251 24 [some (vR 12 0 253), some (vI p0), some (vI v4), some (vI 0)] M3) := ((evD_step (d := d) (x := 251) (as := [vR 12 0 253, vI p0]) (M := M) (md := (⟨"IceParliamentModel", "side", "(I)I"⟩, prog_14_method_69_code, 4, (Option.some Jvm.ClassFile.FieldType.int), 12, 12)) rfl rfl).trans (j251 (evD d) (evp0 (lkE (codT 251)) (hdT 251) (evD d)) p0 M))
set_option maxRecDepth 100000 in
theorem g251_24 (call : Nat → List AV → Mem → Res) (back : Nat → Lv → Mem → Res) (l1 : Int32) (l2 : Int32) (l3 : Int32) (M : Mem) : stepK call back (evj (lkE cd_251) [24] call back 4000) (.iload_n 3, 1, 3, 0, 0, 0, 0) 24 [some (vR 12 0 253), some (vI l1), some (vI l2), some (vI l3)] [] M =
  cIn (call 197 [vR 12 0 253] M) fun v2 M1 =>
  ic (l3 < v2) (
    cIn (call 198 [vR 12 0 253, vI l3, vI 4] M1) fun v6 M5 =>
    ic (14 + (2 * v6) < 0 ∨ 220 ≤ (14 + (2 * v6)).toNatClampNeg) none (
      ic (M5.1 259 (14 + (2 * v6)).toNatClampNeg = l1) (
        back 24 [some (vR 12 0 253), some (vI l1), some (vI (l2 &&& (-1))), some (vI (l3 + 1))] M5) (
        back 24 [some (vR 12 0 253), some (vI l1), some (vI (l2 &&& ((1 <<< (l3 &&& 31)) ^^^ (-1)))), some (vI (l3 + 1))] M5))) (
    cIn (call 252 [vR 12 0 253, vI l2] M1) fun v4 M3 =>
    some (some (vI v4), M3)) := rfl
set_option maxRecDepth 100000 in
theorem e251_24 (d F : Nat) (l1 : Int32) (l2 : Int32) (l3 : Int32) (M : Mem) : lp d 251 (F + 1) 24 [some (vR 12 0 253), some (vI l1), some (vI l2), some (vI l3)] M =
  cIn (evD d 197 [vR 12 0 253] M) fun v2 M1 =>
  ic (l3 < v2) (
    cIn (evD d 198 [vR 12 0 253, vI l3, vI 4] M1) fun v6 M5 =>
    ic (14 + (2 * v6) < 0 ∨ 220 ≤ (14 + (2 * v6)).toNatClampNeg) none (
      ic (M5.1 259 (14 + (2 * v6)).toNatClampNeg = l1) (
        lp d 251 F 24 [some (vR 12 0 253), some (vI l1), some (vI (l2 &&& (-1))), some (vI (l3 + 1))] M5) (
        lp d 251 F 24 [some (vR 12 0 253), some (vI l1), some (vI (l2 &&& ((1 <<< (l3 &&& 31)) ^^^ (-1)))), some (vI (l3 + 1))] M5))) (
    cIn (evD d 252 [vR 12 0 253, vI l2] M1) fun v4 M3 =>
    some (some (vI v4), M3)) := ((evp_step (code := lkE (codT 251)) (hd := hdT 251) (call := evD d) (F := F) (pc := 24) (lv := [some (vR 12 0 253), some (vI l1), some (vI l2), some (vI l3)]) (M := M) (e := (.iload_n 3, 1, 3, 0, 0, 0, 0)) rfl).trans (g251_24 (evD d) (evp (lkE (codT 251)) (hdT 251) (evD d) F) l1 l2 l3 M))
-- IceParliamentModel worthOf(I)I
set_option maxRecDepth 100000 in
theorem j252 (call : Nat → List AV → Mem → Res) (back : Nat → Lv → Mem → Res) (p0 : Int32) (M : Mem) : evj (lkE cd_252) [4] call back 4000 0 [some (vR 12 0 253), some (vI p0), none, none] [] M =
  back 4 [some (vR 12 0 253), some (vI p0), some (vI 0), some (vI 0)] M := rfl
set_option maxRecDepth 100000 in
theorem e252 (d : Nat) (p0 : Int32) (M : Mem) : evD (d + 1) 252 [vR 12 0 253, vI p0] M =
  lp0 d 252 4 [some (vR 12 0 253), some (vI p0), some (vI 0), some (vI 0)] M := ((evD_step (d := d) (x := 252) (as := [vR 12 0 253, vI p0]) (M := M) (md := (⟨"IceParliamentModel", "worthOf", "(I)I"⟩, prog_14_method_60_code, 4, (Option.some Jvm.ClassFile.FieldType.int), 12, 12)) rfl rfl).trans (j252 (evD d) (evp0 (lkE (codT 252)) (hdT 252) (evD d)) p0 M))
set_option maxRecDepth 100000 in
theorem g252_4 (call : Nat → List AV → Mem → Res) (back : Nat → Lv → Mem → Res) (l1 : Int32) (l2 : Int32) (l3 : Int32) (M : Mem) : stepK call back (evj (lkE cd_252) [4] call back 4000) (.iload_n 3, 1, 3, 0, 0, 0, 0) 4 [some (vR 12 0 253), some (vI l1), some (vI l2), some (vI l3)] [] M =
  cIn (call 197 [vR 12 0 253] M) fun v2 M1 =>
  ic (l3 < v2) (
    ic ((l1 >>> (l3 &&& 31)) &&& 1 = 1) (
      cIn (call 198 [vR 12 0 253, vI l3, vI 3] M1) fun v4 M3 =>
      back 4 [some (vR 12 0 253), some (vI l1), some (vI (l2 + v4)), some (vI (l3 + 1))] M3) (
      back 4 [some (vR 12 0 253), some (vI l1), some (vI (l2 + 0)), some (vI (l3 + 1))] M1)) (
    some (some (vI l2), M1)) := rfl
set_option maxRecDepth 100000 in
theorem e252_4 (d F : Nat) (l1 : Int32) (l2 : Int32) (l3 : Int32) (M : Mem) : lp d 252 (F + 1) 4 [some (vR 12 0 253), some (vI l1), some (vI l2), some (vI l3)] M =
  cIn (evD d 197 [vR 12 0 253] M) fun v2 M1 =>
  ic (l3 < v2) (
    ic ((l1 >>> (l3 &&& 31)) &&& 1 = 1) (
      cIn (evD d 198 [vR 12 0 253, vI l3, vI 3] M1) fun v4 M3 =>
      lp d 252 F 4 [some (vR 12 0 253), some (vI l1), some (vI (l2 + v4)), some (vI (l3 + 1))] M3) (
      lp d 252 F 4 [some (vR 12 0 253), some (vI l1), some (vI (l2 + 0)), some (vI (l3 + 1))] M1)) (
    some (some (vI l2), M1)) := ((evp_step (code := lkE (codT 252)) (hd := hdT 252) (call := evD d) (F := F) (pc := 4) (lv := [some (vR 12 0 253), some (vI l1), some (vI l2), some (vI l3)]) (M := M) (e := (.iload_n 3, 1, 3, 0, 0, 0, 0)) rfl).trans (g252_4 (evD d) (evp (lkE (codT 252)) (hdT 252) (evD d) F) l1 l2 l3 M))
-- IceParliamentModel begin(II)Z
set_option maxRecDepth 100000 in
theorem j253 (call : Nat → List AV → Mem → Res) (back : Nat → Lv → Mem → Res) (p0 : Int32) (p1 : Int32) (M : Mem) : evj (lkE cd_253) [] call back 4000 0 [some (vR 12 0 253), some (vI p0), some (vI p1)] [] M =
  cIn (call 237 [vR 12 0 253, vI p0] (sI M 253 0 0)) fun v2 M1 =>
  ic (v2 = 0) (
    ic ((0 : Int32) &&& 1 = 0) (
      some (some (vI 0), M1)) none) (
    cIn (call 254 [vR 12 0 253, vI p1] M1) fun v4 M3 =>
    ic (v4 = 0) (
      ic ((0 : Int32) &&& 1 = 0) (
        some (some (vI 0), M3)) none) (
      cIn (call 256 [vR 12 0 253, vI 0, vI p0, vI p1] M3) fun v6 M5 =>
      ic (v6 = 0) (
        ic ((0 : Int32) &&& 1 = 0) (
          some (some (vI 0), M5)) none) (
        cVd (call 258 [vR 12 0 253] M5) fun M7 =>
        cVd (call 260 [vR 12 0 253, vI 0, vI p0, vI p1] M7) fun M8 =>
        ic ((1 : Int32) &&& 1 = 1) (
          some (some (vI 1), M8)) none))) := rfl
set_option maxRecDepth 100000 in
theorem e253 (d : Nat) (p0 : Int32) (p1 : Int32) (M : Mem) : evD (d + 1) 253 [vR 12 0 253, vI p0, vI p1] M =
  cIn (evD d 237 [vR 12 0 253, vI p0] (sI M 253 0 0)) fun v2 M1 =>
  ic (v2 = 0) (
    some (some (vI 0), M1)) (
    cIn (evD d 254 [vR 12 0 253, vI p1] M1) fun v4 M3 =>
    ic (v4 = 0) (
      some (some (vI 0), M3)) (
      cIn (evD d 256 [vR 12 0 253, vI 0, vI p0, vI p1] M3) fun v6 M5 =>
      ic (v6 = 0) (
        some (some (vI 0), M5)) (
        cVd (evD d 258 [vR 12 0 253] M5) fun M7 =>
        cVd (evD d 260 [vR 12 0 253, vI 0, vI p0, vI p1] M7) fun M8 =>
        some (some (vI 1), M8)))) := ((evD_step (d := d) (x := 253) (as := [vR 12 0 253, vI p0, vI p1]) (M := M) (md := (⟨"IceParliamentModel", "begin", "(II)Z"⟩, prog_14_method_77_code, 3, (Option.some Jvm.ClassFile.FieldType.boolean), 12, 12)) rfl rfl).trans (j253 (evD d) (evp0 (lkE (codT 253)) (hdT 253) (evD d)) p0 p1 M)).trans (by (try simp only [ic_t (show (0 : Int32) &&& 1 = 0 by decide), ic_t (show (1 : Int32) &&& 1 = 1 by decide)]))
-- IceParliamentModel isSpot(I)Z
set_option maxRecDepth 100000 in
theorem j254 (call : Nat → List AV → Mem → Res) (back : Nat → Lv → Mem → Res) (p0 : Int32) (M : Mem) : evj (lkE cd_254) [] call back 4000 0 [some (vR 12 0 253), some (vI p0)] [] M =
  ic (p0 < 0) (
    ic ((0 : Int32) &&& 1 = 0) (
      some (some (vI 0), M)) none) (
    cIn (call 255 [vR 12 0 253] M) fun v2 M1 =>
    ic (p0 < v2) (
      ic ((1 : Int32) &&& 1 = 1) (
        some (some (vI 1), M1)) none) (
      ic ((0 : Int32) &&& 1 = 0) (
        some (some (vI 0), M1)) none)) := rfl
set_option maxRecDepth 100000 in
theorem e254 (d : Nat) (p0 : Int32) (M : Mem) : evD (d + 1) 254 [vR 12 0 253, vI p0] M =
  ic (p0 < 0) (
    some (some (vI 0), M)) (
    cIn (evD d 255 [vR 12 0 253] M) fun v2 M1 =>
    ic (p0 < v2) (
      some (some (vI 1), M1)) (
      some (some (vI 0), M1))) := ((evD_step (d := d) (x := 254) (as := [vR 12 0 253, vI p0]) (M := M) (md := (⟨"IceParliamentModel", "isSpot", "(I)Z"⟩, prog_14_method_54_code, 2, (Option.some Jvm.ClassFile.FieldType.boolean), 12, 12)) rfl rfl).trans (j254 (evD d) (evp0 (lkE (codT 254)) (hdT 254) (evD d)) p0 M)).trans (by (try simp only [ic_t (show (0 : Int32) &&& 1 = 0 by decide), ic_t (show (1 : Int32) &&& 1 = 1 by decide)]))
-- IceParliamentModel spots()I
set_option maxRecDepth 100000 in
theorem j255 (call : Nat → List AV → Mem → Res) (back : Nat → Lv → Mem → Res)  (M : Mem) : evj (lkE cd_255) [] call back 4000 0 [some (vR 12 0 253)] [] M =
  ic ((0 : Int32) < 0 ∨ 220 ≤ (0 : Int32).toNatClampNeg) none (
    some (some (vI (M.1 259 (0 : Int32).toNatClampNeg)), M)) := rfl
set_option maxRecDepth 100000 in
theorem e255 (d : Nat)  (M : Mem) : evD (d + 1) 255 [vR 12 0 253] M =
  some (some (vI (M.1 259 0)), M) := ((evD_step (d := d) (x := 255) (as := [vR 12 0 253]) (M := M) (md := (⟨"IceParliamentModel", "spots", "()I"⟩, prog_14_method_49_code, 1, (Option.some Jvm.ClassFile.FieldType.int), 12, 12)) rfl rfl).trans (j255 (evD d) (evp0 (lkE (codT 255)) (hdT 255) (evD d))  M)).trans (by (try simp only [ic_f (show ¬ ((0 : Int32) < 0 ∨ 220 ≤ (0 : Int32).toNatClampNeg) by decide)]); (try simp only [show (0 : Int32).toNatClampNeg = 0 from rfl]))
-- IceParliamentModel mayBegin(III)Z
set_option maxRecDepth 100000 in
theorem j256 (call : Nat → List AV → Mem → Res) (back : Nat → Lv → Mem → Res) (p0 : Int32) (p1 : Int32) (p2 : Int32) (M : Mem) : evj (lkE cd_256) [] call back 4000 0 [some (vR 12 0 253), some (vI p0), some (vI p1), some (vI p2)] [] M =
  ic ((p0 + 1) + p1 < 0 ∨ 1127 ≤ ((p0 + 1) + p1).toNatClampNeg) none (
    ic (M.1 269 ((p0 + 1) + p1).toNatClampNeg = 0) (
      cIn (call 257 [vR 12 0 253, vI p0, vI p2] M) fun v2 M1 =>
      ic (v2 = 0) (
        ic ((0 : Int32) &&& 1 = 0) (
          some (some (vI 0), M1)) none) (
        ic ((1 : Int32) &&& 1 = 1) (
          some (some (vI 1), M1)) none)) (
      ic ((0 : Int32) &&& 1 = 0) (
        some (some (vI 0), M)) none)) := rfl
set_option maxRecDepth 100000 in
theorem e256 (d : Nat) (p0 : Int32) (p1 : Int32) (p2 : Int32) (M : Mem) : evD (d + 1) 256 [vR 12 0 253, vI p0, vI p1, vI p2] M =
  ic ((p0 + 1) + p1 < 0 ∨ 1127 ≤ ((p0 + 1) + p1).toNatClampNeg) none (
    ic (M.1 269 ((p0 + 1) + p1).toNatClampNeg = 0) (
      cIn (evD d 257 [vR 12 0 253, vI p0, vI p2] M) fun v2 M1 =>
      ic (v2 = 0) (
        some (some (vI 0), M1)) (
        some (some (vI 1), M1))) (
      some (some (vI 0), M))) := ((evD_step (d := d) (x := 256) (as := [vR 12 0 253, vI p0, vI p1, vI p2]) (M := M) (md := (⟨"IceParliamentModel", "mayBegin", "(III)Z"⟩, prog_14_method_71_code, 4, (Option.some Jvm.ClassFile.FieldType.boolean), 12, 12)) rfl rfl).trans (j256 (evD d) (evp0 (lkE (codT 256)) (hdT 256) (evD d)) p0 p1 p2 M)).trans (by (try simp only [ic_t (show (0 : Int32) &&& 1 = 0 by decide), ic_t (show (1 : Int32) &&& 1 = 1 by decide)]))
-- IceParliamentModel isFree(II)Z
set_option maxRecDepth 100000 in
theorem j257 (call : Nat → List AV → Mem → Res) (back : Nat → Lv → Mem → Res) (p0 : Int32) (p1 : Int32) (M : Mem) : evj (lkE cd_257) [5] call back 4000 0 [some (vR 12 0 253), some (vI p0), some (vI p1), none, none] [] M =
  back 5 [some (vR 12 0 253), some (vI p0), some (vI p1), some (vI 1), some (vI 0)] M := rfl
set_option maxRecDepth 100000 in
theorem e257 (d : Nat) (p0 : Int32) (p1 : Int32) (M : Mem) : evD (d + 1) 257 [vR 12 0 253, vI p0, vI p1] M =
  lp0 d 257 5 [some (vR 12 0 253), some (vI p0), some (vI p1), some (vI 1), some (vI 0)] M := ((evD_step (d := d) (x := 257) (as := [vR 12 0 253, vI p0, vI p1]) (M := M) (md := (⟨"IceParliamentModel", "isFree", "(II)Z"⟩, prog_14_method_70_code, 5, (Option.some Jvm.ClassFile.FieldType.boolean), 12, 12)) rfl rfl).trans (j257 (evD d) (evp0 (lkE (codT 257)) (hdT 257) (evD d)) p0 p1 M))
set_option maxRecDepth 100000 in
theorem g257_5 (call : Nat → List AV → Mem → Res) (back : Nat → Lv → Mem → Res) (l1 : Int32) (l2 : Int32) (l3 : Int32) (l4 : Int32) (M : Mem) : stepK call back (evj (lkE cd_257) [5] call back 4000) (.iload 4, 2, 4, 0, 0, 0, 0) 5 [some (vR 12 0 253), some (vI l1), some (vI l2), some (vI l3), some (vI l4)] [] M =
  cIn (call 197 [vR 12 0 253] M) fun v2 M1 =>
  ic (l4 < v2) (
    ic (l3 = 0) (
      back 5 [some (vR 12 0 253), some (vI l1), some (vI l2), some (vI 0), some (vI (l4 + 1))] M1) (
      cIn (call 238 [vR 12 0 253, vI l1, vI l4] M1) fun v4 M3 =>
      ic (v4 = 0) (
        back 5 [some (vR 12 0 253), some (vI l1), some (vI l2), some (vI 1), some (vI (l4 + 1))] M3) (
        ic ((l1 + 19) + l4 < 0 ∨ 1127 ≤ ((l1 + 19) + l4).toNatClampNeg) none (
          ic (M3.1 269 ((l1 + 19) + l4).toNatClampNeg = l2) (
            back 5 [some (vR 12 0 253), some (vI l1), some (vI l2), some (vI 0), some (vI (l4 + 1))] M3) (
            back 5 [some (vR 12 0 253), some (vI l1), some (vI l2), some (vI 1), some (vI (l4 + 1))] M3))))) (
    ic (l3 &&& 1 = l3) (
      some (some (vI l3), M1)) none) := rfl
set_option maxRecDepth 100000 in
theorem e257_5 (d F : Nat) (l1 : Int32) (l2 : Int32) (l3 : Int32) (l4 : Int32) (M : Mem) : lp d 257 (F + 1) 5 [some (vR 12 0 253), some (vI l1), some (vI l2), some (vI l3), some (vI l4)] M =
  cIn (evD d 197 [vR 12 0 253] M) fun v2 M1 =>
  ic (l4 < v2) (
    ic (l3 = 0) (
      lp d 257 F 5 [some (vR 12 0 253), some (vI l1), some (vI l2), some (vI 0), some (vI (l4 + 1))] M1) (
      cIn (evD d 238 [vR 12 0 253, vI l1, vI l4] M1) fun v4 M3 =>
      ic (v4 = 0) (
        lp d 257 F 5 [some (vR 12 0 253), some (vI l1), some (vI l2), some (vI 1), some (vI (l4 + 1))] M3) (
        ic ((l1 + 19) + l4 < 0 ∨ 1127 ≤ ((l1 + 19) + l4).toNatClampNeg) none (
          ic (M3.1 269 ((l1 + 19) + l4).toNatClampNeg = l2) (
            lp d 257 F 5 [some (vR 12 0 253), some (vI l1), some (vI l2), some (vI 0), some (vI (l4 + 1))] M3) (
            lp d 257 F 5 [some (vR 12 0 253), some (vI l1), some (vI l2), some (vI 1), some (vI (l4 + 1))] M3))))) (
    ic (l3 &&& 1 = l3) (
      some (some (vI l3), M1)) none) := ((evp_step (code := lkE (codT 257)) (hd := hdT 257) (call := evD d) (F := F) (pc := 5) (lv := [some (vR 12 0 253), some (vI l1), some (vI l2), some (vI l3), some (vI l4)]) (M := M) (e := (.iload 4, 2, 4, 0, 0, 0, 0)) rfl).trans (g257_5 (evD d) (evp (lkE (codT 257)) (hdT 257) (evD d) F) l1 l2 l3 l4 M))
-- IceParliamentModel keeps()V
set_option maxRecDepth 100000 in
theorem j258 (call : Nat → List AV → Mem → Res) (back : Nat → Lv → Mem → Res)  (M : Mem) : evj (lkE cd_258) [11] call back 4000 0 [some (vR 12 0 253), none] [] M =
  ic (M.1 253 26 = 16) (
    back 11 [some (vR 12 0 253), some (vI 1)] M) (
    cVd (call 259 [vR 12 0 253, vI 0, vI (49 * (5 + (M.1 253 26)))] M) fun M1 =>
    some (none, sI M1 253 26 ((M1.1 253 26) + 1))) := rfl
set_option maxRecDepth 100000 in
theorem e258 (d : Nat)  (M : Mem) : evD (d + 1) 258 [vR 12 0 253] M =
  ic (M.1 253 26 = 16) (
    lp0 d 258 11 [some (vR 12 0 253), some (vI 1)] M) (
    cVd (evD d 259 [vR 12 0 253, vI 0, vI (49 * (5 + (M.1 253 26)))] M) fun M1 =>
    some (none, sI M1 253 26 ((M1.1 253 26) + 1))) := ((evD_step (d := d) (x := 258) (as := [vR 12 0 253]) (M := M) (md := (⟨"IceParliamentModel", "keeps", "()V"⟩, prog_14_method_48_code, 2, (Option.none : Option Jvm.ClassFile.FieldType), 12, 12)) rfl rfl).trans (j258 (evD d) (evp0 (lkE (codT 258)) (hdT 258) (evD d))  M))
set_option maxRecDepth 100000 in
theorem g258_11 (call : Nat → List AV → Mem → Res) (back : Nat → Lv → Mem → Res) (l1 : Int32) (M : Mem) : stepK call back (evj (lkE cd_258) [11] call back 4000) (.iload_n 1, 1, 1, 0, 0, 0, 0) 11 [some (vR 12 0 253), some (vI l1)] [] M =
  ic (l1 < 16) (
    cVd (call 259 [vR 12 0 253, vI (49 * (5 + l1)), vI (49 * ((5 + l1) - 1))] M) fun M2 =>
    back 11 [some (vR 12 0 253), some (vI (l1 + 1))] M2) (
    cVd (call 259 [vR 12 0 253, vI 0, vI (49 * (5 + ((sI M 253 26 ((M.1 253 26) - 1)).1 253 26)))] (sI M 253 26 ((M.1 253 26) - 1))) fun M1 =>
    some (none, sI M1 253 26 ((M1.1 253 26) + 1))) := rfl
set_option maxRecDepth 100000 in
theorem e258_11 (d F : Nat) (l1 : Int32) (M : Mem) : lp d 258 (F + 1) 11 [some (vR 12 0 253), some (vI l1)] M =
  ic (l1 < 16) (
    cVd (evD d 259 [vR 12 0 253, vI (49 * (5 + l1)), vI (49 * ((5 + l1) - 1))] M) fun M2 =>
    lp d 258 F 11 [some (vR 12 0 253), some (vI (l1 + 1))] M2) (
    cVd (evD d 259 [vR 12 0 253, vI 0, vI (49 * (5 + ((sI M 253 26 ((M.1 253 26) - 1)).1 253 26)))] (sI M 253 26 ((M.1 253 26) - 1))) fun M1 =>
    some (none, sI M1 253 26 ((M1.1 253 26) + 1))) := ((evp_step (code := lkE (codT 258)) (hd := hdT 258) (call := evD d) (F := F) (pc := 11) (lv := [some (vR 12 0 253), some (vI l1)]) (M := M) (e := (.iload_n 1, 1, 1, 0, 0, 0, 0)) rfl).trans (g258_11 (evD d) (evp (lkE (codT 258)) (hdT 258) (evD d) F) l1 M))
-- IceParliamentModel copies(II)V
set_option maxRecDepth 100000 in
theorem j259 (call : Nat → List AV → Mem → Res) (back : Nat → Lv → Mem → Res) (p0 : Int32) (p1 : Int32) (M : Mem) : evj (lkE cd_259) [2] call back 4000 0 [some (vR 12 0 253), some (vI p0), some (vI p1), none] [] M =
  back 2 [some (vR 12 0 253), some (vI p0), some (vI p1), some (vI 0)] M := rfl
set_option maxRecDepth 100000 in
theorem e259 (d : Nat) (p0 : Int32) (p1 : Int32) (M : Mem) : evD (d + 1) 259 [vR 12 0 253, vI p0, vI p1] M =
  lp0 d 259 2 [some (vR 12 0 253), some (vI p0), some (vI p1), some (vI 0)] M := ((evD_step (d := d) (x := 259) (as := [vR 12 0 253, vI p0, vI p1]) (M := M) (md := (⟨"IceParliamentModel", "copies", "(II)V"⟩, prog_14_method_45_code, 4, (Option.none : Option Jvm.ClassFile.FieldType), 12, 12)) rfl rfl).trans (j259 (evD d) (evp0 (lkE (codT 259)) (hdT 259) (evD d)) p0 p1 M))
set_option maxRecDepth 100000 in
theorem g259_2 (call : Nat → List AV → Mem → Res) (back : Nat → Lv → Mem → Res) (l1 : Int32) (l2 : Int32) (l3 : Int32) (M : Mem) : stepK call back (evj (lkE cd_259) [2] call back 4000) (.iload_n 3, 1, 3, 0, 0, 0, 0) 2 [some (vR 12 0 253), some (vI l1), some (vI l2), some (vI l3)] [] M =
  ic (l3 < 49) (
    ic (l1 + l3 < 0 ∨ 1127 ≤ (l1 + l3).toNatClampNeg) none (
      ic (l2 + l3 < 0 ∨ 1127 ≤ (l2 + l3).toNatClampNeg) none (
        back 2 [some (vR 12 0 253), some (vI l1), some (vI l2), some (vI (l3 + 1))] (sI M 269 ((l2 + l3).toNatClampNeg) (M.1 269 (l1 + l3).toNatClampNeg))))) (
    some (none, M)) := rfl
set_option maxRecDepth 100000 in
theorem e259_2 (d F : Nat) (l1 : Int32) (l2 : Int32) (l3 : Int32) (M : Mem) : lp d 259 (F + 1) 2 [some (vR 12 0 253), some (vI l1), some (vI l2), some (vI l3)] M =
  ic (l3 < 49) (
    ic (l1 + l3 < 0 ∨ 1127 ≤ (l1 + l3).toNatClampNeg) none (
      ic (l2 + l3 < 0 ∨ 1127 ≤ (l2 + l3).toNatClampNeg) none (
        lp d 259 F 2 [some (vR 12 0 253), some (vI l1), some (vI l2), some (vI (l3 + 1))] (sI M 269 ((l2 + l3).toNatClampNeg) (M.1 269 (l1 + l3).toNatClampNeg))))) (
    some (none, M)) := ((evp_step (code := lkE (codT 259)) (hd := hdT 259) (call := evD d) (F := F) (pc := 2) (lv := [some (vR 12 0 253), some (vI l1), some (vI l2), some (vI l3)]) (M := M) (e := (.iload_n 3, 1, 3, 0, 0, 0, 0)) rfl).trans (g259_2 (evD d) (evp (lkE (codT 259)) (hdT 259) (evD d) F) l1 l2 l3 M))
-- IceParliamentModel puts(III)V
set_option maxRecDepth 100000 in
theorem j260 (call : Nat → List AV → Mem → Res) (back : Nat → Lv → Mem → Res) (p0 : Int32) (p1 : Int32) (p2 : Int32) (M : Mem) : evj (lkE cd_260) [] call back 4000 0 [some (vR 12 0 253), some (vI p0), some (vI p1), some (vI p2)] [] M =
  ic ((p0 + 1) + p1 < 0 ∨ 1127 ≤ ((p0 + 1) + p1).toNatClampNeg) none (
    ic ((p0 + 19) + p1 < 0 ∨ 1127 ≤ ((p0 + 19) + p1).toNatClampNeg) none (
      some (none, sI (sI M 269 (((p0 + 1) + p1).toNatClampNeg) 1) 269 (((p0 + 19) + p1).toNatClampNeg) p2))) := rfl
set_option maxRecDepth 100000 in
theorem e260 (d : Nat) (p0 : Int32) (p1 : Int32) (p2 : Int32) (M : Mem) : evD (d + 1) 260 [vR 12 0 253, vI p0, vI p1, vI p2] M =
  ic ((p0 + 1) + p1 < 0 ∨ 1127 ≤ ((p0 + 1) + p1).toNatClampNeg) none (
    ic ((p0 + 19) + p1 < 0 ∨ 1127 ≤ ((p0 + 19) + p1).toNatClampNeg) none (
      some (none, sI (sI M 269 (((p0 + 1) + p1).toNatClampNeg) 1) 269 (((p0 + 19) + p1).toNatClampNeg) p2))) := ((evD_step (d := d) (x := 260) (as := [vR 12 0 253, vI p0, vI p1, vI p2]) (M := M) (md := (⟨"IceParliamentModel", "puts", "(III)V"⟩, prog_14_method_72_code, 4, (Option.none : Option Jvm.ClassFile.FieldType), 12, 12)) rfl rfl).trans (j260 (evD d) (evp0 (lkE (codT 260)) (hdT 260) (evD d)) p0 p1 p2 M))
-- IceParliamentModel carve(II)I
set_option maxRecDepth 100000 in
theorem j261 (call : Nat → List AV → Mem → Res) (back : Nat → Lv → Mem → Res) (p0 : Int32) (p1 : Int32) (M : Mem) : evj (lkE cd_261) [] call back 4000 0 [some (vR 12 0 253), some (vI p0), some (vI p1)] [] M =
  cIn (call 247 [vR 12 0 253, vI p0] (sI M 253 0 0)) fun v2 M1 =>
  ic (v2 = 0) (
    some (some (vI (-1)), M1)) (
    cIn (call 237 [vR 12 0 253, vI p1] M1) fun v4 M3 =>
    ic (v4 = 0) (
      some (some (vI (-1)), M3)) (
      cIn (call 262 [vR 12 0 253, vI 0, vI p0, vI p1] M3) fun v6 M5 =>
      ic (v6 = 0) (
        some (some (vI (-1)), M5)) (
        cVd (call 258 [vR 12 0 253] M5) fun M7 =>
        cIn (call 263 [vR 12 0 253, vI 0, vI p0, vI p1] M7) fun v9 M8 =>
        some (some (vI v9), M8)))) := rfl
set_option maxRecDepth 100000 in
theorem e261 (d : Nat) (p0 : Int32) (p1 : Int32) (M : Mem) : evD (d + 1) 261 [vR 12 0 253, vI p0, vI p1] M =
  cIn (evD d 247 [vR 12 0 253, vI p0] (sI M 253 0 0)) fun v2 M1 =>
  ic (v2 = 0) (
    some (some (vI (-1)), M1)) (
    cIn (evD d 237 [vR 12 0 253, vI p1] M1) fun v4 M3 =>
    ic (v4 = 0) (
      some (some (vI (-1)), M3)) (
      cIn (evD d 262 [vR 12 0 253, vI 0, vI p0, vI p1] M3) fun v6 M5 =>
      ic (v6 = 0) (
        some (some (vI (-1)), M5)) (
        cVd (evD d 258 [vR 12 0 253] M5) fun M7 =>
        cIn (evD d 263 [vR 12 0 253, vI 0, vI p0, vI p1] M7) fun v9 M8 =>
        some (some (vI v9), M8)))) := ((evD_step (d := d) (x := 261) (as := [vR 12 0 253, vI p0, vI p1]) (M := M) (md := (⟨"IceParliamentModel", "carve", "(II)I"⟩, prog_14_method_78_code, 3, (Option.some Jvm.ClassFile.FieldType.int), 12, 12)) rfl rfl).trans (j261 (evD d) (evp0 (lkE (codT 261)) (hdT 261) (evD d)) p0 p1 M))
-- IceParliamentModel mayCarve(III)Z
set_option maxRecDepth 100000 in
theorem j262 (call : Nat → List AV → Mem → Res) (back : Nat → Lv → Mem → Res) (p0 : Int32) (p1 : Int32) (p2 : Int32) (M : Mem) : evj (lkE cd_262) [] call back 4000 0 [some (vR 12 0 253), some (vI p0), some (vI p1), some (vI p2), none] [] M =
  ic ((p0 + 37) + p1 < 0 ∨ 1127 ≤ ((p0 + 37) + p1).toNatClampNeg) none (
    ic (M.1 269 ((p0 + 37) + p1).toNatClampNeg = 0) (
      ic ((p0 + 31) + p1 < 0 ∨ 1127 ≤ ((p0 + 31) + p1).toNatClampNeg) none (
        ic (M.1 269 ((p0 + 31) + p1).toNatClampNeg = (-1)) (
          ic ((1 : Int32) = 0) (
            ic ((0 : Int32) &&& 1 = 0) (
              some (some (vI 0), M)) none) (
            cIn (call 238 [vR 12 0 253, vI p0, vI p2] M) fun v10 M9 =>
            ic (v10 = 0) (
              ic ((0 : Int32) &&& 1 = 0) (
                some (some (vI 0), M9)) none) (
              ic ((p0 + 13) + p2 < 0 ∨ 1127 ≤ ((p0 + 13) + p2).toNatClampNeg) none (
                cIn (call 239 [vR 12 0 253, vI p2] M9) fun v12 M11 =>
                ic (M9.1 269 ((p0 + 13) + p2).toNatClampNeg < v12) (
                  ic ((1 : Int32) &&& 1 = 1) (
                    some (some (vI 1), M11)) none) (
                  ic ((0 : Int32) &&& 1 = 0) (
                    some (some (vI 0), M11)) none))))) (
          ic ((0 : Int32) = 0) (
            ic ((0 : Int32) &&& 1 = 0) (
              some (some (vI 0), M)) none) (
            cIn (call 238 [vR 12 0 253, vI p0, vI p2] M) fun v6 M5 =>
            ic (v6 = 0) (
              ic ((0 : Int32) &&& 1 = 0) (
                some (some (vI 0), M5)) none) (
              ic ((p0 + 13) + p2 < 0 ∨ 1127 ≤ ((p0 + 13) + p2).toNatClampNeg) none (
                cIn (call 239 [vR 12 0 253, vI p2] M5) fun v8 M7 =>
                ic (M5.1 269 ((p0 + 13) + p2).toNatClampNeg < v8) (
                  ic ((1 : Int32) &&& 1 = 1) (
                    some (some (vI 1), M7)) none) (
                  ic ((0 : Int32) &&& 1 = 0) (
                    some (some (vI 0), M7)) none))))))) (
      ic ((0 : Int32) = 0) (
        ic ((0 : Int32) &&& 1 = 0) (
          some (some (vI 0), M)) none) (
        cIn (call 238 [vR 12 0 253, vI p0, vI p2] M) fun v2 M1 =>
        ic (v2 = 0) (
          ic ((0 : Int32) &&& 1 = 0) (
            some (some (vI 0), M1)) none) (
          ic ((p0 + 13) + p2 < 0 ∨ 1127 ≤ ((p0 + 13) + p2).toNatClampNeg) none (
            cIn (call 239 [vR 12 0 253, vI p2] M1) fun v4 M3 =>
            ic (M1.1 269 ((p0 + 13) + p2).toNatClampNeg < v4) (
              ic ((1 : Int32) &&& 1 = 1) (
                some (some (vI 1), M3)) none) (
              ic ((0 : Int32) &&& 1 = 0) (
                some (some (vI 0), M3)) none)))))) := rfl
set_option maxRecDepth 100000 in
theorem e262 (d : Nat) (p0 : Int32) (p1 : Int32) (p2 : Int32) (M : Mem) : evD (d + 1) 262 [vR 12 0 253, vI p0, vI p1, vI p2] M =
  ic ((p0 + 37) + p1 < 0 ∨ 1127 ≤ ((p0 + 37) + p1).toNatClampNeg) none (
    ic (M.1 269 ((p0 + 37) + p1).toNatClampNeg = 0) (
      ic ((p0 + 31) + p1 < 0 ∨ 1127 ≤ ((p0 + 31) + p1).toNatClampNeg) none (
        ic (M.1 269 ((p0 + 31) + p1).toNatClampNeg = (-1)) (
          ic ((1 : Int32) = 0) (
            some (some (vI 0), M)) (
            cIn (evD d 238 [vR 12 0 253, vI p0, vI p2] M) fun v10 M9 =>
            ic (v10 = 0) (
              some (some (vI 0), M9)) (
              ic ((p0 + 13) + p2 < 0 ∨ 1127 ≤ ((p0 + 13) + p2).toNatClampNeg) none (
                cIn (evD d 239 [vR 12 0 253, vI p2] M9) fun v12 M11 =>
                ic (M9.1 269 ((p0 + 13) + p2).toNatClampNeg < v12) (
                  some (some (vI 1), M11)) (
                  some (some (vI 0), M11)))))) (
          ic ((0 : Int32) = 0) (
            some (some (vI 0), M)) (
            cIn (evD d 238 [vR 12 0 253, vI p0, vI p2] M) fun v6 M5 =>
            ic (v6 = 0) (
              some (some (vI 0), M5)) (
              ic ((p0 + 13) + p2 < 0 ∨ 1127 ≤ ((p0 + 13) + p2).toNatClampNeg) none (
                cIn (evD d 239 [vR 12 0 253, vI p2] M5) fun v8 M7 =>
                ic (M5.1 269 ((p0 + 13) + p2).toNatClampNeg < v8) (
                  some (some (vI 1), M7)) (
                  some (some (vI 0), M7)))))))) (
      ic ((0 : Int32) = 0) (
        some (some (vI 0), M)) (
        cIn (evD d 238 [vR 12 0 253, vI p0, vI p2] M) fun v2 M1 =>
        ic (v2 = 0) (
          some (some (vI 0), M1)) (
          ic ((p0 + 13) + p2 < 0 ∨ 1127 ≤ ((p0 + 13) + p2).toNatClampNeg) none (
            cIn (evD d 239 [vR 12 0 253, vI p2] M1) fun v4 M3 =>
            ic (M1.1 269 ((p0 + 13) + p2).toNatClampNeg < v4) (
              some (some (vI 1), M3)) (
              some (some (vI 0), M3))))))) := ((evD_step (d := d) (x := 262) (as := [vR 12 0 253, vI p0, vI p1, vI p2]) (M := M) (md := (⟨"IceParliamentModel", "mayCarve", "(III)Z"⟩, prog_14_method_73_code, 5, (Option.some Jvm.ClassFile.FieldType.boolean), 12, 12)) rfl rfl).trans (j262 (evD d) (evp0 (lkE (codT 262)) (hdT 262) (evD d)) p0 p1 p2 M)).trans (by (try simp only [ic_t (show (0 : Int32) &&& 1 = 0 by decide), ic_t (show (1 : Int32) &&& 1 = 1 by decide)]))
-- IceParliamentModel chips(III)I
set_option maxRecDepth 100000 in
theorem j263 (call : Nat → List AV → Mem → Res) (back : Nat → Lv → Mem → Res) (p0 : Int32) (p1 : Int32) (p2 : Int32) (M : Mem) : evj (lkE cd_263) [85, 117, 142] call back 4000 0 [some (vR 12 0 253), some (vI p0), some (vI p1), some (vI p2), none] [] M =
  ic ((p0 + 7) + p2 < 0 ∨ 1127 ≤ ((p0 + 7) + p2).toNatClampNeg) none (
    ic ((2 : Int32) < 0 ∨ 5 ≤ (2 : Int32).toNatClampNeg) none (
      ic ((14 + (2 * p1)) + 1 < 0 ∨ 220 ≤ ((14 + (2 * p1)) + 1).toNatClampNeg) none (
        ic ((3 : Int32) < 0 ∨ 5 ≤ (3 : Int32).toNatClampNeg) none (
          ic ((p0 + 13) + p2 < 0 ∨ 1127 ≤ ((p0 + 13) + p2).toNatClampNeg) none (
            ic ((4 : Int32) < 0 ∨ 5 ≤ (4 : Int32).toNatClampNeg) none (
              ic ((7 : Int32) < 0 ∨ 220 ≤ (7 : Int32).toNatClampNeg) none (
                ic ((sI (sI (sI M 267 ((2 : Int32).toNatClampNeg) (M.1 269 ((p0 + 7) + p2).toNatClampNeg)) 267 ((3 : Int32).toNatClampNeg) ((sI M 267 ((2 : Int32).toNatClampNeg) (M.1 269 ((p0 + 7) + p2).toNatClampNeg)).1 259 ((14 + (2 * p1)) + 1).toNatClampNeg)) 267 ((4 : Int32).toNatClampNeg) ((sI (sI M 267 ((2 : Int32).toNatClampNeg) (M.1 269 ((p0 + 7) + p2).toNatClampNeg)) 267 ((3 : Int32).toNatClampNeg) ((sI M 267 ((2 : Int32).toNatClampNeg) (M.1 269 ((p0 + 7) + p2).toNatClampNeg)).1 259 ((14 + (2 * p1)) + 1).toNatClampNeg)).1 269 ((p0 + 13) + p2).toNatClampNeg)).1 259 (7 : Int32).toNatClampNeg < 0) (
                  ic ((3 : Int32) < 0 ∨ 5 ≤ (3 : Int32).toNatClampNeg) none (
                    back 85 [some (vR 12 0 253), some (vI p0), some (vI p1), some (vI p2), some (vI ((sI (sI (sI M 267 ((2 : Int32).toNatClampNeg) (M.1 269 ((p0 + 7) + p2).toNatClampNeg)) 267 ((3 : Int32).toNatClampNeg) ((sI M 267 ((2 : Int32).toNatClampNeg) (M.1 269 ((p0 + 7) + p2).toNatClampNeg)).1 259 ((14 + (2 * p1)) + 1).toNatClampNeg)) 267 ((4 : Int32).toNatClampNeg) ((sI (sI M 267 ((2 : Int32).toNatClampNeg) (M.1 269 ((p0 + 7) + p2).toNatClampNeg)) 267 ((3 : Int32).toNatClampNeg) ((sI M 267 ((2 : Int32).toNatClampNeg) (M.1 269 ((p0 + 7) + p2).toNatClampNeg)).1 259 ((14 + (2 * p1)) + 1).toNatClampNeg)).1 269 ((p0 + 13) + p2).toNatClampNeg)).1 267 (3 : Int32).toNatClampNeg))] (sI (sI (sI M 267 ((2 : Int32).toNatClampNeg) (M.1 269 ((p0 + 7) + p2).toNatClampNeg)) 267 ((3 : Int32).toNatClampNeg) ((sI M 267 ((2 : Int32).toNatClampNeg) (M.1 269 ((p0 + 7) + p2).toNatClampNeg)).1 259 ((14 + (2 * p1)) + 1).toNatClampNeg)) 267 ((4 : Int32).toNatClampNeg) ((sI (sI M 267 ((2 : Int32).toNatClampNeg) (M.1 269 ((p0 + 7) + p2).toNatClampNeg)) 267 ((3 : Int32).toNatClampNeg) ((sI M 267 ((2 : Int32).toNatClampNeg) (M.1 269 ((p0 + 7) + p2).toNatClampNeg)).1 259 ((14 + (2 * p1)) + 1).toNatClampNeg)).1 269 ((p0 + 13) + p2).toNatClampNeg)))) (
                  ic ((7 : Int32) < 0 ∨ 220 ≤ (7 : Int32).toNatClampNeg) none (
                    cIn (call 244 [vR 12 0 253, vI ((sI (sI (sI M 267 ((2 : Int32).toNatClampNeg) (M.1 269 ((p0 + 7) + p2).toNatClampNeg)) 267 ((3 : Int32).toNatClampNeg) ((sI M 267 ((2 : Int32).toNatClampNeg) (M.1 269 ((p0 + 7) + p2).toNatClampNeg)).1 259 ((14 + (2 * p1)) + 1).toNatClampNeg)) 267 ((4 : Int32).toNatClampNeg) ((sI (sI M 267 ((2 : Int32).toNatClampNeg) (M.1 269 ((p0 + 7) + p2).toNatClampNeg)) 267 ((3 : Int32).toNatClampNeg) ((sI M 267 ((2 : Int32).toNatClampNeg) (M.1 269 ((p0 + 7) + p2).toNatClampNeg)).1 259 ((14 + (2 * p1)) + 1).toNatClampNeg)).1 269 ((p0 + 13) + p2).toNatClampNeg)).1 259 (7 : Int32).toNatClampNeg)] (sI (sI (sI M 267 ((2 : Int32).toNatClampNeg) (M.1 269 ((p0 + 7) + p2).toNatClampNeg)) 267 ((3 : Int32).toNatClampNeg) ((sI M 267 ((2 : Int32).toNatClampNeg) (M.1 269 ((p0 + 7) + p2).toNatClampNeg)).1 259 ((14 + (2 * p1)) + 1).toNatClampNeg)) 267 ((4 : Int32).toNatClampNeg) ((sI (sI M 267 ((2 : Int32).toNatClampNeg) (M.1 269 ((p0 + 7) + p2).toNatClampNeg)) 267 ((3 : Int32).toNatClampNeg) ((sI M 267 ((2 : Int32).toNatClampNeg) (M.1 269 ((p0 + 7) + p2).toNatClampNeg)).1 259 ((14 + (2 * p1)) + 1).toNatClampNeg)).1 269 ((p0 + 13) + p2).toNatClampNeg))) fun v2 M1 =>
                    back 85 [some (vR 12 0 253), some (vI p0), some (vI p1), some (vI p2), some (vI v2)] M1))))))))) := rfl
set_option maxRecDepth 100000 in
theorem e263 (d : Nat) (p0 : Int32) (p1 : Int32) (p2 : Int32) (M : Mem) : evD (d + 1) 263 [vR 12 0 253, vI p0, vI p1, vI p2] M =
  ic ((p0 + 7) + p2 < 0 ∨ 1127 ≤ ((p0 + 7) + p2).toNatClampNeg) none (
    ic ((14 + (2 * p1)) + 1 < 0 ∨ 220 ≤ ((14 + (2 * p1)) + 1).toNatClampNeg) none (
      ic ((p0 + 13) + p2 < 0 ∨ 1127 ≤ ((p0 + 13) + p2).toNatClampNeg) none (
        ic ((sI (sI (sI M 267 2 (M.1 269 ((p0 + 7) + p2).toNatClampNeg)) 267 3 ((sI M 267 2 (M.1 269 ((p0 + 7) + p2).toNatClampNeg)).1 259 ((14 + (2 * p1)) + 1).toNatClampNeg)) 267 4 ((sI (sI M 267 2 (M.1 269 ((p0 + 7) + p2).toNatClampNeg)) 267 3 ((sI M 267 2 (M.1 269 ((p0 + 7) + p2).toNatClampNeg)).1 259 ((14 + (2 * p1)) + 1).toNatClampNeg)).1 269 ((p0 + 13) + p2).toNatClampNeg)).1 259 7 < 0) (
          lp0 d 263 85 [some (vR 12 0 253), some (vI p0), some (vI p1), some (vI p2), some (vI ((sI (sI (sI M 267 2 (M.1 269 ((p0 + 7) + p2).toNatClampNeg)) 267 3 ((sI M 267 2 (M.1 269 ((p0 + 7) + p2).toNatClampNeg)).1 259 ((14 + (2 * p1)) + 1).toNatClampNeg)) 267 4 ((sI (sI M 267 2 (M.1 269 ((p0 + 7) + p2).toNatClampNeg)) 267 3 ((sI M 267 2 (M.1 269 ((p0 + 7) + p2).toNatClampNeg)).1 259 ((14 + (2 * p1)) + 1).toNatClampNeg)).1 269 ((p0 + 13) + p2).toNatClampNeg)).1 267 3))] (sI (sI (sI M 267 2 (M.1 269 ((p0 + 7) + p2).toNatClampNeg)) 267 3 ((sI M 267 2 (M.1 269 ((p0 + 7) + p2).toNatClampNeg)).1 259 ((14 + (2 * p1)) + 1).toNatClampNeg)) 267 4 ((sI (sI M 267 2 (M.1 269 ((p0 + 7) + p2).toNatClampNeg)) 267 3 ((sI M 267 2 (M.1 269 ((p0 + 7) + p2).toNatClampNeg)).1 259 ((14 + (2 * p1)) + 1).toNatClampNeg)).1 269 ((p0 + 13) + p2).toNatClampNeg))) (
          cIn (evD d 244 [vR 12 0 253, vI ((sI (sI (sI M 267 2 (M.1 269 ((p0 + 7) + p2).toNatClampNeg)) 267 3 ((sI M 267 2 (M.1 269 ((p0 + 7) + p2).toNatClampNeg)).1 259 ((14 + (2 * p1)) + 1).toNatClampNeg)) 267 4 ((sI (sI M 267 2 (M.1 269 ((p0 + 7) + p2).toNatClampNeg)) 267 3 ((sI M 267 2 (M.1 269 ((p0 + 7) + p2).toNatClampNeg)).1 259 ((14 + (2 * p1)) + 1).toNatClampNeg)).1 269 ((p0 + 13) + p2).toNatClampNeg)).1 259 7)] (sI (sI (sI M 267 2 (M.1 269 ((p0 + 7) + p2).toNatClampNeg)) 267 3 ((sI M 267 2 (M.1 269 ((p0 + 7) + p2).toNatClampNeg)).1 259 ((14 + (2 * p1)) + 1).toNatClampNeg)) 267 4 ((sI (sI M 267 2 (M.1 269 ((p0 + 7) + p2).toNatClampNeg)) 267 3 ((sI M 267 2 (M.1 269 ((p0 + 7) + p2).toNatClampNeg)).1 259 ((14 + (2 * p1)) + 1).toNatClampNeg)).1 269 ((p0 + 13) + p2).toNatClampNeg))) fun v2 M1 =>
          lp0 d 263 85 [some (vR 12 0 253), some (vI p0), some (vI p1), some (vI p2), some (vI v2)] M1)))) := ((evD_step (d := d) (x := 263) (as := [vR 12 0 253, vI p0, vI p1, vI p2]) (M := M) (md := (⟨"IceParliamentModel", "chips", "(III)I"⟩, prog_14_method_74_code, 5, (Option.some Jvm.ClassFile.FieldType.int), 12, 12)) rfl rfl).trans (j263 (evD d) (evp0 (lkE (codT 263)) (hdT 263) (evD d)) p0 p1 p2 M)).trans (by (try simp only [ic_f (show ¬ ((2 : Int32) < 0 ∨ 5 ≤ (2 : Int32).toNatClampNeg) by decide), ic_f (show ¬ ((3 : Int32) < 0 ∨ 5 ≤ (3 : Int32).toNatClampNeg) by decide), ic_f (show ¬ ((4 : Int32) < 0 ∨ 5 ≤ (4 : Int32).toNatClampNeg) by decide), ic_f (show ¬ ((7 : Int32) < 0 ∨ 220 ≤ (7 : Int32).toNatClampNeg) by decide)]); (try simp only [show (2 : Int32).toNatClampNeg = 2 from rfl, show (3 : Int32).toNatClampNeg = 3 from rfl, show (4 : Int32).toNatClampNeg = 4 from rfl, show (7 : Int32).toNatClampNeg = 7 from rfl]))
set_option maxRecDepth 100000 in
theorem g263_85 (call : Nat → List AV → Mem → Res) (back : Nat → Lv → Mem → Res) (l1 : Int32) (l2 : Int32) (l3 : Int32) (l4 : Int32) (M : Mem) : stepK call back (evj (lkE cd_263) [85, 117, 142] call back 4000) (.aload_n 0, 1, 0, 0, 0, 0, 0) 85 [some (vR 12 0 253), some (vI l1), some (vI l2), some (vI l3), some (vI l4)] [] M =
  ic ((4 : Int32) < 0 ∨ 5 ≤ (4 : Int32).toNatClampNeg) none (
    ic (l4 < 0) (
      back 117 [some (vR 12 0 253), some (vI l1), some (vI l2), some (vI l3), some (vI ((M.1 267 (4 : Int32).toNatClampNeg) + 0))] M) (
      ic (99 < l4) (
        back 117 [some (vR 12 0 253), some (vI l1), some (vI l2), some (vI l3), some (vI ((M.1 267 (4 : Int32).toNatClampNeg) + 99))] M) (
        back 117 [some (vR 12 0 253), some (vI l1), some (vI l2), some (vI l3), some (vI ((M.1 267 (4 : Int32).toNatClampNeg) + l4))] M))) := rfl
set_option maxRecDepth 100000 in
theorem e263_85 (d F : Nat) (l1 : Int32) (l2 : Int32) (l3 : Int32) (l4 : Int32) (M : Mem) : lp d 263 (F + 1) 85 [some (vR 12 0 253), some (vI l1), some (vI l2), some (vI l3), some (vI l4)] M =
  ic (l4 < 0) (
    lp d 263 F 117 [some (vR 12 0 253), some (vI l1), some (vI l2), some (vI l3), some (vI ((M.1 267 4) + 0))] M) (
    ic (99 < l4) (
      lp d 263 F 117 [some (vR 12 0 253), some (vI l1), some (vI l2), some (vI l3), some (vI ((M.1 267 4) + 99))] M) (
      lp d 263 F 117 [some (vR 12 0 253), some (vI l1), some (vI l2), some (vI l3), some (vI ((M.1 267 4) + l4))] M)) := ((evp_step (code := lkE (codT 263)) (hd := hdT 263) (call := evD d) (F := F) (pc := 85) (lv := [some (vR 12 0 253), some (vI l1), some (vI l2), some (vI l3), some (vI l4)]) (M := M) (e := (.aload_n 0, 1, 0, 0, 0, 0, 0)) rfl).trans (g263_85 (evD d) (evp (lkE (codT 263)) (hdT 263) (evD d) F) l1 l2 l3 l4 M)).trans (by (try simp only [ic_f (show ¬ ((4 : Int32) < 0 ∨ 5 ≤ (4 : Int32).toNatClampNeg) by decide)]); (try simp only [show (4 : Int32).toNatClampNeg = 4 from rfl]))
set_option maxRecDepth 100000 in
theorem g263_117 (call : Nat → List AV → Mem → Res) (back : Nat → Lv → Mem → Res) (l1 : Int32) (l2 : Int32) (l3 : Int32) (l4 : Int32) (M : Mem) : stepK call back (evj (lkE cd_263) [85, 117, 142] call back 4000) (.aload_n 0, 1, 0, 0, 0, 0, 0) 117 [some (vR 12 0 253), some (vI l1), some (vI l2), some (vI l3), some (vI l4)] [] M =
  ic (99 < l4) (
    ic ((l1 + 13) + l3 < 0 ∨ 1127 ≤ ((l1 + 13) + l3).toNatClampNeg) none (
      back 142 [some (vR 12 0 253), some (vI l1), some (vI l2), some (vI l3), some (vI l4)] (sI M 269 (((l1 + 13) + l3).toNatClampNeg) 99))) (
    ic ((l1 + 13) + l3 < 0 ∨ 1127 ≤ ((l1 + 13) + l3).toNatClampNeg) none (
      back 142 [some (vR 12 0 253), some (vI l1), some (vI l2), some (vI l3), some (vI l4)] (sI M 269 (((l1 + 13) + l3).toNatClampNeg) l4))) := rfl
set_option maxRecDepth 100000 in
theorem e263_117 (d F : Nat) (l1 : Int32) (l2 : Int32) (l3 : Int32) (l4 : Int32) (M : Mem) : lp d 263 (F + 1) 117 [some (vR 12 0 253), some (vI l1), some (vI l2), some (vI l3), some (vI l4)] M =
  ic (99 < l4) (
    ic ((l1 + 13) + l3 < 0 ∨ 1127 ≤ ((l1 + 13) + l3).toNatClampNeg) none (
      lp d 263 F 142 [some (vR 12 0 253), some (vI l1), some (vI l2), some (vI l3), some (vI l4)] (sI M 269 (((l1 + 13) + l3).toNatClampNeg) 99))) (
    ic ((l1 + 13) + l3 < 0 ∨ 1127 ≤ ((l1 + 13) + l3).toNatClampNeg) none (
      lp d 263 F 142 [some (vR 12 0 253), some (vI l1), some (vI l2), some (vI l3), some (vI l4)] (sI M 269 (((l1 + 13) + l3).toNatClampNeg) l4))) := ((evp_step (code := lkE (codT 263)) (hd := hdT 263) (call := evD d) (F := F) (pc := 117) (lv := [some (vR 12 0 253), some (vI l1), some (vI l2), some (vI l3), some (vI l4)]) (M := M) (e := (.aload_n 0, 1, 0, 0, 0, 0, 0)) rfl).trans (g263_117 (evD d) (evp (lkE (codT 263)) (hdT 263) (evD d) F) l1 l2 l3 l4 M))
set_option maxRecDepth 100000 in
theorem g263_142 (call : Nat → List AV → Mem → Res) (back : Nat → Lv → Mem → Res) (l1 : Int32) (l2 : Int32) (l3 : Int32) (o4 : Option AV) (M : Mem) : stepK call back (evj (lkE cd_263) [85, 117, 142] call back 4000) (.aload_n 0, 1, 0, 0, 0, 0, 0) 142 [some (vR 12 0 253), some (vI l1), some (vI l2), some (vI l3), o4] [] M =
  ic ((l1 + 31) + l2 < 0 ∨ 1127 ≤ ((l1 + 31) + l2).toNatClampNeg) none (
    ic ((l1 + 13) + l3 < 0 ∨ 1127 ≤ ((l1 + 13) + l3).toNatClampNeg) none (
      some (some (vI ((sI M 269 (((l1 + 31) + l2).toNatClampNeg) l3).1 269 ((l1 + 13) + l3).toNatClampNeg)), sI M 269 (((l1 + 31) + l2).toNatClampNeg) l3))) := rfl
set_option maxRecDepth 100000 in
theorem e263_142 (d F : Nat) (l1 : Int32) (l2 : Int32) (l3 : Int32) (o4 : Option AV) (M : Mem) : lp d 263 (F + 1) 142 [some (vR 12 0 253), some (vI l1), some (vI l2), some (vI l3), o4] M =
  ic ((l1 + 31) + l2 < 0 ∨ 1127 ≤ ((l1 + 31) + l2).toNatClampNeg) none (
    ic ((l1 + 13) + l3 < 0 ∨ 1127 ≤ ((l1 + 13) + l3).toNatClampNeg) none (
      some (some (vI ((sI M 269 (((l1 + 31) + l2).toNatClampNeg) l3).1 269 ((l1 + 13) + l3).toNatClampNeg)), sI M 269 (((l1 + 31) + l2).toNatClampNeg) l3))) := ((evp_step (code := lkE (codT 263)) (hd := hdT 263) (call := evD d) (F := F) (pc := 142) (lv := [some (vR 12 0 253), some (vI l1), some (vI l2), some (vI l3), o4]) (M := M) (e := (.aload_n 0, 1, 0, 0, 0, 0, 0)) rfl).trans (g263_142 (evD d) (evp (lkE (codT 263)) (hdT 263) (evD d) F) l1 l2 l3 o4 M))
-- IceParliamentModel prop(I)I
set_option maxRecDepth 100000 in
theorem j264 (call : Nat → List AV → Mem → Res) (back : Nat → Lv → Mem → Res) (p0 : Int32) (M : Mem) : evj (lkE cd_264) [] call back 4000 0 [some (vR 12 0 253), some (vI p0)] [] M =
  cIn (call 265 [vR 12 0 253, vI 0, vI p0] (sI M 253 0 0)) fun v2 M1 =>
  ic (v2 = 0) (
    some (some (vI (-1)), M1)) (
    cVd (call 258 [vR 12 0 253] M1) fun M3 =>
    ic (25 + p0 < 0 ∨ 1127 ≤ (25 + p0).toNatClampNeg) none (
      ic (25 + p0 < 0 ∨ 1127 ≤ (25 + p0).toNatClampNeg) none (
        ic (25 + p0 < 0 ∨ 1127 ≤ (25 + p0).toNatClampNeg) none (
          some (some (vI ((sI M3 269 ((25 + p0).toNatClampNeg) ((M3.1 269 (25 + p0).toNatClampNeg) + 1)).1 269 (25 + p0).toNatClampNeg)), sI M3 269 ((25 + p0).toNatClampNeg) ((M3.1 269 (25 + p0).toNatClampNeg) + 1)))))) := rfl
set_option maxRecDepth 100000 in
theorem e264 (d : Nat) (p0 : Int32) (M : Mem) : evD (d + 1) 264 [vR 12 0 253, vI p0] M =
  cIn (evD d 265 [vR 12 0 253, vI 0, vI p0] (sI M 253 0 0)) fun v2 M1 =>
  ic (v2 = 0) (
    some (some (vI (-1)), M1)) (
    cVd (evD d 258 [vR 12 0 253] M1) fun M3 =>
    ic (25 + p0 < 0 ∨ 1127 ≤ (25 + p0).toNatClampNeg) none (
      ic (25 + p0 < 0 ∨ 1127 ≤ (25 + p0).toNatClampNeg) none (
        ic (25 + p0 < 0 ∨ 1127 ≤ (25 + p0).toNatClampNeg) none (
          some (some (vI ((sI M3 269 ((25 + p0).toNatClampNeg) ((M3.1 269 (25 + p0).toNatClampNeg) + 1)).1 269 (25 + p0).toNatClampNeg)), sI M3 269 ((25 + p0).toNatClampNeg) ((M3.1 269 (25 + p0).toNatClampNeg) + 1)))))) := ((evD_step (d := d) (x := 264) (as := [vR 12 0 253, vI p0]) (M := M) (md := (⟨"IceParliamentModel", "prop", "(I)I"⟩, prog_14_method_79_code, 2, (Option.some Jvm.ClassFile.FieldType.int), 12, 12)) rfl rfl).trans (j264 (evD d) (evp0 (lkE (codT 264)) (hdT 264) (evD d)) p0 M))
-- IceParliamentModel mayProp(II)Z
set_option maxRecDepth 100000 in
theorem j265 (call : Nat → List AV → Mem → Res) (back : Nat → Lv → Mem → Res) (p0 : Int32) (p1 : Int32) (M : Mem) : evj (lkE cd_265) [] call back 4000 0 [some (vR 12 0 253), some (vI p0), some (vI p1)] [] M =
  cIn (call 238 [vR 12 0 253, vI p0, vI p1] M) fun v2 M1 =>
  ic (v2 = 0) (
    ic ((0 : Int32) &&& 1 = 0) (
      some (some (vI 0), M1)) none) (
    ic ((p0 + 25) + p1 < 0 ∨ 1127 ≤ ((p0 + 25) + p1).toNatClampNeg) none (
      ic (M1.1 269 ((p0 + 25) + p1).toNatClampNeg < 3) (
        ic ((1 : Int32) &&& 1 = 1) (
          some (some (vI 1), M1)) none) (
        ic ((0 : Int32) &&& 1 = 0) (
          some (some (vI 0), M1)) none))) := rfl
set_option maxRecDepth 100000 in
theorem e265 (d : Nat) (p0 : Int32) (p1 : Int32) (M : Mem) : evD (d + 1) 265 [vR 12 0 253, vI p0, vI p1] M =
  cIn (evD d 238 [vR 12 0 253, vI p0, vI p1] M) fun v2 M1 =>
  ic (v2 = 0) (
    some (some (vI 0), M1)) (
    ic ((p0 + 25) + p1 < 0 ∨ 1127 ≤ ((p0 + 25) + p1).toNatClampNeg) none (
      ic (M1.1 269 ((p0 + 25) + p1).toNatClampNeg < 3) (
        some (some (vI 1), M1)) (
        some (some (vI 0), M1)))) := ((evD_step (d := d) (x := 265) (as := [vR 12 0 253, vI p0, vI p1]) (M := M) (md := (⟨"IceParliamentModel", "mayProp", "(II)Z"⟩, prog_14_method_75_code, 3, (Option.some Jvm.ClassFile.FieldType.boolean), 12, 12)) rfl rfl).trans (j265 (evD d) (evp0 (lkE (codT 265)) (hdT 265) (evD d)) p0 p1 M)).trans (by (try simp only [ic_t (show (0 : Int32) &&& 1 = 0 by decide), ic_t (show (1 : Int32) &&& 1 = 1 by decide)]))
-- IceParliamentModel torch(I)I
set_option maxRecDepth 100000 in
theorem j266 (call : Nat → List AV → Mem → Res) (back : Nat → Lv → Mem → Res) (p0 : Int32) (M : Mem) : evj (lkE cd_266) [] call back 4000 0 [some (vR 12 0 253), some (vI p0)] [] M =
  cIn (call 238 [vR 12 0 253, vI 0, vI p0] (sI M 253 0 0)) fun v2 M1 =>
  ic (v2 = 0) (
    some (some (vI (-1)), M1)) (
    cVd (call 258 [vR 12 0 253] M1) fun M3 =>
    cIn (call 267 [vR 12 0 253, vI 0, vI p0] M3) fun v5 M4 =>
    some (some (vI v5), M4)) := rfl
set_option maxRecDepth 100000 in
theorem e266 (d : Nat) (p0 : Int32) (M : Mem) : evD (d + 1) 266 [vR 12 0 253, vI p0] M =
  cIn (evD d 238 [vR 12 0 253, vI 0, vI p0] (sI M 253 0 0)) fun v2 M1 =>
  ic (v2 = 0) (
    some (some (vI (-1)), M1)) (
    cVd (evD d 258 [vR 12 0 253] M1) fun M3 =>
    cIn (evD d 267 [vR 12 0 253, vI 0, vI p0] M3) fun v5 M4 =>
    some (some (vI v5), M4)) := ((evD_step (d := d) (x := 266) (as := [vR 12 0 253, vI p0]) (M := M) (md := (⟨"IceParliamentModel", "torch", "(I)I"⟩, prog_14_method_80_code, 2, (Option.some Jvm.ClassFile.FieldType.int), 12, 12)) rfl rfl).trans (j266 (evD d) (evp0 (lkE (codT 266)) (hdT 266) (evD d)) p0 M))
-- IceParliamentModel burns(II)I
set_option maxRecDepth 100000 in
theorem j267 (call : Nat → List AV → Mem → Res) (back : Nat → Lv → Mem → Res) (p0 : Int32) (p1 : Int32) (M : Mem) : evj (lkE cd_267) [] call back 4000 0 [some (vR 12 0 253), some (vI p0), some (vI p1)] [] M =
  ic ((p0 + 7) + p1 < 0 ∨ 1127 ≤ ((p0 + 7) + p1).toNatClampNeg) none (
    ic ((p0 + 7) + p1 < 0 ∨ 1127 ≤ ((p0 + 7) + p1).toNatClampNeg) none (
      ic ((p0 + 7) + p1 < 0 ∨ 1127 ≤ ((p0 + 7) + p1).toNatClampNeg) none (
        ic ((sI M 269 (((p0 + 7) + p1).toNatClampNeg) ((M.1 269 ((p0 + 7) + p1).toNatClampNeg) - 1)).1 269 ((p0 + 7) + p1).toNatClampNeg = 0) (
          ic ((p0 + 1) + p1 < 0 ∨ 1127 ≤ ((p0 + 1) + p1).toNatClampNeg) none (
            ic ((p0 + 7) + p1 < 0 ∨ 1127 ≤ ((p0 + 7) + p1).toNatClampNeg) none (
              some (some (vI ((sI (sI M 269 (((p0 + 7) + p1).toNatClampNeg) ((M.1 269 ((p0 + 7) + p1).toNatClampNeg) - 1)) 269 (((p0 + 1) + p1).toNatClampNeg) 2).1 269 ((p0 + 7) + p1).toNatClampNeg)), sI (sI M 269 (((p0 + 7) + p1).toNatClampNeg) ((M.1 269 ((p0 + 7) + p1).toNatClampNeg) - 1)) 269 (((p0 + 1) + p1).toNatClampNeg) 2)))) (
          ic ((p0 + 1) + p1 < 0 ∨ 1127 ≤ ((p0 + 1) + p1).toNatClampNeg) none (
            ic ((p0 + 7) + p1 < 0 ∨ 1127 ≤ ((p0 + 7) + p1).toNatClampNeg) none (
              some (some (vI ((sI (sI M 269 (((p0 + 7) + p1).toNatClampNeg) ((M.1 269 ((p0 + 7) + p1).toNatClampNeg) - 1)) 269 (((p0 + 1) + p1).toNatClampNeg) 1).1 269 ((p0 + 7) + p1).toNatClampNeg)), sI (sI M 269 (((p0 + 7) + p1).toNatClampNeg) ((M.1 269 ((p0 + 7) + p1).toNatClampNeg) - 1)) 269 (((p0 + 1) + p1).toNatClampNeg) 1))))))) := rfl
set_option maxRecDepth 100000 in
theorem e267 (d : Nat) (p0 : Int32) (p1 : Int32) (M : Mem) : evD (d + 1) 267 [vR 12 0 253, vI p0, vI p1] M =
  ic ((p0 + 7) + p1 < 0 ∨ 1127 ≤ ((p0 + 7) + p1).toNatClampNeg) none (
    ic ((p0 + 7) + p1 < 0 ∨ 1127 ≤ ((p0 + 7) + p1).toNatClampNeg) none (
      ic ((p0 + 7) + p1 < 0 ∨ 1127 ≤ ((p0 + 7) + p1).toNatClampNeg) none (
        ic ((sI M 269 (((p0 + 7) + p1).toNatClampNeg) ((M.1 269 ((p0 + 7) + p1).toNatClampNeg) - 1)).1 269 ((p0 + 7) + p1).toNatClampNeg = 0) (
          ic ((p0 + 1) + p1 < 0 ∨ 1127 ≤ ((p0 + 1) + p1).toNatClampNeg) none (
            ic ((p0 + 7) + p1 < 0 ∨ 1127 ≤ ((p0 + 7) + p1).toNatClampNeg) none (
              some (some (vI ((sI (sI M 269 (((p0 + 7) + p1).toNatClampNeg) ((M.1 269 ((p0 + 7) + p1).toNatClampNeg) - 1)) 269 (((p0 + 1) + p1).toNatClampNeg) 2).1 269 ((p0 + 7) + p1).toNatClampNeg)), sI (sI M 269 (((p0 + 7) + p1).toNatClampNeg) ((M.1 269 ((p0 + 7) + p1).toNatClampNeg) - 1)) 269 (((p0 + 1) + p1).toNatClampNeg) 2)))) (
          ic ((p0 + 1) + p1 < 0 ∨ 1127 ≤ ((p0 + 1) + p1).toNatClampNeg) none (
            ic ((p0 + 7) + p1 < 0 ∨ 1127 ≤ ((p0 + 7) + p1).toNatClampNeg) none (
              some (some (vI ((sI (sI M 269 (((p0 + 7) + p1).toNatClampNeg) ((M.1 269 ((p0 + 7) + p1).toNatClampNeg) - 1)) 269 (((p0 + 1) + p1).toNatClampNeg) 1).1 269 ((p0 + 7) + p1).toNatClampNeg)), sI (sI M 269 (((p0 + 7) + p1).toNatClampNeg) ((M.1 269 ((p0 + 7) + p1).toNatClampNeg) - 1)) 269 (((p0 + 1) + p1).toNatClampNeg) 1))))))) := ((evD_step (d := d) (x := 267) (as := [vR 12 0 253, vI p0, vI p1]) (M := M) (md := (⟨"IceParliamentModel", "burns", "(II)I"⟩, prog_14_method_76_code, 3, (Option.some Jvm.ClassFile.FieldType.int), 12, 12)) rfl rfl).trans (j267 (evD d) (evp0 (lkE (codT 267)) (hdT 267) (evD d)) p0 p1 M))
-- IceParliamentModel night()I
set_option maxRecDepth 100000 in
theorem j268 (call : Nat → List AV → Mem → Res) (back : Nat → Lv → Mem → Res)  (M : Mem) : evj (lkE cd_268) [] call back 4000 0 [some (vR 12 0 253)] [] M =
  cVd (call 258 [vR 12 0 253] (sI M 253 0 0)) fun M1 =>
  cIn (call 269 [vR 12 0 253, vI 0, vI 0] M1) fun v3 M2 =>
  some (some (vI v3), M2) := rfl
set_option maxRecDepth 100000 in
theorem e268 (d : Nat)  (M : Mem) : evD (d + 1) 268 [vR 12 0 253] M =
  cVd (evD d 258 [vR 12 0 253] (sI M 253 0 0)) fun M1 =>
  cIn (evD d 269 [vR 12 0 253, vI 0, vI 0] M1) fun v3 M2 =>
  some (some (vI v3), M2) := ((evD_step (d := d) (x := 268) (as := [vR 12 0 253]) (M := M) (md := (⟨"IceParliamentModel", "night", "()I"⟩, prog_14_method_81_code, 1, (Option.some Jvm.ClassFile.FieldType.int), 12, 12)) rfl rfl).trans (j268 (evD d) (evp0 (lkE (codT 268)) (hdT 268) (evD d))  M))
-- IceParliamentModel passes(IZ)I
set_option maxRecDepth 100000 in
theorem j269 (call : Nat → List AV → Mem → Res) (back : Nat → Lv → Mem → Res) (p0 : Int32) (p1 : Int32) (M : Mem) : evj (lkE cd_269) [5, 137] call back 4000 0 [some (vR 12 0 253), some (vI p0), some (vI p1), none, none, none] [] M =
  back 5 [some (vR 12 0 253), some (vI p0), some (vI p1), some (vI 0), some (vI 0), none] M := rfl
set_option maxRecDepth 100000 in
theorem e269 (d : Nat) (p0 : Int32) (p1 : Int32) (M : Mem) : evD (d + 1) 269 [vR 12 0 253, vI p0, vI p1] M =
  lp0 d 269 5 [some (vR 12 0 253), some (vI p0), some (vI p1), some (vI 0), some (vI 0), none] M := ((evD_step (d := d) (x := 269) (as := [vR 12 0 253, vI p0, vI p1]) (M := M) (md := (⟨"IceParliamentModel", "passes", "(IZ)I"⟩, prog_14_method_65_code, 6, (Option.some Jvm.ClassFile.FieldType.int), 12, 12)) rfl rfl).trans (j269 (evD d) (evp0 (lkE (codT 269)) (hdT 269) (evD d)) p0 p1 M))
set_option maxRecDepth 100000 in
theorem g269_5 (call : Nat → List AV → Mem → Res) (back : Nat → Lv → Mem → Res) (l1 : Int32) (l2 : Int32) (l3 : Int32) (l4 : Int32) (o5 : Option AV) (M : Mem) : stepK call back (evj (lkE cd_269) [5, 137] call back 4000) (.iload 4, 2, 4, 0, 0, 0, 0) 5 [some (vR 12 0 253), some (vI l1), some (vI l2), some (vI l3), some (vI l4), o5] [] M =
  cIn (call 197 [vR 12 0 253] M) fun v2 M1 =>
  ic (l4 < v2) (
    cIn (call 238 [vR 12 0 253, vI l1, vI l4] M1) fun v4 M3 =>
    ic (v4 = 0) (
      back 5 [some (vR 12 0 253), some (vI l1), some (vI l2), some (vI l3), some (vI (l4 + 1)), o5] M3) (
      cIn (call 270 [vR 12 0 253, vI l1, vI l4, vI l2] M3) fun v6 M5 =>
      ic ((l1 + 7) + l4 < 0 ∨ 1127 ≤ ((l1 + 7) + l4).toNatClampNeg) none (
        ic ((l1 + 7) + l4 < 0 ∨ 1127 ≤ ((l1 + 7) + l4).toNatClampNeg) none (
          ic ((sI M5 269 (((l1 + 7) + l4).toNatClampNeg) v6).1 269 ((l1 + 7) + l4).toNatClampNeg = 0) (
            ic ((l1 + 1) + l4 < 0 ∨ 1127 ≤ ((l1 + 1) + l4).toNatClampNeg) none (
              cIn (call 198 [vR 12 0 253, vI l4, vI 4] (sI (sI M5 269 (((l1 + 7) + l4).toNatClampNeg) v6) 269 (((l1 + 1) + l4).toNatClampNeg) 2)) fun v8 M7 =>
              ic ((l1 + 31) + v8 < 0 ∨ 1127 ≤ ((l1 + 31) + v8).toNatClampNeg) none (
                ic (M7.1 269 ((l1 + 31) + v8).toNatClampNeg = l4) (
                  ic ((l1 + 37) + v8 < 0 ∨ 1127 ≤ ((l1 + 37) + v8).toNatClampNeg) none (
                    back 5 [some (vR 12 0 253), some (vI l1), some (vI l2), some (vI (l3 + 1)), some (vI (l4 + 1)), some (vI v8)] (sI M7 269 (((l1 + 37) + v8).toNatClampNeg) 1))) (
                  ic ((l1 + 37) + v8 < 0 ∨ 1127 ≤ ((l1 + 37) + v8).toNatClampNeg) none (
                    ic ((l1 + 37) + v8 < 0 ∨ 1127 ≤ ((l1 + 37) + v8).toNatClampNeg) none (
                      back 5 [some (vR 12 0 253), some (vI l1), some (vI l2), some (vI (l3 + 1)), some (vI (l4 + 1)), some (vI v8)] (sI M7 269 (((l1 + 37) + v8).toNatClampNeg) (M7.1 269 ((l1 + 37) + v8).toNatClampNeg)))))))) (
            back 5 [some (vR 12 0 253), some (vI l1), some (vI l2), some (vI l3), some (vI (l4 + 1)), o5] (sI M5 269 (((l1 + 7) + l4).toNatClampNeg) v6)))))) (
    back 137 [some (vR 12 0 253), some (vI l1), some (vI l2), some (vI l3), some (vI 0), o5] M1) := rfl
set_option maxRecDepth 100000 in
theorem e269_5 (d F : Nat) (l1 : Int32) (l2 : Int32) (l3 : Int32) (l4 : Int32) (o5 : Option AV) (M : Mem) : lp d 269 (F + 1) 5 [some (vR 12 0 253), some (vI l1), some (vI l2), some (vI l3), some (vI l4), o5] M =
  cIn (evD d 197 [vR 12 0 253] M) fun v2 M1 =>
  ic (l4 < v2) (
    cIn (evD d 238 [vR 12 0 253, vI l1, vI l4] M1) fun v4 M3 =>
    ic (v4 = 0) (
      lp d 269 F 5 [some (vR 12 0 253), some (vI l1), some (vI l2), some (vI l3), some (vI (l4 + 1)), o5] M3) (
      cIn (evD d 270 [vR 12 0 253, vI l1, vI l4, vI l2] M3) fun v6 M5 =>
      ic ((l1 + 7) + l4 < 0 ∨ 1127 ≤ ((l1 + 7) + l4).toNatClampNeg) none (
        ic ((l1 + 7) + l4 < 0 ∨ 1127 ≤ ((l1 + 7) + l4).toNatClampNeg) none (
          ic ((sI M5 269 (((l1 + 7) + l4).toNatClampNeg) v6).1 269 ((l1 + 7) + l4).toNatClampNeg = 0) (
            ic ((l1 + 1) + l4 < 0 ∨ 1127 ≤ ((l1 + 1) + l4).toNatClampNeg) none (
              cIn (evD d 198 [vR 12 0 253, vI l4, vI 4] (sI (sI M5 269 (((l1 + 7) + l4).toNatClampNeg) v6) 269 (((l1 + 1) + l4).toNatClampNeg) 2)) fun v8 M7 =>
              ic ((l1 + 31) + v8 < 0 ∨ 1127 ≤ ((l1 + 31) + v8).toNatClampNeg) none (
                ic (M7.1 269 ((l1 + 31) + v8).toNatClampNeg = l4) (
                  ic ((l1 + 37) + v8 < 0 ∨ 1127 ≤ ((l1 + 37) + v8).toNatClampNeg) none (
                    lp d 269 F 5 [some (vR 12 0 253), some (vI l1), some (vI l2), some (vI (l3 + 1)), some (vI (l4 + 1)), some (vI v8)] (sI M7 269 (((l1 + 37) + v8).toNatClampNeg) 1))) (
                  ic ((l1 + 37) + v8 < 0 ∨ 1127 ≤ ((l1 + 37) + v8).toNatClampNeg) none (
                    ic ((l1 + 37) + v8 < 0 ∨ 1127 ≤ ((l1 + 37) + v8).toNatClampNeg) none (
                      lp d 269 F 5 [some (vR 12 0 253), some (vI l1), some (vI l2), some (vI (l3 + 1)), some (vI (l4 + 1)), some (vI v8)] (sI M7 269 (((l1 + 37) + v8).toNatClampNeg) (M7.1 269 ((l1 + 37) + v8).toNatClampNeg)))))))) (
            lp d 269 F 5 [some (vR 12 0 253), some (vI l1), some (vI l2), some (vI l3), some (vI (l4 + 1)), o5] (sI M5 269 (((l1 + 7) + l4).toNatClampNeg) v6)))))) (
    lp d 269 F 137 [some (vR 12 0 253), some (vI l1), some (vI l2), some (vI l3), some (vI 0), o5] M1) := ((evp_step (code := lkE (codT 269)) (hd := hdT 269) (call := evD d) (F := F) (pc := 5) (lv := [some (vR 12 0 253), some (vI l1), some (vI l2), some (vI l3), some (vI l4), o5]) (M := M) (e := (.iload 4, 2, 4, 0, 0, 0, 0)) rfl).trans (g269_5 (evD d) (evp (lkE (codT 269)) (hdT 269) (evD d) F) l1 l2 l3 l4 o5 M))
set_option maxRecDepth 100000 in
theorem g269_137 (call : Nat → List AV → Mem → Res) (back : Nat → Lv → Mem → Res) (l1 : Int32) (o2 : Option AV) (l3 : Int32) (l4 : Int32) (o5 : Option AV) (M : Mem) : stepK call back (evj (lkE cd_269) [5, 137] call back 4000) (.iload 4, 2, 4, 0, 0, 0, 0) 137 [some (vR 12 0 253), some (vI l1), o2, some (vI l3), some (vI l4), o5] [] M =
  ic (l4 < 6) (
    ic ((l1 + 31) + l4 < 0 ∨ 1127 ≤ ((l1 + 31) + l4).toNatClampNeg) none (
      ic ((l1 + 43) + l4 < 0 ∨ 1127 ≤ ((l1 + 43) + l4).toNatClampNeg) none (
        back 137 [some (vR 12 0 253), some (vI l1), o2, some (vI l3), some (vI (l4 + 1)), o5] (sI (sI M 269 (((l1 + 31) + l4).toNatClampNeg) (-1)) 269 (((l1 + 43) + l4).toNatClampNeg) (-1))))) (
    ic (l1 + 0 < 0 ∨ 1127 ≤ (l1 + 0).toNatClampNeg) none (
      ic (l1 + 0 < 0 ∨ 1127 ≤ (l1 + 0).toNatClampNeg) none (
        some (some (vI l3), sI M 269 ((l1 + 0).toNatClampNeg) ((M.1 269 (l1 + 0).toNatClampNeg) + 1))))) := rfl
set_option maxRecDepth 100000 in
theorem e269_137 (d F : Nat) (l1 : Int32) (o2 : Option AV) (l3 : Int32) (l4 : Int32) (o5 : Option AV) (M : Mem) : lp d 269 (F + 1) 137 [some (vR 12 0 253), some (vI l1), o2, some (vI l3), some (vI l4), o5] M =
  ic (l4 < 6) (
    ic ((l1 + 31) + l4 < 0 ∨ 1127 ≤ ((l1 + 31) + l4).toNatClampNeg) none (
      ic ((l1 + 43) + l4 < 0 ∨ 1127 ≤ ((l1 + 43) + l4).toNatClampNeg) none (
        lp d 269 F 137 [some (vR 12 0 253), some (vI l1), o2, some (vI l3), some (vI (l4 + 1)), o5] (sI (sI M 269 (((l1 + 31) + l4).toNatClampNeg) (-1)) 269 (((l1 + 43) + l4).toNatClampNeg) (-1))))) (
    ic (l1 + 0 < 0 ∨ 1127 ≤ (l1 + 0).toNatClampNeg) none (
      ic (l1 + 0 < 0 ∨ 1127 ≤ (l1 + 0).toNatClampNeg) none (
        some (some (vI l3), sI M 269 ((l1 + 0).toNatClampNeg) ((M.1 269 (l1 + 0).toNatClampNeg) + 1))))) := ((evp_step (code := lkE (codT 269)) (hd := hdT 269) (call := evD d) (F := F) (pc := 137) (lv := [some (vR 12 0 253), some (vI l1), o2, some (vI l3), some (vI l4), o5]) (M := M) (e := (.iload 4, 2, 4, 0, 0, 0, 0)) rfl).trans (g269_137 (evD d) (evp (lkE (codT 269)) (hdT 269) (evD d) F) l1 o2 l3 l4 o5 M))
-- IceParliamentModel tallThen(IIZ)I
set_option maxRecDepth 100000 in
theorem j270 (call : Nat → List AV → Mem → Res) (back : Nat → Lv → Mem → Res) (p0 : Int32) (p1 : Int32) (p2 : Int32) (M : Mem) : evj (lkE cd_270) [] call back 4000 0 [some (vR 12 0 253), some (vI p0), some (vI p1), some (vI p2), none] [] M =
  ic ((p0 + 7) + p1 < 0 ∨ 1127 ≤ ((p0 + 7) + p1).toNatClampNeg) none (
    cIn (call 241 [vR 12 0 253, vI p0, vI p1, vI p2] M) fun v2 M1 =>
    ic ((M.1 269 ((p0 + 7) + p1).toNatClampNeg) - v2 < 0) (
      some (some (vI 0), M1)) (
      some (some (vI ((M.1 269 ((p0 + 7) + p1).toNatClampNeg) - v2)), M1))) := rfl
set_option maxRecDepth 100000 in
theorem e270 (d : Nat) (p0 : Int32) (p1 : Int32) (p2 : Int32) (M : Mem) : evD (d + 1) 270 [vR 12 0 253, vI p0, vI p1, vI p2] M =
  ic ((p0 + 7) + p1 < 0 ∨ 1127 ≤ ((p0 + 7) + p1).toNatClampNeg) none (
    cIn (evD d 241 [vR 12 0 253, vI p0, vI p1, vI p2] M) fun v2 M1 =>
    ic ((M.1 269 ((p0 + 7) + p1).toNatClampNeg) - v2 < 0) (
      some (some (vI 0), M1)) (
      some (some (vI ((M.1 269 ((p0 + 7) + p1).toNatClampNeg) - v2)), M1))) := ((evD_step (d := d) (x := 270) (as := [vR 12 0 253, vI p0, vI p1, vI p2]) (M := M) (md := (⟨"IceParliamentModel", "tallThen", "(IIZ)I"⟩, prog_14_method_64_code, 5, (Option.some Jvm.ClassFile.FieldType.int), 12, 12)) rfl rfl).trans (j270 (evD d) (evp0 (lkE (codT 270)) (hdT 270) (evD d)) p0 p1 p2 M))
-- IceParliamentModel undo()Z
set_option maxRecDepth 100000 in
theorem j271 (call : Nat → List AV → Mem → Res) (back : Nat → Lv → Mem → Res)  (M : Mem) : evj (lkE cd_271) [] call back 4000 0 [some (vR 12 0 253)] [] M =
  ic ((sI M 253 0 0).1 253 26 = 0) (
    ic ((0 : Int32) &&& 1 = 0) (
      some (some (vI 0), sI M 253 0 0)) none) (
    cVd (call 259 [vR 12 0 253, vI (49 * (5 + ((sI (sI M 253 0 0) 253 26 (((sI M 253 0 0).1 253 26) - 1)).1 253 26))), vI 0] (sI (sI M 253 0 0) 253 26 (((sI M 253 0 0).1 253 26) - 1))) fun M1 =>
    ic ((1 : Int32) &&& 1 = 1) (
      some (some (vI 1), M1)) none) := rfl
set_option maxRecDepth 100000 in
theorem e271 (d : Nat)  (M : Mem) : evD (d + 1) 271 [vR 12 0 253] M =
  ic ((sI M 253 0 0).1 253 26 = 0) (
    some (some (vI 0), sI M 253 0 0)) (
    cVd (evD d 259 [vR 12 0 253, vI (49 * (5 + ((sI (sI M 253 0 0) 253 26 (((sI M 253 0 0).1 253 26) - 1)).1 253 26))), vI 0] (sI (sI M 253 0 0) 253 26 (((sI M 253 0 0).1 253 26) - 1))) fun M1 =>
    some (some (vI 1), M1)) := ((evD_step (d := d) (x := 271) (as := [vR 12 0 253]) (M := M) (md := (⟨"IceParliamentModel", "undo", "()Z"⟩, prog_14_method_82_code, 1, (Option.some Jvm.ClassFile.FieldType.boolean), 12, 12)) rfl rfl).trans (j271 (evD d) (evp0 (lkE (codT 271)) (hdT 271) (evD d))  M)).trans (by (try simp only [ic_t (show (1 : Int32) &&& 1 = 1 by decide), ic_t (show (0 : Int32) &&& 1 = 0 by decide)]))
-- IceParliamentModel judged(I)I
set_option maxRecDepth 100000 in
theorem j272 (call : Nat → List AV → Mem → Res) (back : Nat → Lv → Mem → Res) (p0 : Int32) (M : Mem) : evj (lkE cd_272) [31, 99, 101, 126, 128] call back 4000 0 [some (vR 12 0 253), some (vI p0), none, none, none, none, none] [] M =
  cIn (call 222 [vI p0, vI 0, vI 2] (sI M 253 0 0)) fun v2 M1 =>
  ic (v2 = 0) (
    some (some (vI (-2)), M1)) (
    cVd (call 196 [vR 12 0 253, vI 1029] M1) fun M3 =>
    back 31 [some (vR 12 0 253), some (vI p0), some (vI (-1)), some (vI (-1)), some (vI 0), none, none] M3) := rfl
set_option maxRecDepth 100000 in
theorem e272 (d : Nat) (p0 : Int32) (M : Mem) : evD (d + 1) 272 [vR 12 0 253, vI p0] M =
  cIn (evD d 222 [vI p0, vI 0, vI 2] (sI M 253 0 0)) fun v2 M1 =>
  ic (v2 = 0) (
    some (some (vI (-2)), M1)) (
    cVd (evD d 196 [vR 12 0 253, vI 1029] M1) fun M3 =>
    lp0 d 272 31 [some (vR 12 0 253), some (vI p0), some (vI (-1)), some (vI (-1)), some (vI 0), none, none] M3) := ((evD_step (d := d) (x := 272) (as := [vR 12 0 253, vI p0]) (M := M) (md := (⟨"IceParliamentModel", "judged", "(I)I"⟩, prog_14_method_84_code, 7, (Option.some Jvm.ClassFile.FieldType.int), 12, 12)) rfl rfl).trans (j272 (evD d) (evp0 (lkE (codT 272)) (hdT 272) (evD d)) p0 M))
set_option maxRecDepth 100000 in
theorem g272_31 (call : Nat → List AV → Mem → Res) (back : Nat → Lv → Mem → Res) (l1 : Int32) (l2 : Int32) (l3 : Int32) (l4 : Int32) (o5 : Option AV) (o6 : Option AV) (M : Mem) : stepK call back (evj (lkE cd_272) [31, 99, 101, 126, 128] call back 4000) (.iload 4, 2, 4, 0, 0, 0, 0) 31 [some (vR 12 0 253), some (vI l1), some (vI l2), some (vI l3), some (vI l4), o5, o6] [] M =
  ic ((0 : Int32) < 0 ∨ 250 ≤ (0 : Int32).toNatClampNeg) none (
    ic (l4 < M.1 266 (0 : Int32).toNatClampNeg) (
      ic (1 + (3 * l4) < 0 ∨ 250 ≤ (1 + (3 * l4)).toNatClampNeg) none (
        ic (2 + (3 * l4) < 0 ∨ 250 ≤ (2 + (3 * l4)).toNatClampNeg) none (
          ic (3 + (3 * l4) < 0 ∨ 250 ≤ (3 + (3 * l4)).toNatClampNeg) none (
            cIn (call 273 [vR 12 0 253, vI (M.1 266 (1 + (3 * l4)).toNatClampNeg), vI (M.1 266 (2 + (3 * l4)).toNatClampNeg), vI (M.1 266 (3 + (3 * l4)).toNatClampNeg)] M) fun v6 M5 =>
            ic (v6 = 0) (
              ic (l2 < 0) (
                back 101 [some (vR 12 0 253), some (vI l1), some (vI l4), some (vI l3), some (vI l4), some (vI (M.1 266 (1 + (3 * l4)).toNatClampNeg)), some (vI v6)] M5) (
                back 99 [some (vR 12 0 253), some (vI l1), some (vI l2), some (vI l3), some (vI l4), some (vI (M.1 266 (1 + (3 * l4)).toNatClampNeg)), some (vI v6)] M5)) (
              back 99 [some (vR 12 0 253), some (vI l1), some (vI l2), some (vI l3), some (vI l4), some (vI (M.1 266 (1 + (3 * l4)).toNatClampNeg)), some (vI v6)] M5))))) (
      ic (l1 = 0) (
        some (some (vI l2), M)) (
        ic (l1 = 1) (
          some (some (vI l3), M)) (
          cIn (call 250 [vR 12 0 253, vI 1029] M) fun v2 M1 =>
          cIn (call 252 [vR 12 0 253, vI v2] M1) fun v4 M3 =>
          some (some (vI v4), M3))))) := rfl
set_option maxRecDepth 100000 in
theorem e272_31 (d F : Nat) (l1 : Int32) (l2 : Int32) (l3 : Int32) (l4 : Int32) (o5 : Option AV) (o6 : Option AV) (M : Mem) : lp d 272 (F + 1) 31 [some (vR 12 0 253), some (vI l1), some (vI l2), some (vI l3), some (vI l4), o5, o6] M =
  ic (l4 < M.1 266 0) (
    ic (1 + (3 * l4) < 0 ∨ 250 ≤ (1 + (3 * l4)).toNatClampNeg) none (
      ic (2 + (3 * l4) < 0 ∨ 250 ≤ (2 + (3 * l4)).toNatClampNeg) none (
        ic (3 + (3 * l4) < 0 ∨ 250 ≤ (3 + (3 * l4)).toNatClampNeg) none (
          cIn (evD d 273 [vR 12 0 253, vI (M.1 266 (1 + (3 * l4)).toNatClampNeg), vI (M.1 266 (2 + (3 * l4)).toNatClampNeg), vI (M.1 266 (3 + (3 * l4)).toNatClampNeg)] M) fun v6 M5 =>
          ic (v6 = 0) (
            ic (l2 < 0) (
              lp d 272 F 101 [some (vR 12 0 253), some (vI l1), some (vI l4), some (vI l3), some (vI l4), some (vI (M.1 266 (1 + (3 * l4)).toNatClampNeg)), some (vI v6)] M5) (
              lp d 272 F 99 [some (vR 12 0 253), some (vI l1), some (vI l2), some (vI l3), some (vI l4), some (vI (M.1 266 (1 + (3 * l4)).toNatClampNeg)), some (vI v6)] M5)) (
            lp d 272 F 99 [some (vR 12 0 253), some (vI l1), some (vI l2), some (vI l3), some (vI l4), some (vI (M.1 266 (1 + (3 * l4)).toNatClampNeg)), some (vI v6)] M5))))) (
    ic (l1 = 0) (
      some (some (vI l2), M)) (
      ic (l1 = 1) (
        some (some (vI l3), M)) (
        cIn (evD d 250 [vR 12 0 253, vI 1029] M) fun v2 M1 =>
        cIn (evD d 252 [vR 12 0 253, vI v2] M1) fun v4 M3 =>
        some (some (vI v4), M3)))) := ((evp_step (code := lkE (codT 272)) (hd := hdT 272) (call := evD d) (F := F) (pc := 31) (lv := [some (vR 12 0 253), some (vI l1), some (vI l2), some (vI l3), some (vI l4), o5, o6]) (M := M) (e := (.iload 4, 2, 4, 0, 0, 0, 0)) rfl).trans (g272_31 (evD d) (evp (lkE (codT 272)) (hdT 272) (evD d) F) l1 l2 l3 l4 o5 o6 M)).trans (by (try simp only [ic_f (show ¬ ((0 : Int32) < 0 ∨ 250 ≤ (0 : Int32).toNatClampNeg) by decide)]); (try simp only [show (0 : Int32).toNatClampNeg = 0 from rfl]))
set_option maxRecDepth 100000 in
theorem g272_99 (call : Nat → List AV → Mem → Res) (back : Nat → Lv → Mem → Res) (l1 : Int32) (l2 : Int32) (l3 : Int32) (l4 : Int32) (l5 : Int32) (o6 : Option AV) (M : Mem) : stepK call back (evj (lkE cd_272) [31, 99, 101, 126, 128] call back 4000) (.iload_n 2, 1, 2, 0, 0, 0, 0) 99 [some (vR 12 0 253), some (vI l1), some (vI l2), some (vI l3), some (vI l4), some (vI l5), o6] [] M =
  back 101 [some (vR 12 0 253), some (vI l1), some (vI l2), some (vI l3), some (vI l4), some (vI l5), o6] M := rfl
set_option maxRecDepth 100000 in
theorem e272_99 (d F : Nat) (l1 : Int32) (l2 : Int32) (l3 : Int32) (l4 : Int32) (l5 : Int32) (o6 : Option AV) (M : Mem) : lp d 272 (F + 1) 99 [some (vR 12 0 253), some (vI l1), some (vI l2), some (vI l3), some (vI l4), some (vI l5), o6] M =
  lp d 272 F 101 [some (vR 12 0 253), some (vI l1), some (vI l2), some (vI l3), some (vI l4), some (vI l5), o6] M := ((evp_step (code := lkE (codT 272)) (hd := hdT 272) (call := evD d) (F := F) (pc := 99) (lv := [some (vR 12 0 253), some (vI l1), some (vI l2), some (vI l3), some (vI l4), some (vI l5), o6]) (M := M) (e := (.iload_n 2, 1, 2, 0, 0, 0, 0)) rfl).trans (g272_99 (evD d) (evp (lkE (codT 272)) (hdT 272) (evD d) F) l1 l2 l3 l4 l5 o6 M))
set_option maxRecDepth 100000 in
theorem g272_101 (call : Nat → List AV → Mem → Res) (back : Nat → Lv → Mem → Res) (l1 : Int32) (l2 : Int32) (l3 : Int32) (l4 : Int32) (l5 : Int32) (o6 : Option AV) (M : Mem) : stepK call back (evj (lkE cd_272) [31, 99, 101, 126, 128] call back 4000) (.iload_n 3, 1, 3, 0, 0, 0, 0) 101 [some (vR 12 0 253), some (vI l1), some (vI l2), some (vI l3), some (vI l4), some (vI l5), o6] [] M =
  ic (l3 < 0) (
    ic (l5 = 4) (
      cIn (call 250 [vR 12 0 253, vI 1029] M) fun v2 M1 =>
      ic (v2 = 0) (
        back 128 [some (vR 12 0 253), some (vI l1), some (vI l2), some (vI l4), some (vI l4), some (vI l5), o6] M1) (
        back 126 [some (vR 12 0 253), some (vI l1), some (vI l2), some (vI l3), some (vI l4), some (vI l5), o6] M1)) (
      back 126 [some (vR 12 0 253), some (vI l1), some (vI l2), some (vI l3), some (vI l4), some (vI l5), o6] M)) (
    back 126 [some (vR 12 0 253), some (vI l1), some (vI l2), some (vI l3), some (vI l4), some (vI l5), o6] M) := rfl
set_option maxRecDepth 100000 in
theorem e272_101 (d F : Nat) (l1 : Int32) (l2 : Int32) (l3 : Int32) (l4 : Int32) (l5 : Int32) (o6 : Option AV) (M : Mem) : lp d 272 (F + 1) 101 [some (vR 12 0 253), some (vI l1), some (vI l2), some (vI l3), some (vI l4), some (vI l5), o6] M =
  ic (l3 < 0) (
    ic (l5 = 4) (
      cIn (evD d 250 [vR 12 0 253, vI 1029] M) fun v2 M1 =>
      ic (v2 = 0) (
        lp d 272 F 128 [some (vR 12 0 253), some (vI l1), some (vI l2), some (vI l4), some (vI l4), some (vI l5), o6] M1) (
        lp d 272 F 126 [some (vR 12 0 253), some (vI l1), some (vI l2), some (vI l3), some (vI l4), some (vI l5), o6] M1)) (
      lp d 272 F 126 [some (vR 12 0 253), some (vI l1), some (vI l2), some (vI l3), some (vI l4), some (vI l5), o6] M)) (
    lp d 272 F 126 [some (vR 12 0 253), some (vI l1), some (vI l2), some (vI l3), some (vI l4), some (vI l5), o6] M) := ((evp_step (code := lkE (codT 272)) (hd := hdT 272) (call := evD d) (F := F) (pc := 101) (lv := [some (vR 12 0 253), some (vI l1), some (vI l2), some (vI l3), some (vI l4), some (vI l5), o6]) (M := M) (e := (.iload_n 3, 1, 3, 0, 0, 0, 0)) rfl).trans (g272_101 (evD d) (evp (lkE (codT 272)) (hdT 272) (evD d) F) l1 l2 l3 l4 l5 o6 M))
set_option maxRecDepth 100000 in
theorem g272_126 (call : Nat → List AV → Mem → Res) (back : Nat → Lv → Mem → Res) (l1 : Int32) (l2 : Int32) (l3 : Int32) (l4 : Int32) (o5 : Option AV) (o6 : Option AV) (M : Mem) : stepK call back (evj (lkE cd_272) [31, 99, 101, 126, 128] call back 4000) (.iload_n 3, 1, 3, 0, 0, 0, 0) 126 [some (vR 12 0 253), some (vI l1), some (vI l2), some (vI l3), some (vI l4), o5, o6] [] M =
  back 128 [some (vR 12 0 253), some (vI l1), some (vI l2), some (vI l3), some (vI l4), o5, o6] M := rfl
set_option maxRecDepth 100000 in
theorem e272_126 (d F : Nat) (l1 : Int32) (l2 : Int32) (l3 : Int32) (l4 : Int32) (o5 : Option AV) (o6 : Option AV) (M : Mem) : lp d 272 (F + 1) 126 [some (vR 12 0 253), some (vI l1), some (vI l2), some (vI l3), some (vI l4), o5, o6] M =
  lp d 272 F 128 [some (vR 12 0 253), some (vI l1), some (vI l2), some (vI l3), some (vI l4), o5, o6] M := ((evp_step (code := lkE (codT 272)) (hd := hdT 272) (call := evD d) (F := F) (pc := 126) (lv := [some (vR 12 0 253), some (vI l1), some (vI l2), some (vI l3), some (vI l4), o5, o6]) (M := M) (e := (.iload_n 3, 1, 3, 0, 0, 0, 0)) rfl).trans (g272_126 (evD d) (evp (lkE (codT 272)) (hdT 272) (evD d) F) l1 l2 l3 l4 o5 o6 M))
set_option maxRecDepth 100000 in
theorem g272_128 (call : Nat → List AV → Mem → Res) (back : Nat → Lv → Mem → Res) (l1 : Int32) (l2 : Int32) (l3 : Int32) (l4 : Int32) (o5 : Option AV) (o6 : Option AV) (M : Mem) : stepK call back (evj (lkE cd_272) [31, 99, 101, 126, 128] call back 4000) (.iinc 4 (1), 3, 4, 0, 0, 1, 0) 128 [some (vR 12 0 253), some (vI l1), some (vI l2), some (vI l3), some (vI l4), o5, o6] [] M =
  back 31 [some (vR 12 0 253), some (vI l1), some (vI l2), some (vI l3), some (vI (l4 + 1)), o5, o6] M := rfl
set_option maxRecDepth 100000 in
theorem e272_128 (d F : Nat) (l1 : Int32) (l2 : Int32) (l3 : Int32) (l4 : Int32) (o5 : Option AV) (o6 : Option AV) (M : Mem) : lp d 272 (F + 1) 128 [some (vR 12 0 253), some (vI l1), some (vI l2), some (vI l3), some (vI l4), o5, o6] M =
  lp d 272 F 31 [some (vR 12 0 253), some (vI l1), some (vI l2), some (vI l3), some (vI (l4 + 1)), o5, o6] M := ((evp_step (code := lkE (codT 272)) (hd := hdT 272) (call := evD d) (F := F) (pc := 128) (lv := [some (vR 12 0 253), some (vI l1), some (vI l2), some (vI l3), some (vI l4), o5, o6]) (M := M) (e := (.iinc 4 (1), 3, 4, 0, 0, 1, 0)) rfl).trans (g272_128 (evD d) (evp (lkE (codT 272)) (hdT 272) (evD d) F) l1 l2 l3 l4 o5 o6 M))
-- IceParliamentModel does(III)Z
set_option maxRecDepth 100000 in
theorem j273 (call : Nat → List AV → Mem → Res) (back : Nat → Lv → Mem → Res) (p0 : Int32) (p1 : Int32) (p2 : Int32) (M : Mem) : evj (lkE cd_273) [75, 96, 119, 146, 160] call back 4000 0 [some (vR 12 0 253), some (vI p0), some (vI p1), some (vI p2), none] [] M =
  ic (p0 = 4) (
    cIn (call 269 [vR 12 0 253, vI 1029, vI 0] M) fun v10 M9 =>
    ic ((1 : Int32) &&& 1 = 1) (
      some (some (vI 1), M9)) none) (
    ic (p0 = 0) (
      cIn (call 256 [vR 12 0 253, vI 1029, vI p1, vI p2] M) fun v8 M7 =>
      back 75 [some (vR 12 0 253), some (vI p0), some (vI p1), some (vI p2), some (vI v8)] M7) (
      ic (p0 = 1) (
        cIn (call 262 [vR 12 0 253, vI 1029, vI p1, vI p2] M) fun v6 M5 =>
        back 75 [some (vR 12 0 253), some (vI p0), some (vI p1), some (vI p2), some (vI v6)] M5) (
        ic (p0 = 2) (
          cIn (call 265 [vR 12 0 253, vI 1029, vI p1] M) fun v4 M3 =>
          back 75 [some (vR 12 0 253), some (vI p0), some (vI p1), some (vI p2), some (vI v4)] M3) (
          cIn (call 238 [vR 12 0 253, vI 1029, vI p1] M) fun v2 M1 =>
          back 75 [some (vR 12 0 253), some (vI p0), some (vI p1), some (vI p2), some (vI v2)] M1)))) := rfl
set_option maxRecDepth 100000 in
theorem e273 (d : Nat) (p0 : Int32) (p1 : Int32) (p2 : Int32) (M : Mem) : evD (d + 1) 273 [vR 12 0 253, vI p0, vI p1, vI p2] M =
  ic (p0 = 4) (
    cIn (evD d 269 [vR 12 0 253, vI 1029, vI 0] M) fun v10 M9 =>
    some (some (vI 1), M9)) (
    ic (p0 = 0) (
      cIn (evD d 256 [vR 12 0 253, vI 1029, vI p1, vI p2] M) fun v8 M7 =>
      lp0 d 273 75 [some (vR 12 0 253), some (vI p0), some (vI p1), some (vI p2), some (vI v8)] M7) (
      ic (p0 = 1) (
        cIn (evD d 262 [vR 12 0 253, vI 1029, vI p1, vI p2] M) fun v6 M5 =>
        lp0 d 273 75 [some (vR 12 0 253), some (vI p0), some (vI p1), some (vI p2), some (vI v6)] M5) (
        ic (p0 = 2) (
          cIn (evD d 265 [vR 12 0 253, vI 1029, vI p1] M) fun v4 M3 =>
          lp0 d 273 75 [some (vR 12 0 253), some (vI p0), some (vI p1), some (vI p2), some (vI v4)] M3) (
          cIn (evD d 238 [vR 12 0 253, vI 1029, vI p1] M) fun v2 M1 =>
          lp0 d 273 75 [some (vR 12 0 253), some (vI p0), some (vI p1), some (vI p2), some (vI v2)] M1)))) := ((evD_step (d := d) (x := 273) (as := [vR 12 0 253, vI p0, vI p1, vI p2]) (M := M) (md := (⟨"IceParliamentModel", "does", "(III)Z"⟩, prog_14_method_83_code, 5, (Option.some Jvm.ClassFile.FieldType.boolean), 12, 12)) rfl rfl).trans (j273 (evD d) (evp0 (lkE (codT 273)) (hdT 273) (evD d)) p0 p1 p2 M)).trans (by (try simp only [ic_t (show (1 : Int32) &&& 1 = 1 by decide)]))
set_option maxRecDepth 100000 in
theorem g273_75 (call : Nat → List AV → Mem → Res) (back : Nat → Lv → Mem → Res) (l1 : Int32) (l2 : Int32) (l3 : Int32) (l4 : Int32) (M : Mem) : stepK call back (evj (lkE cd_273) [75, 96, 119, 146, 160] call back 4000) (.iload 4, 2, 4, 0, 0, 0, 0) 75 [some (vR 12 0 253), some (vI l1), some (vI l2), some (vI l3), some (vI l4)] [] M =
  ic (l4 = 0) (
    back 96 [some (vR 12 0 253), some (vI l1), some (vI l2), some (vI l3), some (vI l4)] M) (
    ic (l1 = 0) (
      cVd (call 260 [vR 12 0 253, vI 1029, vI l2, vI l3] M) fun M1 =>
      back 160 [some (vR 12 0 253), some (vI l1), some (vI l2), some (vI l3), some (vI l4)] M1) (
      back 96 [some (vR 12 0 253), some (vI l1), some (vI l2), some (vI l3), some (vI l4)] M)) := rfl
set_option maxRecDepth 100000 in
theorem e273_75 (d F : Nat) (l1 : Int32) (l2 : Int32) (l3 : Int32) (l4 : Int32) (M : Mem) : lp d 273 (F + 1) 75 [some (vR 12 0 253), some (vI l1), some (vI l2), some (vI l3), some (vI l4)] M =
  ic (l4 = 0) (
    lp d 273 F 96 [some (vR 12 0 253), some (vI l1), some (vI l2), some (vI l3), some (vI l4)] M) (
    ic (l1 = 0) (
      cVd (evD d 260 [vR 12 0 253, vI 1029, vI l2, vI l3] M) fun M1 =>
      lp d 273 F 160 [some (vR 12 0 253), some (vI l1), some (vI l2), some (vI l3), some (vI l4)] M1) (
      lp d 273 F 96 [some (vR 12 0 253), some (vI l1), some (vI l2), some (vI l3), some (vI l4)] M)) := ((evp_step (code := lkE (codT 273)) (hd := hdT 273) (call := evD d) (F := F) (pc := 75) (lv := [some (vR 12 0 253), some (vI l1), some (vI l2), some (vI l3), some (vI l4)]) (M := M) (e := (.iload 4, 2, 4, 0, 0, 0, 0)) rfl).trans (g273_75 (evD d) (evp (lkE (codT 273)) (hdT 273) (evD d) F) l1 l2 l3 l4 M))
set_option maxRecDepth 100000 in
theorem g273_96 (call : Nat → List AV → Mem → Res) (back : Nat → Lv → Mem → Res) (l1 : Int32) (l2 : Int32) (l3 : Int32) (l4 : Int32) (M : Mem) : stepK call back (evj (lkE cd_273) [75, 96, 119, 146, 160] call back 4000) (.iload 4, 2, 4, 0, 0, 0, 0) 96 [some (vR 12 0 253), some (vI l1), some (vI l2), some (vI l3), some (vI l4)] [] M =
  ic (l4 = 0) (
    back 119 [some (vR 12 0 253), some (vI l1), some (vI l2), some (vI l3), some (vI l4)] M) (
    ic (l1 = 1) (
      cIn (call 263 [vR 12 0 253, vI 1029, vI l2, vI l3] M) fun v2 M1 =>
      back 160 [some (vR 12 0 253), some (vI l1), some (vI l2), some (vI l3), some (vI l4)] M1) (
      back 119 [some (vR 12 0 253), some (vI l1), some (vI l2), some (vI l3), some (vI l4)] M)) := rfl
set_option maxRecDepth 100000 in
theorem e273_96 (d F : Nat) (l1 : Int32) (l2 : Int32) (l3 : Int32) (l4 : Int32) (M : Mem) : lp d 273 (F + 1) 96 [some (vR 12 0 253), some (vI l1), some (vI l2), some (vI l3), some (vI l4)] M =
  ic (l4 = 0) (
    lp d 273 F 119 [some (vR 12 0 253), some (vI l1), some (vI l2), some (vI l3), some (vI l4)] M) (
    ic (l1 = 1) (
      cIn (evD d 263 [vR 12 0 253, vI 1029, vI l2, vI l3] M) fun v2 M1 =>
      lp d 273 F 160 [some (vR 12 0 253), some (vI l1), some (vI l2), some (vI l3), some (vI l4)] M1) (
      lp d 273 F 119 [some (vR 12 0 253), some (vI l1), some (vI l2), some (vI l3), some (vI l4)] M)) := ((evp_step (code := lkE (codT 273)) (hd := hdT 273) (call := evD d) (F := F) (pc := 96) (lv := [some (vR 12 0 253), some (vI l1), some (vI l2), some (vI l3), some (vI l4)]) (M := M) (e := (.iload 4, 2, 4, 0, 0, 0, 0)) rfl).trans (g273_96 (evD d) (evp (lkE (codT 273)) (hdT 273) (evD d) F) l1 l2 l3 l4 M))
set_option maxRecDepth 100000 in
theorem g273_160 (call : Nat → List AV → Mem → Res) (back : Nat → Lv → Mem → Res) (o0 : Option AV) (o1 : Option AV) (o2 : Option AV) (o3 : Option AV) (l4 : Int32) (M : Mem) : stepK call back (evj (lkE cd_273) [75, 96, 119, 146, 160] call back 4000) (.iload 4, 2, 4, 0, 0, 0, 0) 160 [o0, o1, o2, o3, some (vI l4)] [] M =
  ic (l4 &&& 1 = l4) (
    some (some (vI l4), M)) none := rfl
set_option maxRecDepth 100000 in
theorem e273_160 (d F : Nat) (o0 : Option AV) (o1 : Option AV) (o2 : Option AV) (o3 : Option AV) (l4 : Int32) (M : Mem) : lp d 273 (F + 1) 160 [o0, o1, o2, o3, some (vI l4)] M =
  ic (l4 &&& 1 = l4) (
    some (some (vI l4), M)) none := ((evp_step (code := lkE (codT 273)) (hd := hdT 273) (call := evD d) (F := F) (pc := 160) (lv := [o0, o1, o2, o3, some (vI l4)]) (M := M) (e := (.iload 4, 2, 4, 0, 0, 0, 0)) rfl).trans (g273_160 (evD d) (evp (lkE (codT 273)) (hdT 273) (evD d) F) o0 o1 o2 o3 l4 M))
set_option maxRecDepth 100000 in
theorem g273_119 (call : Nat → List AV → Mem → Res) (back : Nat → Lv → Mem → Res) (l1 : Int32) (l2 : Int32) (o3 : Option AV) (l4 : Int32) (M : Mem) : stepK call back (evj (lkE cd_273) [75, 96, 119, 146, 160] call back 4000) (.iload 4, 2, 4, 0, 0, 0, 0) 119 [some (vR 12 0 253), some (vI l1), some (vI l2), o3, some (vI l4)] [] M =
  ic (l4 = 0) (
    back 146 [some (vR 12 0 253), some (vI l1), some (vI l2), o3, some (vI l4)] M) (
    ic (l1 = 2) (
      ic (1054 + l2 < 0 ∨ 1127 ≤ (1054 + l2).toNatClampNeg) none (
        ic (1054 + l2 < 0 ∨ 1127 ≤ (1054 + l2).toNatClampNeg) none (
          back 160 [some (vR 12 0 253), some (vI l1), some (vI l2), o3, some (vI l4)] (sI M 269 ((1054 + l2).toNatClampNeg) ((M.1 269 (1054 + l2).toNatClampNeg) + 1))))) (
      back 146 [some (vR 12 0 253), some (vI l1), some (vI l2), o3, some (vI l4)] M)) := rfl
set_option maxRecDepth 100000 in
theorem e273_119 (d F : Nat) (l1 : Int32) (l2 : Int32) (o3 : Option AV) (l4 : Int32) (M : Mem) : lp d 273 (F + 1) 119 [some (vR 12 0 253), some (vI l1), some (vI l2), o3, some (vI l4)] M =
  ic (l4 = 0) (
    lp d 273 F 146 [some (vR 12 0 253), some (vI l1), some (vI l2), o3, some (vI l4)] M) (
    ic (l1 = 2) (
      ic (1054 + l2 < 0 ∨ 1127 ≤ (1054 + l2).toNatClampNeg) none (
        ic (1054 + l2 < 0 ∨ 1127 ≤ (1054 + l2).toNatClampNeg) none (
          lp d 273 F 160 [some (vR 12 0 253), some (vI l1), some (vI l2), o3, some (vI l4)] (sI M 269 ((1054 + l2).toNatClampNeg) ((M.1 269 (1054 + l2).toNatClampNeg) + 1))))) (
      lp d 273 F 146 [some (vR 12 0 253), some (vI l1), some (vI l2), o3, some (vI l4)] M)) := ((evp_step (code := lkE (codT 273)) (hd := hdT 273) (call := evD d) (F := F) (pc := 119) (lv := [some (vR 12 0 253), some (vI l1), some (vI l2), o3, some (vI l4)]) (M := M) (e := (.iload 4, 2, 4, 0, 0, 0, 0)) rfl).trans (g273_119 (evD d) (evp (lkE (codT 273)) (hdT 273) (evD d) F) l1 l2 o3 l4 M))
set_option maxRecDepth 100000 in
theorem g273_146 (call : Nat → List AV → Mem → Res) (back : Nat → Lv → Mem → Res) (o1 : Option AV) (l2 : Int32) (o3 : Option AV) (l4 : Int32) (M : Mem) : stepK call back (evj (lkE cd_273) [75, 96, 119, 146, 160] call back 4000) (.iload 4, 2, 4, 0, 0, 0, 0) 146 [some (vR 12 0 253), o1, some (vI l2), o3, some (vI l4)] [] M =
  ic (l4 = 0) (
    back 160 [some (vR 12 0 253), o1, some (vI l2), o3, some (vI l4)] M) (
    cIn (call 267 [vR 12 0 253, vI 1029, vI l2] M) fun v2 M1 =>
    back 160 [some (vR 12 0 253), o1, some (vI l2), o3, some (vI l4)] M1) := rfl
set_option maxRecDepth 100000 in
theorem e273_146 (d F : Nat) (o1 : Option AV) (l2 : Int32) (o3 : Option AV) (l4 : Int32) (M : Mem) : lp d 273 (F + 1) 146 [some (vR 12 0 253), o1, some (vI l2), o3, some (vI l4)] M =
  ic (l4 = 0) (
    lp d 273 F 160 [some (vR 12 0 253), o1, some (vI l2), o3, some (vI l4)] M) (
    cIn (evD d 267 [vR 12 0 253, vI 1029, vI l2] M) fun v2 M1 =>
    lp d 273 F 160 [some (vR 12 0 253), o1, some (vI l2), o3, some (vI l4)] M1) := ((evp_step (code := lkE (codT 273)) (hd := hdT 273) (call := evD d) (F := F) (pc := 146) (lv := [some (vR 12 0 253), o1, some (vI l2), o3, some (vI l4)]) (M := M) (e := (.iload 4, 2, 4, 0, 0, 0, 0)) rfl).trans (g273_146 (evD d) (evp (lkE (codT 273)) (hdT 273) (evD d) F) o1 l2 o3 l4 M))
-- IceParliamentModel falls(I)I
set_option maxRecDepth 100000 in
theorem j274 (call : Nat → List AV → Mem → Res) (back : Nat → Lv → Mem → Res) (p0 : Int32) (M : Mem) : evj (lkE cd_274) [26] call back 4000 0 [some (vR 12 0 253), some (vI p0), none] [] M =
  cIn (call 238 [vR 12 0 253, vI 0, vI p0] (sI M 253 0 0)) fun v2 M1 =>
  ic (v2 = 0) (
    some (some (vI (-1)), M1)) (
    cVd (call 259 [vR 12 0 253, vI 0, vI 1029] M1) fun M3 =>
    back 26 [some (vR 12 0 253), some (vI p0), some (vI 1)] M3) := rfl
set_option maxRecDepth 100000 in
theorem e274 (d : Nat) (p0 : Int32) (M : Mem) : evD (d + 1) 274 [vR 12 0 253, vI p0] M =
  cIn (evD d 238 [vR 12 0 253, vI 0, vI p0] (sI M 253 0 0)) fun v2 M1 =>
  ic (v2 = 0) (
    some (some (vI (-1)), M1)) (
    cVd (evD d 259 [vR 12 0 253, vI 0, vI 1029] M1) fun M3 =>
    lp0 d 274 26 [some (vR 12 0 253), some (vI p0), some (vI 1)] M3) := ((evD_step (d := d) (x := 274) (as := [vR 12 0 253, vI p0]) (M := M) (md := (⟨"IceParliamentModel", "falls", "(I)I"⟩, prog_14_method_85_code, 3, (Option.some Jvm.ClassFile.FieldType.int), 12, 12)) rfl rfl).trans (j274 (evD d) (evp0 (lkE (codT 274)) (hdT 274) (evD d)) p0 M))
set_option maxRecDepth 100000 in
theorem g274_26 (call : Nat → List AV → Mem → Res) (back : Nat → Lv → Mem → Res) (l1 : Int32) (l2 : Int32) (M : Mem) : stepK call back (evj (lkE cd_274) [26] call back 4000) (.iload_n 2, 1, 2, 0, 0, 0, 0) 26 [some (vR 12 0 253), some (vI l1), some (vI l2)] [] M =
  ic (40 < l2) (
    some (some (vI (-1)), M)) (
    cIn (call 269 [vR 12 0 253, vI 1029, vI 0] M) fun v2 M1 =>
    cIn (call 238 [vR 12 0 253, vI 1029, vI l1] M1) fun v4 M3 =>
    ic (v4 = 0) (
      some (some (vI l2), M3)) (
      back 26 [some (vR 12 0 253), some (vI l1), some (vI (l2 + 1))] M3)) := rfl
set_option maxRecDepth 100000 in
theorem e274_26 (d F : Nat) (l1 : Int32) (l2 : Int32) (M : Mem) : lp d 274 (F + 1) 26 [some (vR 12 0 253), some (vI l1), some (vI l2)] M =
  ic (40 < l2) (
    some (some (vI (-1)), M)) (
    cIn (evD d 269 [vR 12 0 253, vI 1029, vI 0] M) fun v2 M1 =>
    cIn (evD d 238 [vR 12 0 253, vI 1029, vI l1] M1) fun v4 M3 =>
    ic (v4 = 0) (
      some (some (vI l2), M3)) (
      lp d 274 F 26 [some (vR 12 0 253), some (vI l1), some (vI (l2 + 1))] M3)) := ((evp_step (code := lkE (codT 274)) (hd := hdT 274) (call := evD d) (F := F) (pc := 26) (lv := [some (vR 12 0 253), some (vI l1), some (vI l2)]) (M := M) (e := (.iload_n 2, 1, 2, 0, 0, 0, 0)) rfl).trans (g274_26 (evD d) (evp (lkE (codT 274)) (hdT 274) (evD d) F) l1 l2 M))
-- IceParliamentModel clashes()I
set_option maxRecDepth 100000 in
theorem j275 (call : Nat → List AV → Mem → Res) (back : Nat → Lv → Mem → Res)  (M : Mem) : evj (lkE cd_275) [] call back 4000 0 [some (vR 12 0 253)] [] M =
  cIn (call 250 [vR 12 0 253, vI 0] (sI M 253 0 0)) fun v2 M1 =>
  cIn (call 276 [vR 12 0 253, vI v2] M1) fun v4 M3 =>
  some (some (vI v4), M3) := rfl
set_option maxRecDepth 100000 in
theorem e275 (d : Nat)  (M : Mem) : evD (d + 1) 275 [vR 12 0 253] M =
  cIn (evD d 250 [vR 12 0 253, vI 0] (sI M 253 0 0)) fun v2 M1 =>
  cIn (evD d 276 [vR 12 0 253, vI v2] M1) fun v4 M3 =>
  some (some (vI v4), M3) := ((evD_step (d := d) (x := 275) (as := [vR 12 0 253]) (M := M) (md := (⟨"IceParliamentModel", "clashes", "()I"⟩, prog_14_method_87_code, 1, (Option.some Jvm.ClassFile.FieldType.int), 12, 12)) rfl rfl).trans (j275 (evD d) (evp0 (lkE (codT 275)) (hdT 275) (evD d))  M))
-- IceParliamentModel clashesIn(I)I
set_option maxRecDepth 100000 in
theorem j276 (call : Nat → List AV → Mem → Res) (back : Nat → Lv → Mem → Res) (p0 : Int32) (M : Mem) : evj (lkE cd_276) [4, 15] call back 4000 0 [some (vR 12 0 253), some (vI p0), none, none, none] [] M =
  back 4 [some (vR 12 0 253), some (vI p0), some (vI 0), some (vI 0), none] M := rfl
set_option maxRecDepth 100000 in
theorem e276 (d : Nat) (p0 : Int32) (M : Mem) : evD (d + 1) 276 [vR 12 0 253, vI p0] M =
  lp0 d 276 4 [some (vR 12 0 253), some (vI p0), some (vI 0), some (vI 0), none] M := ((evD_step (d := d) (x := 276) (as := [vR 12 0 253, vI p0]) (M := M) (md := (⟨"IceParliamentModel", "clashesIn", "(I)I"⟩, prog_14_method_86_code, 5, (Option.some Jvm.ClassFile.FieldType.int), 12, 12)) rfl rfl).trans (j276 (evD d) (evp0 (lkE (codT 276)) (hdT 276) (evD d)) p0 M))
set_option maxRecDepth 100000 in
theorem g276_4 (call : Nat → List AV → Mem → Res) (back : Nat → Lv → Mem → Res) (l1 : Int32) (l2 : Int32) (l3 : Int32) (o4 : Option AV) (M : Mem) : stepK call back (evj (lkE cd_276) [4, 15] call back 4000) (.iload_n 3, 1, 3, 0, 0, 0, 0) 4 [some (vR 12 0 253), some (vI l1), some (vI l2), some (vI l3), o4] [] M =
  cIn (call 197 [vR 12 0 253] M) fun v2 M1 =>
  ic (l3 < v2) (
    back 15 [some (vR 12 0 253), some (vI l1), some (vI l2), some (vI l3), some (vI 0)] M1) (
    some (some (vI l2), M1)) := rfl
set_option maxRecDepth 100000 in
theorem e276_4 (d F : Nat) (l1 : Int32) (l2 : Int32) (l3 : Int32) (o4 : Option AV) (M : Mem) : lp d 276 (F + 1) 4 [some (vR 12 0 253), some (vI l1), some (vI l2), some (vI l3), o4] M =
  cIn (evD d 197 [vR 12 0 253] M) fun v2 M1 =>
  ic (l3 < v2) (
    lp d 276 F 15 [some (vR 12 0 253), some (vI l1), some (vI l2), some (vI l3), some (vI 0)] M1) (
    some (some (vI l2), M1)) := ((evp_step (code := lkE (codT 276)) (hd := hdT 276) (call := evD d) (F := F) (pc := 4) (lv := [some (vR 12 0 253), some (vI l1), some (vI l2), some (vI l3), o4]) (M := M) (e := (.iload_n 3, 1, 3, 0, 0, 0, 0)) rfl).trans (g276_4 (evD d) (evp (lkE (codT 276)) (hdT 276) (evD d) F) l1 l2 l3 o4 M))
set_option maxRecDepth 100000 in
theorem g276_15 (call : Nat → List AV → Mem → Res) (back : Nat → Lv → Mem → Res) (l1 : Int32) (l2 : Int32) (l3 : Int32) (l4 : Int32) (M : Mem) : stepK call back (evj (lkE cd_276) [4, 15] call back 4000) (.iload 4, 2, 4, 0, 0, 0, 0) 15 [some (vR 12 0 253), some (vI l1), some (vI l2), some (vI l3), some (vI l4)] [] M =
  ic (l4 < l3) (
    ic ((56 + (6 * l3)) + l4 < 0 ∨ 220 ≤ ((56 + (6 * l3)) + l4).toNatClampNeg) none (
      ic (M.1 259 ((56 + (6 * l3)) + l4).toNatClampNeg = 1) (
        ic ((l1 >>> (l3 &&& 31)) &&& 1 = 1) (
          ic ((l1 >>> (l4 &&& 31)) &&& 1 = 1) (
            back 15 [some (vR 12 0 253), some (vI l1), some (vI (l2 + 1)), some (vI l3), some (vI (l4 + 1))] M) (
            back 15 [some (vR 12 0 253), some (vI l1), some (vI (l2 + 0)), some (vI l3), some (vI (l4 + 1))] M)) (
          back 15 [some (vR 12 0 253), some (vI l1), some (vI (l2 + 0)), some (vI l3), some (vI (l4 + 1))] M)) (
        back 15 [some (vR 12 0 253), some (vI l1), some (vI (l2 + 0)), some (vI l3), some (vI (l4 + 1))] M))) (
    back 4 [some (vR 12 0 253), some (vI l1), some (vI l2), some (vI (l3 + 1)), some (vI l4)] M) := rfl
set_option maxRecDepth 100000 in
theorem e276_15 (d F : Nat) (l1 : Int32) (l2 : Int32) (l3 : Int32) (l4 : Int32) (M : Mem) : lp d 276 (F + 1) 15 [some (vR 12 0 253), some (vI l1), some (vI l2), some (vI l3), some (vI l4)] M =
  ic (l4 < l3) (
    ic ((56 + (6 * l3)) + l4 < 0 ∨ 220 ≤ ((56 + (6 * l3)) + l4).toNatClampNeg) none (
      ic (M.1 259 ((56 + (6 * l3)) + l4).toNatClampNeg = 1) (
        ic ((l1 >>> (l3 &&& 31)) &&& 1 = 1) (
          ic ((l1 >>> (l4 &&& 31)) &&& 1 = 1) (
            lp d 276 F 15 [some (vR 12 0 253), some (vI l1), some (vI (l2 + 1)), some (vI l3), some (vI (l4 + 1))] M) (
            lp d 276 F 15 [some (vR 12 0 253), some (vI l1), some (vI (l2 + 0)), some (vI l3), some (vI (l4 + 1))] M)) (
          lp d 276 F 15 [some (vR 12 0 253), some (vI l1), some (vI (l2 + 0)), some (vI l3), some (vI (l4 + 1))] M)) (
        lp d 276 F 15 [some (vR 12 0 253), some (vI l1), some (vI (l2 + 0)), some (vI l3), some (vI (l4 + 1))] M))) (
    lp d 276 F 4 [some (vR 12 0 253), some (vI l1), some (vI l2), some (vI (l3 + 1)), some (vI l4)] M) := ((evp_step (code := lkE (codT 276)) (hd := hdT 276) (call := evD d) (F := F) (pc := 15) (lv := [some (vR 12 0 253), some (vI l1), some (vI l2), some (vI l3), some (vI l4)]) (M := M) (e := (.iload 4, 2, 4, 0, 0, 0, 0)) rfl).trans (g276_15 (evD d) (evp (lkE (codT 276)) (hdT 276) (evD d) F) l1 l2 l3 l4 M))
-- IceParliamentModel mend(I)I
set_option maxRecDepth 100000 in
theorem j277 (call : Nat → List AV → Mem → Res) (back : Nat → Lv → Mem → Res) (p0 : Int32) (M : Mem) : evj (lkE cd_277) [27, 64, 67, 90, 95, 97] call back 4000 0 [some (vR 12 0 253), some (vI p0), none, none, none, none] [] M =
  cIn (call 222 [vI p0, vI 0, vI 1] (sI M 253 0 0)) fun v2 M1 =>
  ic (v2 = 0) (
    some (some (vI (-1)), M1)) (
    cIn (call 250 [vR 12 0 253, vI 0] M1) fun v4 M3 =>
    back 27 [some (vR 12 0 253), some (vI p0), some (vI v4), some (vI (-1)), some (vI 0), none] M3) := rfl
set_option maxRecDepth 100000 in
theorem e277 (d : Nat) (p0 : Int32) (M : Mem) : evD (d + 1) 277 [vR 12 0 253, vI p0] M =
  cIn (evD d 222 [vI p0, vI 0, vI 1] (sI M 253 0 0)) fun v2 M1 =>
  ic (v2 = 0) (
    some (some (vI (-1)), M1)) (
    cIn (evD d 250 [vR 12 0 253, vI 0] M1) fun v4 M3 =>
    lp0 d 277 27 [some (vR 12 0 253), some (vI p0), some (vI v4), some (vI (-1)), some (vI 0), none] M3) := ((evD_step (d := d) (x := 277) (as := [vR 12 0 253, vI p0]) (M := M) (md := (⟨"IceParliamentModel", "mend", "(I)I"⟩, prog_14_method_88_code, 6, (Option.some Jvm.ClassFile.FieldType.int), 12, 12)) rfl rfl).trans (j277 (evD d) (evp0 (lkE (codT 277)) (hdT 277) (evD d)) p0 M))
set_option maxRecDepth 100000 in
theorem g277_27 (call : Nat → List AV → Mem → Res) (back : Nat → Lv → Mem → Res) (l1 : Int32) (l2 : Int32) (l3 : Int32) (l4 : Int32) (o5 : Option AV) (M : Mem) : stepK call back (evj (lkE cd_277) [27, 64, 67, 90, 95, 97] call back 4000) (.iload 4, 2, 4, 0, 0, 0, 0) 27 [some (vR 12 0 253), some (vI l1), some (vI l2), some (vI l3), some (vI l4), o5] [] M =
  cIn (call 197 [vR 12 0 253] M) fun v2 M1 =>
  ic (l4 < 1 <<< (v2 &&& 31)) (
    ic (l4 &&& (l2 ^^^ (-1)) = 0) (
      cIn (call 276 [vR 12 0 253, vI (l2 &&& (l4 ^^^ (-1)))] M1) fun v6 M5 =>
      ic (v6 = 0) (
        back 67 [some (vR 12 0 253), some (vI l1), some (vI l2), some (vI l3), some (vI l4), some (vI 1)] M5) (
        back 64 [some (vR 12 0 253), some (vI l1), some (vI l2), some (vI l3), some (vI l4), o5] M5)) (
      back 64 [some (vR 12 0 253), some (vI l1), some (vI l2), some (vI l3), some (vI l4), o5] M1)) (
    ic (l1 = 0) (
      cIn (call 252 [vR 12 0 253, vI l3] M1) fun v4 M3 =>
      some (some (vI v4), M3)) (
      some (some (vI l3), M1))) := rfl
set_option maxRecDepth 100000 in
theorem e277_27 (d F : Nat) (l1 : Int32) (l2 : Int32) (l3 : Int32) (l4 : Int32) (o5 : Option AV) (M : Mem) : lp d 277 (F + 1) 27 [some (vR 12 0 253), some (vI l1), some (vI l2), some (vI l3), some (vI l4), o5] M =
  cIn (evD d 197 [vR 12 0 253] M) fun v2 M1 =>
  ic (l4 < 1 <<< (v2 &&& 31)) (
    ic (l4 &&& (l2 ^^^ (-1)) = 0) (
      cIn (evD d 276 [vR 12 0 253, vI (l2 &&& (l4 ^^^ (-1)))] M1) fun v6 M5 =>
      ic (v6 = 0) (
        lp d 277 F 67 [some (vR 12 0 253), some (vI l1), some (vI l2), some (vI l3), some (vI l4), some (vI 1)] M5) (
        lp d 277 F 64 [some (vR 12 0 253), some (vI l1), some (vI l2), some (vI l3), some (vI l4), o5] M5)) (
      lp d 277 F 64 [some (vR 12 0 253), some (vI l1), some (vI l2), some (vI l3), some (vI l4), o5] M1)) (
    ic (l1 = 0) (
      cIn (evD d 252 [vR 12 0 253, vI l3] M1) fun v4 M3 =>
      some (some (vI v4), M3)) (
      some (some (vI l3), M1))) := ((evp_step (code := lkE (codT 277)) (hd := hdT 277) (call := evD d) (F := F) (pc := 27) (lv := [some (vR 12 0 253), some (vI l1), some (vI l2), some (vI l3), some (vI l4), o5]) (M := M) (e := (.iload 4, 2, 4, 0, 0, 0, 0)) rfl).trans (g277_27 (evD d) (evp (lkE (codT 277)) (hdT 277) (evD d) F) l1 l2 l3 l4 o5 M))
set_option maxRecDepth 100000 in
theorem g277_64 (call : Nat → List AV → Mem → Res) (back : Nat → Lv → Mem → Res) (l1 : Int32) (l2 : Int32) (l3 : Int32) (l4 : Int32) (o5 : Option AV) (M : Mem) : stepK call back (evj (lkE cd_277) [27, 64, 67, 90, 95, 97] call back 4000) (.iconst 0, 1, 0, 0, 0, 0, 0) 64 [some (vR 12 0 253), some (vI l1), some (vI l2), some (vI l3), some (vI l4), o5] [] M =
  back 67 [some (vR 12 0 253), some (vI l1), some (vI l2), some (vI l3), some (vI l4), some (vI 0)] M := rfl
set_option maxRecDepth 100000 in
theorem e277_64 (d F : Nat) (l1 : Int32) (l2 : Int32) (l3 : Int32) (l4 : Int32) (o5 : Option AV) (M : Mem) : lp d 277 (F + 1) 64 [some (vR 12 0 253), some (vI l1), some (vI l2), some (vI l3), some (vI l4), o5] M =
  lp d 277 F 67 [some (vR 12 0 253), some (vI l1), some (vI l2), some (vI l3), some (vI l4), some (vI 0)] M := ((evp_step (code := lkE (codT 277)) (hd := hdT 277) (call := evD d) (F := F) (pc := 64) (lv := [some (vR 12 0 253), some (vI l1), some (vI l2), some (vI l3), some (vI l4), o5]) (M := M) (e := (.iconst 0, 1, 0, 0, 0, 0, 0)) rfl).trans (g277_64 (evD d) (evp (lkE (codT 277)) (hdT 277) (evD d) F) l1 l2 l3 l4 o5 M))
set_option maxRecDepth 100000 in
theorem g277_67 (call : Nat → List AV → Mem → Res) (back : Nat → Lv → Mem → Res) (l1 : Int32) (l2 : Int32) (l3 : Int32) (l4 : Int32) (l5 : Int32) (M : Mem) : stepK call back (evj (lkE cd_277) [27, 64, 67, 90, 95, 97] call back 4000) (.iload 5, 2, 5, 0, 0, 0, 0) 67 [some (vR 12 0 253), some (vI l1), some (vI l2), some (vI l3), some (vI l4), some (vI l5)] [] M =
  ic (l5 = 0) (
    back 95 [some (vR 12 0 253), some (vI l1), some (vI l2), some (vI l3), some (vI l4), some (vI l5)] M) (
    ic (l3 < 0) (
      back 90 [some (vR 12 0 253), some (vI l1), some (vI l2), some (vI l3), some (vI l4), some (vI l5)] M) (
      cIn (call 252 [vR 12 0 253, vI l4] M) fun v2 M1 =>
      cIn (call 252 [vR 12 0 253, vI l3] M1) fun v4 M3 =>
      ic (v2 < v4) (
        back 90 [some (vR 12 0 253), some (vI l1), some (vI l2), some (vI l3), some (vI l4), some (vI l5)] M3) (
        back 95 [some (vR 12 0 253), some (vI l1), some (vI l2), some (vI l3), some (vI l4), some (vI l5)] M3))) := rfl
set_option maxRecDepth 100000 in
theorem e277_67 (d F : Nat) (l1 : Int32) (l2 : Int32) (l3 : Int32) (l4 : Int32) (l5 : Int32) (M : Mem) : lp d 277 (F + 1) 67 [some (vR 12 0 253), some (vI l1), some (vI l2), some (vI l3), some (vI l4), some (vI l5)] M =
  ic (l5 = 0) (
    lp d 277 F 95 [some (vR 12 0 253), some (vI l1), some (vI l2), some (vI l3), some (vI l4), some (vI l5)] M) (
    ic (l3 < 0) (
      lp d 277 F 90 [some (vR 12 0 253), some (vI l1), some (vI l2), some (vI l3), some (vI l4), some (vI l5)] M) (
      cIn (evD d 252 [vR 12 0 253, vI l4] M) fun v2 M1 =>
      cIn (evD d 252 [vR 12 0 253, vI l3] M1) fun v4 M3 =>
      ic (v2 < v4) (
        lp d 277 F 90 [some (vR 12 0 253), some (vI l1), some (vI l2), some (vI l3), some (vI l4), some (vI l5)] M3) (
        lp d 277 F 95 [some (vR 12 0 253), some (vI l1), some (vI l2), some (vI l3), some (vI l4), some (vI l5)] M3))) := ((evp_step (code := lkE (codT 277)) (hd := hdT 277) (call := evD d) (F := F) (pc := 67) (lv := [some (vR 12 0 253), some (vI l1), some (vI l2), some (vI l3), some (vI l4), some (vI l5)]) (M := M) (e := (.iload 5, 2, 5, 0, 0, 0, 0)) rfl).trans (g277_67 (evD d) (evp (lkE (codT 277)) (hdT 277) (evD d) F) l1 l2 l3 l4 l5 M))
set_option maxRecDepth 100000 in
theorem g277_95 (call : Nat → List AV → Mem → Res) (back : Nat → Lv → Mem → Res) (l1 : Int32) (l2 : Int32) (l3 : Int32) (l4 : Int32) (o5 : Option AV) (M : Mem) : stepK call back (evj (lkE cd_277) [27, 64, 67, 90, 95, 97] call back 4000) (.iload_n 3, 1, 3, 0, 0, 0, 0) 95 [some (vR 12 0 253), some (vI l1), some (vI l2), some (vI l3), some (vI l4), o5] [] M =
  back 97 [some (vR 12 0 253), some (vI l1), some (vI l2), some (vI l3), some (vI l4), o5] M := rfl
set_option maxRecDepth 100000 in
theorem e277_95 (d F : Nat) (l1 : Int32) (l2 : Int32) (l3 : Int32) (l4 : Int32) (o5 : Option AV) (M : Mem) : lp d 277 (F + 1) 95 [some (vR 12 0 253), some (vI l1), some (vI l2), some (vI l3), some (vI l4), o5] M =
  lp d 277 F 97 [some (vR 12 0 253), some (vI l1), some (vI l2), some (vI l3), some (vI l4), o5] M := ((evp_step (code := lkE (codT 277)) (hd := hdT 277) (call := evD d) (F := F) (pc := 95) (lv := [some (vR 12 0 253), some (vI l1), some (vI l2), some (vI l3), some (vI l4), o5]) (M := M) (e := (.iload_n 3, 1, 3, 0, 0, 0, 0)) rfl).trans (g277_95 (evD d) (evp (lkE (codT 277)) (hdT 277) (evD d) F) l1 l2 l3 l4 o5 M))
set_option maxRecDepth 100000 in
theorem g277_90 (call : Nat → List AV → Mem → Res) (back : Nat → Lv → Mem → Res) (l1 : Int32) (l2 : Int32) (o3 : Option AV) (l4 : Int32) (o5 : Option AV) (M : Mem) : stepK call back (evj (lkE cd_277) [27, 64, 67, 90, 95, 97] call back 4000) (.iload 4, 2, 4, 0, 0, 0, 0) 90 [some (vR 12 0 253), some (vI l1), some (vI l2), o3, some (vI l4), o5] [] M =
  back 97 [some (vR 12 0 253), some (vI l1), some (vI l2), some (vI l4), some (vI l4), o5] M := rfl
set_option maxRecDepth 100000 in
theorem e277_90 (d F : Nat) (l1 : Int32) (l2 : Int32) (o3 : Option AV) (l4 : Int32) (o5 : Option AV) (M : Mem) : lp d 277 (F + 1) 90 [some (vR 12 0 253), some (vI l1), some (vI l2), o3, some (vI l4), o5] M =
  lp d 277 F 97 [some (vR 12 0 253), some (vI l1), some (vI l2), some (vI l4), some (vI l4), o5] M := ((evp_step (code := lkE (codT 277)) (hd := hdT 277) (call := evD d) (F := F) (pc := 90) (lv := [some (vR 12 0 253), some (vI l1), some (vI l2), o3, some (vI l4), o5]) (M := M) (e := (.iload 4, 2, 4, 0, 0, 0, 0)) rfl).trans (g277_90 (evD d) (evp (lkE (codT 277)) (hdT 277) (evD d) F) l1 l2 o3 l4 o5 M))
set_option maxRecDepth 100000 in
theorem g277_97 (call : Nat → List AV → Mem → Res) (back : Nat → Lv → Mem → Res) (l1 : Int32) (l2 : Int32) (l3 : Int32) (l4 : Int32) (o5 : Option AV) (M : Mem) : stepK call back (evj (lkE cd_277) [27, 64, 67, 90, 95, 97] call back 4000) (.iinc 4 (1), 3, 4, 0, 0, 1, 0) 97 [some (vR 12 0 253), some (vI l1), some (vI l2), some (vI l3), some (vI l4), o5] [] M =
  back 27 [some (vR 12 0 253), some (vI l1), some (vI l2), some (vI l3), some (vI (l4 + 1)), o5] M := rfl
set_option maxRecDepth 100000 in
theorem e277_97 (d F : Nat) (l1 : Int32) (l2 : Int32) (l3 : Int32) (l4 : Int32) (o5 : Option AV) (M : Mem) : lp d 277 (F + 1) 97 [some (vR 12 0 253), some (vI l1), some (vI l2), some (vI l3), some (vI l4), o5] M =
  lp d 277 F 27 [some (vR 12 0 253), some (vI l1), some (vI l2), some (vI l3), some (vI (l4 + 1)), o5] M := ((evp_step (code := lkE (codT 277)) (hd := hdT 277) (call := evD d) (F := F) (pc := 97) (lv := [some (vR 12 0 253), some (vI l1), some (vI l2), some (vI l3), some (vI l4), o5]) (M := M) (e := (.iinc 4 (1), 3, 4, 0, 0, 1, 0)) rfl).trans (g277_97 (evD d) (evp (lkE (codT 277)) (hdT 277) (evD d) F) l1 l2 l3 l4 o5 M))
-- IceParliamentModel work(II)I
set_option maxRecDepth 100000 in
theorem j278 (call : Nat → List AV → Mem → Res) (back : Nat → Lv → Mem → Res) (p0 : Int32) (p1 : Int32) (M : Mem) : evj (lkE cd_278) [59] call back 4000 0 [some (vR 12 0 253), some (vI p0), some (vI p1), none, none] [] M =
  cIn (call 222 [vI p0, vI 1, vI 6] (sI M 253 0 0)) fun v2 M1 =>
  ic (v2 = 0) (
    some (some (vI (-2)), M1)) (
    cIn (call 248 [vR 12 0 253] M1) fun v4 M3 =>
    cIn (call 222 [vI p1, vI 0, vI v4] M3) fun v6 M5 =>
    ic (v6 = 0) (
      some (some (vI (-2)), M5)) (
      cVd (call 279 [vR 12 0 253] M5) fun M7 =>
      cVd (call 280 [vR 12 0 253, vI 0, vI p0] (sI M7 253 32 (-1))) fun M8 =>
      ic (p1 = 0) (
        some (some (vI (M8.1 253 32)), M8)) (
        back 59 [some (vR 12 0 253), some (vI p0), some (vI p1), some (vI (-1)), some (vI 0)] M8))) := rfl
set_option maxRecDepth 100000 in
theorem e278 (d : Nat) (p0 : Int32) (p1 : Int32) (M : Mem) : evD (d + 1) 278 [vR 12 0 253, vI p0, vI p1] M =
  cIn (evD d 222 [vI p0, vI 1, vI 6] (sI M 253 0 0)) fun v2 M1 =>
  ic (v2 = 0) (
    some (some (vI (-2)), M1)) (
    cIn (evD d 248 [vR 12 0 253] M1) fun v4 M3 =>
    cIn (evD d 222 [vI p1, vI 0, vI v4] M3) fun v6 M5 =>
    ic (v6 = 0) (
      some (some (vI (-2)), M5)) (
      cVd (evD d 279 [vR 12 0 253] M5) fun M7 =>
      cVd (evD d 280 [vR 12 0 253, vI 0, vI p0] (sI M7 253 32 (-1))) fun M8 =>
      ic (p1 = 0) (
        some (some (vI (M8.1 253 32)), M8)) (
        lp0 d 278 59 [some (vR 12 0 253), some (vI p0), some (vI p1), some (vI (-1)), some (vI 0)] M8))) := ((evD_step (d := d) (x := 278) (as := [vR 12 0 253, vI p0, vI p1]) (M := M) (md := (⟨"IceParliamentModel", "work", "(II)I"⟩, prog_14_method_92_code, 5, (Option.some Jvm.ClassFile.FieldType.int), 12, 12)) rfl rfl).trans (j278 (evD d) (evp0 (lkE (codT 278)) (hdT 278) (evD d)) p0 p1 M))
set_option maxRecDepth 100000 in
theorem g278_59 (call : Nat → List AV → Mem → Res) (back : Nat → Lv → Mem → Res) (o1 : Option AV) (l2 : Int32) (l3 : Int32) (l4 : Int32) (M : Mem) : stepK call back (evj (lkE cd_278) [59] call back 4000) (.iload 4, 2, 4, 0, 0, 0, 0) 59 [some (vR 12 0 253), o1, some (vI l2), some (vI l3), some (vI l4)] [] M =
  ic (l4 < M.1 253 31) (
    ic (l4 < 0 ∨ 4 ≤ l4.toNatClampNeg) none (
      ic (M.1 271 l4.toNatClampNeg = l2 - 1) (
        ic (l4 < 0 ∨ 4 ≤ l4.toNatClampNeg) none (
          back 59 [some (vR 12 0 253), o1, some (vI l2), some (vI (M.1 273 l4.toNatClampNeg)), some (vI (l4 + 1))] M)) (
        back 59 [some (vR 12 0 253), o1, some (vI l2), some (vI l3), some (vI (l4 + 1))] M))) (
    some (some (vI l3), M)) := rfl
set_option maxRecDepth 100000 in
theorem e278_59 (d F : Nat) (o1 : Option AV) (l2 : Int32) (l3 : Int32) (l4 : Int32) (M : Mem) : lp d 278 (F + 1) 59 [some (vR 12 0 253), o1, some (vI l2), some (vI l3), some (vI l4)] M =
  ic (l4 < M.1 253 31) (
    ic (l4 < 0 ∨ 4 ≤ l4.toNatClampNeg) none (
      ic (M.1 271 l4.toNatClampNeg = l2 - 1) (
        ic (l4 < 0 ∨ 4 ≤ l4.toNatClampNeg) none (
          lp d 278 F 59 [some (vR 12 0 253), o1, some (vI l2), some (vI (M.1 273 l4.toNatClampNeg)), some (vI (l4 + 1))] M)) (
        lp d 278 F 59 [some (vR 12 0 253), o1, some (vI l2), some (vI l3), some (vI (l4 + 1))] M))) (
    some (some (vI l3), M)) := ((evp_step (code := lkE (codT 278)) (hd := hdT 278) (call := evD d) (F := F) (pc := 59) (lv := [some (vR 12 0 253), o1, some (vI l2), some (vI l3), some (vI l4)]) (M := M) (e := (.iload 4, 2, 4, 0, 0, 0, 0)) rfl).trans (g278_59 (evD d) (evp (lkE (codT 278)) (hdT 278) (evD d) F) o1 l2 l3 l4 M))
-- IceParliamentModel findTakers()V
set_option maxRecDepth 100000 in
theorem j279 (call : Nat → List AV → Mem → Res) (back : Nat → Lv → Mem → Res)  (M : Mem) : evj (lkE cd_279) [7] call back 4000 0 [some (vR 12 0 253), none] [] M =
  back 7 [some (vR 12 0 253), some (vI 0)] (sI M 253 31 0) := rfl
set_option maxRecDepth 100000 in
theorem e279 (d : Nat)  (M : Mem) : evD (d + 1) 279 [vR 12 0 253] M =
  lp0 d 279 7 [some (vR 12 0 253), some (vI 0)] (sI M 253 31 0) := ((evD_step (d := d) (x := 279) (as := [vR 12 0 253]) (M := M) (md := (⟨"IceParliamentModel", "findTakers", "()V"⟩, prog_14_method_89_code, 2, (Option.none : Option Jvm.ClassFile.FieldType), 12, 12)) rfl rfl).trans (j279 (evD d) (evp0 (lkE (codT 279)) (hdT 279) (evD d))  M))
set_option maxRecDepth 100000 in
theorem g279_7 (call : Nat → List AV → Mem → Res) (back : Nat → Lv → Mem → Res) (l1 : Int32) (M : Mem) : stepK call back (evj (lkE cd_279) [7] call back 4000) (.iload_n 1, 1, 1, 0, 0, 0, 0) 7 [some (vR 12 0 253), some (vI l1)] [] M =
  cIn (call 248 [vR 12 0 253] M) fun v2 M1 =>
  ic (l1 < v2) (
    ic (37 + l1 < 0 ∨ 1127 ≤ (37 + l1).toNatClampNeg) none (
      ic (M1.1 269 (37 + l1).toNatClampNeg = 0) (
        ic (M1.1 253 31 < 4) (
          ic (M1.1 253 31 < 0 ∨ 4 ≤ (M1.1 253 31).toNatClampNeg) none (
            back 7 [some (vR 12 0 253), some (vI (l1 + 1))] (sI (sI M1 271 ((M1.1 253 31).toNatClampNeg) l1) 253 31 (((sI M1 271 ((M1.1 253 31).toNatClampNeg) l1).1 253 31) + 1)))) (
          back 7 [some (vR 12 0 253), some (vI (l1 + 1))] M1)) (
        back 7 [some (vR 12 0 253), some (vI (l1 + 1))] M1))) (
    some (none, M1)) := rfl
set_option maxRecDepth 100000 in
theorem e279_7 (d F : Nat) (l1 : Int32) (M : Mem) : lp d 279 (F + 1) 7 [some (vR 12 0 253), some (vI l1)] M =
  cIn (evD d 248 [vR 12 0 253] M) fun v2 M1 =>
  ic (l1 < v2) (
    ic (37 + l1 < 0 ∨ 1127 ≤ (37 + l1).toNatClampNeg) none (
      ic (M1.1 269 (37 + l1).toNatClampNeg = 0) (
        ic (M1.1 253 31 < 4) (
          ic (M1.1 253 31 < 0 ∨ 4 ≤ (M1.1 253 31).toNatClampNeg) none (
            lp d 279 F 7 [some (vR 12 0 253), some (vI (l1 + 1))] (sI (sI M1 271 ((M1.1 253 31).toNatClampNeg) l1) 253 31 (((sI M1 271 ((M1.1 253 31).toNatClampNeg) l1).1 253 31) + 1)))) (
          lp d 279 F 7 [some (vR 12 0 253), some (vI (l1 + 1))] M1)) (
        lp d 279 F 7 [some (vR 12 0 253), some (vI (l1 + 1))] M1))) (
    some (none, M1)) := ((evp_step (code := lkE (codT 279)) (hd := hdT 279) (call := evD d) (F := F) (pc := 7) (lv := [some (vR 12 0 253), some (vI l1)]) (M := M) (e := (.iload_n 1, 1, 1, 0, 0, 0, 0)) rfl).trans (g279_7 (evD d) (evp (lkE (codT 279)) (hdT 279) (evD d) F) l1 M))
-- IceParliamentModel works(II)V
set_option maxRecDepth 100000 in
theorem j280 (call : Nat → List AV → Mem → Res) (back : Nat → Lv → Mem → Res) (p0 : Int32) (p1 : Int32) (M : Mem) : evj (lkE cd_280) [16] call back 4000 0 [some (vR 12 0 253), some (vI p0), some (vI p1), none] [] M =
  ic (p0 = M.1 253 31) (
    cVd (call 281 [vR 12 0 253, vI p1] M) fun M1 =>
    some (none, M1)) (
    back 16 [some (vR 12 0 253), some (vI p0), some (vI p1), some (vI 0)] M) := rfl
set_option maxRecDepth 100000 in
theorem e280 (d : Nat) (p0 : Int32) (p1 : Int32) (M : Mem) : evD (d + 1) 280 [vR 12 0 253, vI p0, vI p1] M =
  ic (p0 = M.1 253 31) (
    cVd (evD d 281 [vR 12 0 253, vI p1] M) fun M1 =>
    some (none, M1)) (
    lp0 d 280 16 [some (vR 12 0 253), some (vI p0), some (vI p1), some (vI 0)] M) := ((evD_step (d := d) (x := 280) (as := [vR 12 0 253, vI p0, vI p1]) (M := M) (md := (⟨"IceParliamentModel", "works", "(II)V"⟩, prog_14_method_91_code, 4, (Option.none : Option Jvm.ClassFile.FieldType), 12, 12)) rfl rfl).trans (j280 (evD d) (evp0 (lkE (codT 280)) (hdT 280) (evD d)) p0 p1 M))
set_option maxRecDepth 100000 in
theorem g280_16 (call : Nat → List AV → Mem → Res) (back : Nat → Lv → Mem → Res) (l1 : Int32) (l2 : Int32) (l3 : Int32) (M : Mem) : stepK call back (evj (lkE cd_280) [16] call back 4000) (.iload_n 3, 1, 3, 0, 0, 0, 0) 16 [some (vR 12 0 253), some (vI l1), some (vI l2), some (vI l3)] [] M =
  cIn (call 197 [vR 12 0 253] M) fun v2 M1 =>
  ic (l3 < v2) (
    cIn (call 238 [vR 12 0 253, vI 0, vI l3] M1) fun v5 M4 =>
    ic (v5 = 0) (
      back 16 [some (vR 12 0 253), some (vI l1), some (vI l2), some (vI (l3 + 1))] M4) (
      ic (l1 < 0 ∨ 4 ≤ l1.toNatClampNeg) none (
        cVd (call 280 [vR 12 0 253, vI (l1 + 1), vI l2] (sI M4 272 l1.toNatClampNeg l3)) fun M6 =>
        back 16 [some (vR 12 0 253), some (vI l1), some (vI l2), some (vI (l3 + 1))] M6))) (
    ic (l1 < 0 ∨ 4 ≤ l1.toNatClampNeg) none (
      cVd (call 280 [vR 12 0 253, vI (l1 + 1), vI l2] (sI M1 272 l1.toNatClampNeg (-1))) fun M3 =>
      some (none, M3))) := rfl
set_option maxRecDepth 100000 in
theorem e280_16 (d F : Nat) (l1 : Int32) (l2 : Int32) (l3 : Int32) (M : Mem) : lp d 280 (F + 1) 16 [some (vR 12 0 253), some (vI l1), some (vI l2), some (vI l3)] M =
  cIn (evD d 197 [vR 12 0 253] M) fun v2 M1 =>
  ic (l3 < v2) (
    cIn (evD d 238 [vR 12 0 253, vI 0, vI l3] M1) fun v5 M4 =>
    ic (v5 = 0) (
      lp d 280 F 16 [some (vR 12 0 253), some (vI l1), some (vI l2), some (vI (l3 + 1))] M4) (
      ic (l1 < 0 ∨ 4 ≤ l1.toNatClampNeg) none (
        cVd (evD d 280 [vR 12 0 253, vI (l1 + 1), vI l2] (sI M4 272 l1.toNatClampNeg l3)) fun M6 =>
        lp d 280 F 16 [some (vR 12 0 253), some (vI l1), some (vI l2), some (vI (l3 + 1))] M6))) (
    ic (l1 < 0 ∨ 4 ≤ l1.toNatClampNeg) none (
      cVd (evD d 280 [vR 12 0 253, vI (l1 + 1), vI l2] (sI M1 272 l1.toNatClampNeg (-1))) fun M3 =>
      some (none, M3))) := ((evp_step (code := lkE (codT 280)) (hd := hdT 280) (call := evD d) (F := F) (pc := 16) (lv := [some (vR 12 0 253), some (vI l1), some (vI l2), some (vI l3)]) (M := M) (e := (.iload_n 3, 1, 3, 0, 0, 0, 0)) rfl).trans (g280_16 (evD d) (evp (lkE (codT 280)) (hdT 280) (evD d) F) l1 l2 l3 M))
-- IceParliamentModel worksBy(I)V
set_option maxRecDepth 100000 in
theorem j281 (call : Nat → List AV → Mem → Res) (back : Nat → Lv → Mem → Res) (p0 : Int32) (M : Mem) : evj (lkE cd_281) [10, 17, 124] call back 4000 0 [some (vR 12 0 253), some (vI p0), none, none] [] M =
  cVd (call 259 [vR 12 0 253, vI 0, vI 1029] M) fun M1 =>
  back 10 [some (vR 12 0 253), some (vI p0), some (vI 0), none] M1 := rfl
set_option maxRecDepth 100000 in
theorem e281 (d : Nat) (p0 : Int32) (M : Mem) : evD (d + 1) 281 [vR 12 0 253, vI p0] M =
  cVd (evD d 259 [vR 12 0 253, vI 0, vI 1029] M) fun M1 =>
  lp0 d 281 10 [some (vR 12 0 253), some (vI p0), some (vI 0), none] M1 := ((evD_step (d := d) (x := 281) (as := [vR 12 0 253, vI p0]) (M := M) (md := (⟨"IceParliamentModel", "worksBy", "(I)V"⟩, prog_14_method_90_code, 4, (Option.none : Option Jvm.ClassFile.FieldType), 12, 12)) rfl rfl).trans (j281 (evD d) (evp0 (lkE (codT 281)) (hdT 281) (evD d)) p0 M))
set_option maxRecDepth 100000 in
theorem g281_10 (call : Nat → List AV → Mem → Res) (back : Nat → Lv → Mem → Res) (l1 : Int32) (l2 : Int32) (o3 : Option AV) (M : Mem) : stepK call back (evj (lkE cd_281) [10, 17, 124] call back 4000) (.iload_n 2, 1, 2, 0, 0, 0, 0) 10 [some (vR 12 0 253), some (vI l1), some (vI l2), o3] [] M =
  ic (l2 < l1) (
    back 17 [some (vR 12 0 253), some (vI l1), some (vI l2), some (vI 0)] M) (
    cIn (call 250 [vR 12 0 253, vI 1029] M) fun v2 M1 =>
    cIn (call 252 [vR 12 0 253, vI v2] M1) fun v4 M3 =>
    ic (M3.1 253 32 < v4) (
      back 124 [some (vR 12 0 253), some (vI l1), some (vI v4), some (vI 0)] (sI M3 253 32 v4)) (
      some (none, M3))) := rfl
set_option maxRecDepth 100000 in
theorem e281_10 (d F : Nat) (l1 : Int32) (l2 : Int32) (o3 : Option AV) (M : Mem) : lp d 281 (F + 1) 10 [some (vR 12 0 253), some (vI l1), some (vI l2), o3] M =
  ic (l2 < l1) (
    lp d 281 F 17 [some (vR 12 0 253), some (vI l1), some (vI l2), some (vI 0)] M) (
    cIn (evD d 250 [vR 12 0 253, vI 1029] M) fun v2 M1 =>
    cIn (evD d 252 [vR 12 0 253, vI v2] M1) fun v4 M3 =>
    ic (M3.1 253 32 < v4) (
      lp d 281 F 124 [some (vR 12 0 253), some (vI l1), some (vI v4), some (vI 0)] (sI M3 253 32 v4)) (
      some (none, M3))) := ((evp_step (code := lkE (codT 281)) (hd := hdT 281) (call := evD d) (F := F) (pc := 10) (lv := [some (vR 12 0 253), some (vI l1), some (vI l2), o3]) (M := M) (e := (.iload_n 2, 1, 2, 0, 0, 0, 0)) rfl).trans (g281_10 (evD d) (evp (lkE (codT 281)) (hdT 281) (evD d) F) l1 l2 o3 M))
set_option maxRecDepth 100000 in
theorem g281_124a (call : Nat → List AV → Mem → Res) (back : Nat → Lv → Mem → Res) (o1 : Option AV) (l3 : Int32) (M : Mem) : stepK call back (evj (lkE cd_281) [10, 17, 124] call back 4000) (.iload_n 3, 1, 3, 0, 0, 0, 0) 124 [some (vR 12 0 253), o1, none, some (vI l3)] [] M =
  ic (l3 < M.1 253 31) (
    ic (l3 < 0 ∨ 4 ≤ l3.toNatClampNeg) none (
      ic (l3 < 0 ∨ 4 ≤ l3.toNatClampNeg) none (
        back 124 [some (vR 12 0 253), o1, none, some (vI (l3 + 1))] (sI M 273 l3.toNatClampNeg (M.1 272 l3.toNatClampNeg))))) (
    some (none, M)) := rfl
set_option maxRecDepth 100000 in
theorem e281_124a (d F : Nat) (o1 : Option AV) (l3 : Int32) (M : Mem) : lp d 281 (F + 1) 124 [some (vR 12 0 253), o1, none, some (vI l3)] M =
  ic (l3 < M.1 253 31) (
    ic (l3 < 0 ∨ 4 ≤ l3.toNatClampNeg) none (
      ic (l3 < 0 ∨ 4 ≤ l3.toNatClampNeg) none (
        lp d 281 F 124 [some (vR 12 0 253), o1, none, some (vI (l3 + 1))] (sI M 273 l3.toNatClampNeg (M.1 272 l3.toNatClampNeg))))) (
    some (none, M)) := ((evp_step (code := lkE (codT 281)) (hd := hdT 281) (call := evD d) (F := F) (pc := 124) (lv := [some (vR 12 0 253), o1, none, some (vI l3)]) (M := M) (e := (.iload_n 3, 1, 3, 0, 0, 0, 0)) rfl).trans (g281_124a (evD d) (evp (lkE (codT 281)) (hdT 281) (evD d) F) o1 l3 M))
set_option maxRecDepth 100000 in
theorem g281_124b (call : Nat → List AV → Mem → Res) (back : Nat → Lv → Mem → Res) (o1 : Option AV) (o2 : Int32) (l3 : Int32) (M : Mem) : stepK call back (evj (lkE cd_281) [10, 17, 124] call back 4000) (.iload_n 3, 1, 3, 0, 0, 0, 0) 124 [some (vR 12 0 253), o1, some (vI o2), some (vI l3)] [] M =
  ic (l3 < M.1 253 31) (
    ic (l3 < 0 ∨ 4 ≤ l3.toNatClampNeg) none (
      ic (l3 < 0 ∨ 4 ≤ l3.toNatClampNeg) none (
        back 124 [some (vR 12 0 253), o1, some (vI o2), some (vI (l3 + 1))] (sI M 273 l3.toNatClampNeg (M.1 272 l3.toNatClampNeg))))) (
    some (none, M)) := rfl
set_option maxRecDepth 100000 in
theorem e281_124b (d F : Nat) (o1 : Option AV) (o2 : Int32) (l3 : Int32) (M : Mem) : lp d 281 (F + 1) 124 [some (vR 12 0 253), o1, some (vI o2), some (vI l3)] M =
  ic (l3 < M.1 253 31) (
    ic (l3 < 0 ∨ 4 ≤ l3.toNatClampNeg) none (
      ic (l3 < 0 ∨ 4 ≤ l3.toNatClampNeg) none (
        lp d 281 F 124 [some (vR 12 0 253), o1, some (vI o2), some (vI (l3 + 1))] (sI M 273 l3.toNatClampNeg (M.1 272 l3.toNatClampNeg))))) (
    some (none, M)) := ((evp_step (code := lkE (codT 281)) (hd := hdT 281) (call := evD d) (F := F) (pc := 124) (lv := [some (vR 12 0 253), o1, some (vI o2), some (vI l3)]) (M := M) (e := (.iload_n 3, 1, 3, 0, 0, 0, 0)) rfl).trans (g281_124b (evD d) (evp (lkE (codT 281)) (hdT 281) (evD d) F) o1 o2 l3 M))
set_option maxRecDepth 100000 in
theorem g281_17 (call : Nat → List AV → Mem → Res) (back : Nat → Lv → Mem → Res) (l1 : Int32) (l2 : Int32) (l3 : Int32) (M : Mem) : stepK call back (evj (lkE cd_281) [10, 17, 124] call back 4000) (.iload_n 3, 1, 3, 0, 0, 0, 0) 17 [some (vR 12 0 253), some (vI l1), some (vI l2), some (vI l3)] [] M =
  ic (l3 < M.1 253 31) (
    ic (l3 < 0 ∨ 4 ≤ l3.toNatClampNeg) none (
      ic (M.1 272 l3.toNatClampNeg < 0) (
        back 17 [some (vR 12 0 253), some (vI l1), some (vI l2), some (vI (l3 + 1))] M) (
        ic (l3 < 0 ∨ 4 ≤ l3.toNatClampNeg) none (
          ic (l3 < 0 ∨ 4 ≤ l3.toNatClampNeg) none (
            cIn (call 262 [vR 12 0 253, vI 1029, vI (M.1 271 l3.toNatClampNeg), vI (M.1 272 l3.toNatClampNeg)] M) fun v4 M3 =>
            ic (v4 = 0) (
              back 17 [some (vR 12 0 253), some (vI l1), some (vI l2), some (vI (l3 + 1))] M3) (
              ic (l3 < 0 ∨ 4 ≤ l3.toNatClampNeg) none (
                ic (l3 < 0 ∨ 4 ≤ l3.toNatClampNeg) none (
                  cIn (call 263 [vR 12 0 253, vI 1029, vI (M3.1 271 l3.toNatClampNeg), vI (M3.1 272 l3.toNatClampNeg)] M3) fun v6 M5 =>
                  back 17 [some (vR 12 0 253), some (vI l1), some (vI l2), some (vI (l3 + 1))] M5)))))))) (
    cIn (call 269 [vR 12 0 253, vI 1029, vI 0] M) fun v2 M1 =>
    back 10 [some (vR 12 0 253), some (vI l1), some (vI (l2 + 1)), some (vI l3)] M1) := rfl
set_option maxRecDepth 100000 in
theorem e281_17 (d F : Nat) (l1 : Int32) (l2 : Int32) (l3 : Int32) (M : Mem) : lp d 281 (F + 1) 17 [some (vR 12 0 253), some (vI l1), some (vI l2), some (vI l3)] M =
  ic (l3 < M.1 253 31) (
    ic (l3 < 0 ∨ 4 ≤ l3.toNatClampNeg) none (
      ic (M.1 272 l3.toNatClampNeg < 0) (
        lp d 281 F 17 [some (vR 12 0 253), some (vI l1), some (vI l2), some (vI (l3 + 1))] M) (
        ic (l3 < 0 ∨ 4 ≤ l3.toNatClampNeg) none (
          ic (l3 < 0 ∨ 4 ≤ l3.toNatClampNeg) none (
            cIn (evD d 262 [vR 12 0 253, vI 1029, vI (M.1 271 l3.toNatClampNeg), vI (M.1 272 l3.toNatClampNeg)] M) fun v4 M3 =>
            ic (v4 = 0) (
              lp d 281 F 17 [some (vR 12 0 253), some (vI l1), some (vI l2), some (vI (l3 + 1))] M3) (
              ic (l3 < 0 ∨ 4 ≤ l3.toNatClampNeg) none (
                ic (l3 < 0 ∨ 4 ≤ l3.toNatClampNeg) none (
                  cIn (evD d 263 [vR 12 0 253, vI 1029, vI (M3.1 271 l3.toNatClampNeg), vI (M3.1 272 l3.toNatClampNeg)] M3) fun v6 M5 =>
                  lp d 281 F 17 [some (vR 12 0 253), some (vI l1), some (vI l2), some (vI (l3 + 1))] M5)))))))) (
    cIn (evD d 269 [vR 12 0 253, vI 1029, vI 0] M) fun v2 M1 =>
    lp d 281 F 10 [some (vR 12 0 253), some (vI l1), some (vI (l2 + 1)), some (vI l3)] M1) := ((evp_step (code := lkE (codT 281)) (hd := hdT 281) (call := evD d) (F := F) (pc := 17) (lv := [some (vR 12 0 253), some (vI l1), some (vI l2), some (vI l3)]) (M := M) (e := (.iload_n 3, 1, 3, 0, 0, 0, 0)) rfl).trans (g281_17 (evD d) (evp (lkE (codT 281)) (hdT 281) (evD d) F) l1 l2 l3 M))
-- IceParliamentModel places(I)I
set_option maxRecDepth 100000 in
theorem j282 (call : Nat → List AV → Mem → Res) (back : Nat → Lv → Mem → Res) (p0 : Int32) (M : Mem) : evj (lkE cd_282) [28, 64, 96] call back 4000 0 [some (vR 12 0 253), some (vI p0), none, none, none, none] [] M =
  ic (p0 = (-1)) (
    back 28 [some (vR 12 0 253), some (vI p0), some (vI 0), some (vI 0), some (vI 0), none] (sI M 253 0 0)) (
    cIn (call 237 [vR 12 0 253, vI p0] (sI M 253 0 0)) fun v2 M1 =>
    ic (v2 = 0) (
      some (some (vI (-2)), M1)) (
      back 28 [some (vR 12 0 253), some (vI p0), some (vI 0), some (vI 0), some (vI 0), none] M1)) := rfl
set_option maxRecDepth 100000 in
theorem e282 (d : Nat) (p0 : Int32) (M : Mem) : evD (d + 1) 282 [vR 12 0 253, vI p0] M =
  ic (p0 = (-1)) (
    lp0 d 282 28 [some (vR 12 0 253), some (vI p0), some (vI 0), some (vI 0), some (vI 0), none] (sI M 253 0 0)) (
    cIn (evD d 237 [vR 12 0 253, vI p0] (sI M 253 0 0)) fun v2 M1 =>
    ic (v2 = 0) (
      some (some (vI (-2)), M1)) (
      lp0 d 282 28 [some (vR 12 0 253), some (vI p0), some (vI 0), some (vI 0), some (vI 0), none] M1)) := ((evD_step (d := d) (x := 282) (as := [vR 12 0 253, vI p0]) (M := M) (md := (⟨"IceParliamentModel", "places", "(I)I"⟩, prog_14_method_95_code, 6, (Option.some Jvm.ClassFile.FieldType.int), 12, 12)) rfl rfl).trans (j282 (evD d) (evp0 (lkE (codT 282)) (hdT 282) (evD d)) p0 M))
set_option maxRecDepth 100000 in
theorem g282_28 (call : Nat → List AV → Mem → Res) (back : Nat → Lv → Mem → Res) (l1 : Int32) (l2 : Int32) (l3 : Int32) (l4 : Int32) (o5 : Option AV) (M : Mem) : stepK call back (evj (lkE cd_282) [28, 64, 96] call back 4000) (.iload 4, 2, 4, 0, 0, 0, 0) 28 [some (vR 12 0 253), some (vI l1), some (vI l2), some (vI l3), some (vI l4), o5] [] M =
  cIn (call 255 [vR 12 0 253] M) fun v2 M1 =>
  ic (l4 < v2) (
    cIn (call 257 [vR 12 0 253, vI 0, vI l4] M1) fun v4 M3 =>
    ic (v4 = 0) (
      back 28 [some (vR 12 0 253), some (vI l1), some (vI (l2 + 0)), some (vI l3), some (vI (l4 + 1)), o5] M3) (
      back 28 [some (vR 12 0 253), some (vI l1), some (vI (l2 + 1)), some (vI l3), some (vI (l4 + 1)), o5] M3)) (
    back 64 [some (vR 12 0 253), some (vI l1), some (vI l2), some (vI l3), some (vI 0), o5] M1) := rfl
set_option maxRecDepth 100000 in
theorem e282_28 (d F : Nat) (l1 : Int32) (l2 : Int32) (l3 : Int32) (l4 : Int32) (o5 : Option AV) (M : Mem) : lp d 282 (F + 1) 28 [some (vR 12 0 253), some (vI l1), some (vI l2), some (vI l3), some (vI l4), o5] M =
  cIn (evD d 255 [vR 12 0 253] M) fun v2 M1 =>
  ic (l4 < v2) (
    cIn (evD d 257 [vR 12 0 253, vI 0, vI l4] M1) fun v4 M3 =>
    ic (v4 = 0) (
      lp d 282 F 28 [some (vR 12 0 253), some (vI l1), some (vI (l2 + 0)), some (vI l3), some (vI (l4 + 1)), o5] M3) (
      lp d 282 F 28 [some (vR 12 0 253), some (vI l1), some (vI (l2 + 1)), some (vI l3), some (vI (l4 + 1)), o5] M3)) (
    lp d 282 F 64 [some (vR 12 0 253), some (vI l1), some (vI l2), some (vI l3), some (vI 0), o5] M1) := ((evp_step (code := lkE (codT 282)) (hd := hdT 282) (call := evD d) (F := F) (pc := 28) (lv := [some (vR 12 0 253), some (vI l1), some (vI l2), some (vI l3), some (vI l4), o5]) (M := M) (e := (.iload 4, 2, 4, 0, 0, 0, 0)) rfl).trans (g282_28 (evD d) (evp (lkE (codT 282)) (hdT 282) (evD d) F) l1 l2 l3 l4 o5 M))
set_option maxRecDepth 100000 in
theorem g282_64 (call : Nat → List AV → Mem → Res) (back : Nat → Lv → Mem → Res) (l1 : Int32) (l2 : Int32) (l3 : Int32) (l4 : Int32) (o5 : Option AV) (M : Mem) : stepK call back (evj (lkE cd_282) [28, 64, 96] call back 4000) (.iload 4, 2, 4, 0, 0, 0, 0) 64 [some (vR 12 0 253), some (vI l1), some (vI l2), some (vI l3), some (vI l4), o5] [] M =
  cIn (call 197 [vR 12 0 253] M) fun v2 M1 =>
  ic (l4 < v2) (
    ic (1 + l4 < 0 ∨ 1127 ≤ (1 + l4).toNatClampNeg) none (
      ic (M1.1 269 (1 + l4).toNatClampNeg = 0) (
        back 96 [some (vR 12 0 253), some (vI l1), some (vI l2), some (vI (l3 + 1)), some (vI l4), some (vI 0)] M1) (
        back 96 [some (vR 12 0 253), some (vI l1), some (vI l2), some (vI (l3 + 0)), some (vI l4), some (vI 0)] M1))) (
    ic (l2 < l3) (
      cVd (call 284 [vR 12 0 253, vI 0, vI 0, vI 0, vI 0] (sI (sI M1 253 37 l2) 253 36 (-1))) fun M4 =>
      ic (l1 < 0) (
        some (some (vI (M4.1 253 36)), M4)) (
        ic (l1 < 0 ∨ 6 ≤ l1.toNatClampNeg) none (
          some (some (vI (M4.1 276 l1.toNatClampNeg)), M4)))) (
      cVd (call 284 [vR 12 0 253, vI 0, vI 0, vI 0, vI 0] (sI (sI M1 253 37 l3) 253 36 (-1))) fun M3 =>
      ic (l1 < 0) (
        some (some (vI (M3.1 253 36)), M3)) (
        ic (l1 < 0 ∨ 6 ≤ l1.toNatClampNeg) none (
          some (some (vI (M3.1 276 l1.toNatClampNeg)), M3))))) := rfl
set_option maxRecDepth 100000 in
theorem e282_64 (d F : Nat) (l1 : Int32) (l2 : Int32) (l3 : Int32) (l4 : Int32) (o5 : Option AV) (M : Mem) : lp d 282 (F + 1) 64 [some (vR 12 0 253), some (vI l1), some (vI l2), some (vI l3), some (vI l4), o5] M =
  cIn (evD d 197 [vR 12 0 253] M) fun v2 M1 =>
  ic (l4 < v2) (
    ic (1 + l4 < 0 ∨ 1127 ≤ (1 + l4).toNatClampNeg) none (
      ic (M1.1 269 (1 + l4).toNatClampNeg = 0) (
        lp d 282 F 96 [some (vR 12 0 253), some (vI l1), some (vI l2), some (vI (l3 + 1)), some (vI l4), some (vI 0)] M1) (
        lp d 282 F 96 [some (vR 12 0 253), some (vI l1), some (vI l2), some (vI (l3 + 0)), some (vI l4), some (vI 0)] M1))) (
    ic (l2 < l3) (
      cVd (evD d 284 [vR 12 0 253, vI 0, vI 0, vI 0, vI 0] (sI (sI M1 253 37 l2) 253 36 (-1))) fun M4 =>
      ic (l1 < 0) (
        some (some (vI (M4.1 253 36)), M4)) (
        ic (l1 < 0 ∨ 6 ≤ l1.toNatClampNeg) none (
          some (some (vI (M4.1 276 l1.toNatClampNeg)), M4)))) (
      cVd (evD d 284 [vR 12 0 253, vI 0, vI 0, vI 0, vI 0] (sI (sI M1 253 37 l3) 253 36 (-1))) fun M3 =>
      ic (l1 < 0) (
        some (some (vI (M3.1 253 36)), M3)) (
        ic (l1 < 0 ∨ 6 ≤ l1.toNatClampNeg) none (
          some (some (vI (M3.1 276 l1.toNatClampNeg)), M3))))) := ((evp_step (code := lkE (codT 282)) (hd := hdT 282) (call := evD d) (F := F) (pc := 64) (lv := [some (vR 12 0 253), some (vI l1), some (vI l2), some (vI l3), some (vI l4), o5]) (M := M) (e := (.iload 4, 2, 4, 0, 0, 0, 0)) rfl).trans (g282_64 (evD d) (evp (lkE (codT 282)) (hdT 282) (evD d) F) l1 l2 l3 l4 o5 M))
set_option maxRecDepth 100000 in
theorem g282_96 (call : Nat → List AV → Mem → Res) (back : Nat → Lv → Mem → Res) (l1 : Int32) (l2 : Int32) (l3 : Int32) (l4 : Int32) (l5 : Int32) (M : Mem) : stepK call back (evj (lkE cd_282) [28, 64, 96] call back 4000) (.iload 5, 2, 5, 0, 0, 0, 0) 96 [some (vR 12 0 253), some (vI l1), some (vI l2), some (vI l3), some (vI l4), some (vI l5)] [] M =
  cIn (call 255 [vR 12 0 253] M) fun v2 M1 =>
  ic (l5 < v2) (
    cIn (call 198 [vR 12 0 253, vI l4, vI 1] M1) fun v4 M3 =>
    cIn (call 283 [vR 12 0 253, vI l4, vI l5, vI v4] M3) fun v6 M5 =>
    ic ((6 * l4) + l5 < 0 ∨ 36 ≤ ((6 * l4) + l5).toNatClampNeg) none (
      back 96 [some (vR 12 0 253), some (vI l1), some (vI l2), some (vI l3), some (vI l4), some (vI (l5 + 1))] (sI M5 274 (((6 * l4) + l5).toNatClampNeg) v6))) (
    back 64 [some (vR 12 0 253), some (vI l1), some (vI l2), some (vI l3), some (vI (l4 + 1)), some (vI l5)] M1) := rfl
set_option maxRecDepth 100000 in
theorem e282_96 (d F : Nat) (l1 : Int32) (l2 : Int32) (l3 : Int32) (l4 : Int32) (l5 : Int32) (M : Mem) : lp d 282 (F + 1) 96 [some (vR 12 0 253), some (vI l1), some (vI l2), some (vI l3), some (vI l4), some (vI l5)] M =
  cIn (evD d 255 [vR 12 0 253] M) fun v2 M1 =>
  ic (l5 < v2) (
    cIn (evD d 198 [vR 12 0 253, vI l4, vI 1] M1) fun v4 M3 =>
    cIn (evD d 283 [vR 12 0 253, vI l4, vI l5, vI v4] M3) fun v6 M5 =>
    ic ((6 * l4) + l5 < 0 ∨ 36 ≤ ((6 * l4) + l5).toNatClampNeg) none (
      lp d 282 F 96 [some (vR 12 0 253), some (vI l1), some (vI l2), some (vI l3), some (vI l4), some (vI (l5 + 1))] (sI M5 274 (((6 * l4) + l5).toNatClampNeg) v6))) (
    lp d 282 F 64 [some (vR 12 0 253), some (vI l1), some (vI l2), some (vI l3), some (vI (l4 + 1)), some (vI l5)] M1) := ((evp_step (code := lkE (codT 282)) (hd := hdT 282) (call := evD d) (F := F) (pc := 96) (lv := [some (vR 12 0 253), some (vI l1), some (vI l2), some (vI l3), some (vI l4), some (vI l5)]) (M := M) (e := (.iload 5, 2, 5, 0, 0, 0, 0)) rfl).trans (g282_96 (evD d) (evp (lkE (codT 282)) (hdT 282) (evD d) F) l1 l2 l3 l4 l5 M))
-- IceParliamentModel nightsAt(III)I
set_option maxRecDepth 100000 in
theorem j283 (call : Nat → List AV → Mem → Res) (back : Nat → Lv → Mem → Res) (p0 : Int32) (p1 : Int32) (p2 : Int32) (M : Mem) : evj (lkE cd_283) [6] call back 4000 0 [some (vR 12 0 253), some (vI p0), some (vI p1), some (vI p2), none, none] [] M =
  back 6 [some (vR 12 0 253), some (vI p0), some (vI p1), some (vI p2), some (vI p2), some (vI 1)] M := rfl
set_option maxRecDepth 100000 in
theorem e283 (d : Nat) (p0 : Int32) (p1 : Int32) (p2 : Int32) (M : Mem) : evD (d + 1) 283 [vR 12 0 253, vI p0, vI p1, vI p2] M =
  lp0 d 283 6 [some (vR 12 0 253), some (vI p0), some (vI p1), some (vI p2), some (vI p2), some (vI 1)] M := ((evD_step (d := d) (x := 283) (as := [vR 12 0 253, vI p0, vI p1, vI p2]) (M := M) (md := (⟨"IceParliamentModel", "nightsAt", "(III)I"⟩, prog_14_method_93_code, 6, (Option.some Jvm.ClassFile.FieldType.int), 12, 12)) rfl rfl).trans (j283 (evD d) (evp0 (lkE (codT 283)) (hdT 283) (evD d)) p0 p1 p2 M))
set_option maxRecDepth 100000 in
theorem g283_6a (call : Nat → List AV → Mem → Res) (back : Nat → Lv → Mem → Res) (l1 : Int32) (l2 : Int32) (l4 : Int32) (l5 : Int32) (M : Mem) : stepK call back (evj (lkE cd_283) [6] call back 4000) (.iload 5, 2, 5, 0, 0, 0, 0) 6 [some (vR 12 0 253), some (vI l1), some (vI l2), none, some (vI l4), some (vI l5)] [] M =
  ic (40 < l5) (
    some (some (vI 41), M)) (
    ic ((0 : Int32) < 0 ∨ 1127 ≤ (0 : Int32).toNatClampNeg) none (
      cIn (call 242 [vR 12 0 253, vI l1, vI l2, vI l4, vI (((M.1 269 (0 : Int32).toNatClampNeg) + l5) - 1), vI 0] M) fun v2 M1 =>
      ic (0 < l4 - v2) (
        back 6 [some (vR 12 0 253), some (vI l1), some (vI l2), none, some (vI (l4 - v2)), some (vI (l5 + 1))] M1) (
        some (some (vI l5), M1)))) := rfl
set_option maxRecDepth 100000 in
theorem e283_6a (d F : Nat) (l1 : Int32) (l2 : Int32) (l4 : Int32) (l5 : Int32) (M : Mem) : lp d 283 (F + 1) 6 [some (vR 12 0 253), some (vI l1), some (vI l2), none, some (vI l4), some (vI l5)] M =
  ic (40 < l5) (
    some (some (vI 41), M)) (
    cIn (evD d 242 [vR 12 0 253, vI l1, vI l2, vI l4, vI (((M.1 269 0) + l5) - 1), vI 0] M) fun v2 M1 =>
    ic (0 < l4 - v2) (
      lp d 283 F 6 [some (vR 12 0 253), some (vI l1), some (vI l2), none, some (vI (l4 - v2)), some (vI (l5 + 1))] M1) (
      some (some (vI l5), M1))) := ((evp_step (code := lkE (codT 283)) (hd := hdT 283) (call := evD d) (F := F) (pc := 6) (lv := [some (vR 12 0 253), some (vI l1), some (vI l2), none, some (vI l4), some (vI l5)]) (M := M) (e := (.iload 5, 2, 5, 0, 0, 0, 0)) rfl).trans (g283_6a (evD d) (evp (lkE (codT 283)) (hdT 283) (evD d) F) l1 l2 l4 l5 M)).trans (by (try simp only [ic_f (show ¬ ((0 : Int32) < 0 ∨ 1127 ≤ (0 : Int32).toNatClampNeg) by decide)]); (try simp only [show (0 : Int32).toNatClampNeg = 0 from rfl]))
set_option maxRecDepth 100000 in
theorem g283_6b (call : Nat → List AV → Mem → Res) (back : Nat → Lv → Mem → Res) (l1 : Int32) (l2 : Int32) (o3 : Int32) (l4 : Int32) (l5 : Int32) (M : Mem) : stepK call back (evj (lkE cd_283) [6] call back 4000) (.iload 5, 2, 5, 0, 0, 0, 0) 6 [some (vR 12 0 253), some (vI l1), some (vI l2), some (vI o3), some (vI l4), some (vI l5)] [] M =
  ic (40 < l5) (
    some (some (vI 41), M)) (
    ic ((0 : Int32) < 0 ∨ 1127 ≤ (0 : Int32).toNatClampNeg) none (
      cIn (call 242 [vR 12 0 253, vI l1, vI l2, vI l4, vI (((M.1 269 (0 : Int32).toNatClampNeg) + l5) - 1), vI 0] M) fun v2 M1 =>
      ic (0 < l4 - v2) (
        back 6 [some (vR 12 0 253), some (vI l1), some (vI l2), some (vI o3), some (vI (l4 - v2)), some (vI (l5 + 1))] M1) (
        some (some (vI l5), M1)))) := rfl
set_option maxRecDepth 100000 in
theorem e283_6b (d F : Nat) (l1 : Int32) (l2 : Int32) (o3 : Int32) (l4 : Int32) (l5 : Int32) (M : Mem) : lp d 283 (F + 1) 6 [some (vR 12 0 253), some (vI l1), some (vI l2), some (vI o3), some (vI l4), some (vI l5)] M =
  ic (40 < l5) (
    some (some (vI 41), M)) (
    cIn (evD d 242 [vR 12 0 253, vI l1, vI l2, vI l4, vI (((M.1 269 0) + l5) - 1), vI 0] M) fun v2 M1 =>
    ic (0 < l4 - v2) (
      lp d 283 F 6 [some (vR 12 0 253), some (vI l1), some (vI l2), some (vI o3), some (vI (l4 - v2)), some (vI (l5 + 1))] M1) (
      some (some (vI l5), M1))) := ((evp_step (code := lkE (codT 283)) (hd := hdT 283) (call := evD d) (F := F) (pc := 6) (lv := [some (vR 12 0 253), some (vI l1), some (vI l2), some (vI o3), some (vI l4), some (vI l5)]) (M := M) (e := (.iload 5, 2, 5, 0, 0, 0, 0)) rfl).trans (g283_6b (evD d) (evp (lkE (codT 283)) (hdT 283) (evD d) F) l1 l2 o3 l4 l5 M)).trans (by (try simp only [ic_f (show ¬ ((0 : Int32) < 0 ∨ 1127 ≤ (0 : Int32).toNatClampNeg) by decide)]); (try simp only [show (0 : Int32).toNatClampNeg = 0 from rfl]))
-- IceParliamentModel laysPlaces(IIII)V
set_option maxRecDepth 100000 in
theorem j284 (call : Nat → List AV → Mem → Res) (back : Nat → Lv → Mem → Res) (p0 : Int32) (p1 : Int32) (p2 : Int32) (p3 : Int32) (M : Mem) : evj (lkE cd_284) [34, 71] call back 4000 0 [some (vR 12 0 253), some (vI p0), some (vI p1), some (vI p2), some (vI p3), none] [] M =
  cIn (call 197 [vR 12 0 253] M) fun v2 M1 =>
  ic (p0 = v2) (
    ic (p2 = M1.1 253 37) (
      ic (M1.1 253 36 < p3) (
        back 34 [some (vR 12 0 253), some (vI p0), some (vI p1), some (vI p2), some (vI p3), some (vI 0)] (sI M1 253 36 p3)) (
        some (none, M1))) (
      some (none, M1))) (
    ic (p0 < 0 ∨ 6 ≤ p0.toNatClampNeg) none (
      back 71 [some (vR 12 0 253), some (vI p0), some (vI p1), some (vI p2), some (vI p3), some (vI 0)] (sI M1 275 p0.toNatClampNeg (-1)))) := rfl
set_option maxRecDepth 100000 in
theorem e284 (d : Nat) (p0 : Int32) (p1 : Int32) (p2 : Int32) (p3 : Int32) (M : Mem) : evD (d + 1) 284 [vR 12 0 253, vI p0, vI p1, vI p2, vI p3] M =
  cIn (evD d 197 [vR 12 0 253] M) fun v2 M1 =>
  ic (p0 = v2) (
    ic (p2 = M1.1 253 37) (
      ic (M1.1 253 36 < p3) (
        lp0 d 284 34 [some (vR 12 0 253), some (vI p0), some (vI p1), some (vI p2), some (vI p3), some (vI 0)] (sI M1 253 36 p3)) (
        some (none, M1))) (
      some (none, M1))) (
    ic (p0 < 0 ∨ 6 ≤ p0.toNatClampNeg) none (
      lp0 d 284 71 [some (vR 12 0 253), some (vI p0), some (vI p1), some (vI p2), some (vI p3), some (vI 0)] (sI M1 275 p0.toNatClampNeg (-1)))) := ((evD_step (d := d) (x := 284) (as := [vR 12 0 253, vI p0, vI p1, vI p2, vI p3]) (M := M) (md := (⟨"IceParliamentModel", "laysPlaces", "(IIII)V"⟩, prog_14_method_94_code, 6, (Option.none : Option Jvm.ClassFile.FieldType), 12, 12)) rfl rfl).trans (j284 (evD d) (evp0 (lkE (codT 284)) (hdT 284) (evD d)) p0 p1 p2 p3 M))
set_option maxRecDepth 100000 in
theorem g284_71 (call : Nat → List AV → Mem → Res) (back : Nat → Lv → Mem → Res) (l1 : Int32) (l2 : Int32) (l3 : Int32) (l4 : Int32) (l5 : Int32) (M : Mem) : stepK call back (evj (lkE cd_284) [34, 71] call back 4000) (.iload 5, 2, 5, 0, 0, 0, 0) 71 [some (vR 12 0 253), some (vI l1), some (vI l2), some (vI l3), some (vI l4), some (vI l5)] [] M =
  cIn (call 255 [vR 12 0 253] M) fun v2 M1 =>
  ic (l5 < v2) (
    ic (1 + l1 < 0 ∨ 1127 ≤ (1 + l1).toNatClampNeg) none (
      ic (M1.1 269 (1 + l1).toNatClampNeg = 0) (
        ic ((l2 >>> (l5 &&& 31)) &&& 1 = 0) (
          cIn (call 257 [vR 12 0 253, vI 0, vI l5] M1) fun v6 M5 =>
          ic (v6 = 0) (
            back 71 [some (vR 12 0 253), some (vI l1), some (vI l2), some (vI l3), some (vI l4), some (vI (l5 + 1))] M5) (
            ic (l1 < 0 ∨ 6 ≤ l1.toNatClampNeg) none (
              ic ((6 * l1) + l5 < 0 ∨ 36 ≤ ((6 * l1) + l5).toNatClampNeg) none (
                cVd (call 284 [vR 12 0 253, vI (l1 + 1), vI (l2 ||| (1 <<< (l5 &&& 31))), vI (l3 + 1), vI (l4 + ((sI M5 275 l1.toNatClampNeg l5).1 274 ((6 * l1) + l5).toNatClampNeg))] (sI M5 275 l1.toNatClampNeg l5)) fun M7 =>
                back 71 [some (vR 12 0 253), some (vI l1), some (vI l2), some (vI l3), some (vI l4), some (vI (l5 + 1))] M7)))) (
          back 71 [some (vR 12 0 253), some (vI l1), some (vI l2), some (vI l3), some (vI l4), some (vI (l5 + 1))] M1)) (
        ic (l1 < 0 ∨ 6 ≤ l1.toNatClampNeg) none (
          cVd (call 284 [vR 12 0 253, vI (l1 + 1), vI l2, vI l3, vI l4] (sI M1 275 l1.toNatClampNeg (-1))) fun M4 =>
          some (none, M4))))) (
    ic (l1 < 0 ∨ 6 ≤ l1.toNatClampNeg) none (
      cVd (call 284 [vR 12 0 253, vI (l1 + 1), vI l2, vI l3, vI l4] (sI M1 275 l1.toNatClampNeg (-1))) fun M3 =>
      some (none, M3))) := rfl
set_option maxRecDepth 100000 in
theorem e284_71 (d F : Nat) (l1 : Int32) (l2 : Int32) (l3 : Int32) (l4 : Int32) (l5 : Int32) (M : Mem) : lp d 284 (F + 1) 71 [some (vR 12 0 253), some (vI l1), some (vI l2), some (vI l3), some (vI l4), some (vI l5)] M =
  cIn (evD d 255 [vR 12 0 253] M) fun v2 M1 =>
  ic (l5 < v2) (
    ic (1 + l1 < 0 ∨ 1127 ≤ (1 + l1).toNatClampNeg) none (
      ic (M1.1 269 (1 + l1).toNatClampNeg = 0) (
        ic ((l2 >>> (l5 &&& 31)) &&& 1 = 0) (
          cIn (evD d 257 [vR 12 0 253, vI 0, vI l5] M1) fun v6 M5 =>
          ic (v6 = 0) (
            lp d 284 F 71 [some (vR 12 0 253), some (vI l1), some (vI l2), some (vI l3), some (vI l4), some (vI (l5 + 1))] M5) (
            ic (l1 < 0 ∨ 6 ≤ l1.toNatClampNeg) none (
              ic ((6 * l1) + l5 < 0 ∨ 36 ≤ ((6 * l1) + l5).toNatClampNeg) none (
                cVd (evD d 284 [vR 12 0 253, vI (l1 + 1), vI (l2 ||| (1 <<< (l5 &&& 31))), vI (l3 + 1), vI (l4 + ((sI M5 275 l1.toNatClampNeg l5).1 274 ((6 * l1) + l5).toNatClampNeg))] (sI M5 275 l1.toNatClampNeg l5)) fun M7 =>
                lp d 284 F 71 [some (vR 12 0 253), some (vI l1), some (vI l2), some (vI l3), some (vI l4), some (vI (l5 + 1))] M7)))) (
          lp d 284 F 71 [some (vR 12 0 253), some (vI l1), some (vI l2), some (vI l3), some (vI l4), some (vI (l5 + 1))] M1)) (
        ic (l1 < 0 ∨ 6 ≤ l1.toNatClampNeg) none (
          cVd (evD d 284 [vR 12 0 253, vI (l1 + 1), vI l2, vI l3, vI l4] (sI M1 275 l1.toNatClampNeg (-1))) fun M4 =>
          some (none, M4))))) (
    ic (l1 < 0 ∨ 6 ≤ l1.toNatClampNeg) none (
      cVd (evD d 284 [vR 12 0 253, vI (l1 + 1), vI l2, vI l3, vI l4] (sI M1 275 l1.toNatClampNeg (-1))) fun M3 =>
      some (none, M3))) := ((evp_step (code := lkE (codT 284)) (hd := hdT 284) (call := evD d) (F := F) (pc := 71) (lv := [some (vR 12 0 253), some (vI l1), some (vI l2), some (vI l3), some (vI l4), some (vI l5)]) (M := M) (e := (.iload 5, 2, 5, 0, 0, 0, 0)) rfl).trans (g284_71 (evD d) (evp (lkE (codT 284)) (hdT 284) (evD d) F) l1 l2 l3 l4 l5 M))
set_option maxRecDepth 100000 in
theorem g284_34a (call : Nat → List AV → Mem → Res) (back : Nat → Lv → Mem → Res) (l1 : Int32) (o2 : Option AV) (o3 : Option AV) (l5 : Int32) (M : Mem) : stepK call back (evj (lkE cd_284) [34, 71] call back 4000) (.iload 5, 2, 5, 0, 0, 0, 0) 34 [some (vR 12 0 253), some (vI l1), o2, o3, none, some (vI l5)] [] M =
  ic (l5 < l1) (
    ic (l5 < 0 ∨ 6 ≤ l5.toNatClampNeg) none (
      ic (l5 < 0 ∨ 6 ≤ l5.toNatClampNeg) none (
        back 34 [some (vR 12 0 253), some (vI l1), o2, o3, none, some (vI (l5 + 1))] (sI M 276 l5.toNatClampNeg (M.1 275 l5.toNatClampNeg))))) (
    some (none, M)) := rfl
set_option maxRecDepth 100000 in
theorem e284_34a (d F : Nat) (l1 : Int32) (o2 : Option AV) (o3 : Option AV) (l5 : Int32) (M : Mem) : lp d 284 (F + 1) 34 [some (vR 12 0 253), some (vI l1), o2, o3, none, some (vI l5)] M =
  ic (l5 < l1) (
    ic (l5 < 0 ∨ 6 ≤ l5.toNatClampNeg) none (
      ic (l5 < 0 ∨ 6 ≤ l5.toNatClampNeg) none (
        lp d 284 F 34 [some (vR 12 0 253), some (vI l1), o2, o3, none, some (vI (l5 + 1))] (sI M 276 l5.toNatClampNeg (M.1 275 l5.toNatClampNeg))))) (
    some (none, M)) := ((evp_step (code := lkE (codT 284)) (hd := hdT 284) (call := evD d) (F := F) (pc := 34) (lv := [some (vR 12 0 253), some (vI l1), o2, o3, none, some (vI l5)]) (M := M) (e := (.iload 5, 2, 5, 0, 0, 0, 0)) rfl).trans (g284_34a (evD d) (evp (lkE (codT 284)) (hdT 284) (evD d) F) l1 o2 o3 l5 M))
set_option maxRecDepth 100000 in
theorem g284_34b (call : Nat → List AV → Mem → Res) (back : Nat → Lv → Mem → Res) (l1 : Int32) (o2 : Option AV) (o3 : Option AV) (o4 : Int32) (l5 : Int32) (M : Mem) : stepK call back (evj (lkE cd_284) [34, 71] call back 4000) (.iload 5, 2, 5, 0, 0, 0, 0) 34 [some (vR 12 0 253), some (vI l1), o2, o3, some (vI o4), some (vI l5)] [] M =
  ic (l5 < l1) (
    ic (l5 < 0 ∨ 6 ≤ l5.toNatClampNeg) none (
      ic (l5 < 0 ∨ 6 ≤ l5.toNatClampNeg) none (
        back 34 [some (vR 12 0 253), some (vI l1), o2, o3, some (vI o4), some (vI (l5 + 1))] (sI M 276 l5.toNatClampNeg (M.1 275 l5.toNatClampNeg))))) (
    some (none, M)) := rfl
set_option maxRecDepth 100000 in
theorem e284_34b (d F : Nat) (l1 : Int32) (o2 : Option AV) (o3 : Option AV) (o4 : Int32) (l5 : Int32) (M : Mem) : lp d 284 (F + 1) 34 [some (vR 12 0 253), some (vI l1), o2, o3, some (vI o4), some (vI l5)] M =
  ic (l5 < l1) (
    ic (l5 < 0 ∨ 6 ≤ l5.toNatClampNeg) none (
      ic (l5 < 0 ∨ 6 ≤ l5.toNatClampNeg) none (
        lp d 284 F 34 [some (vR 12 0 253), some (vI l1), o2, o3, some (vI o4), some (vI (l5 + 1))] (sI M 276 l5.toNatClampNeg (M.1 275 l5.toNatClampNeg))))) (
    some (none, M)) := ((evp_step (code := lkE (codT 284)) (hd := hdT 284) (call := evD d) (F := F) (pc := 34) (lv := [some (vR 12 0 253), some (vI l1), o2, o3, some (vI o4), some (vI l5)]) (M := M) (e := (.iload 5, 2, 5, 0, 0, 0, 0)) rfl).trans (g284_34b (evD d) (evp (lkE (codT 284)) (hdT 284) (evD d) F) l1 o2 o3 o4 l5 M))
-- IceParliamentModel thin(III)I
set_option maxRecDepth 100000 in
theorem j285 (call : Nat → List AV → Mem → Res) (back : Nat → Lv → Mem → Res) (p0 : Int32) (p1 : Int32) (p2 : Int32) (M : Mem) : evj (lkE cd_285) [36] call back 4000 0 [some (vR 12 0 253), some (vI p0), some (vI p1), some (vI p2), none] [] M =
  cIn (call 237 [vR 12 0 253, vI p0] (sI M 253 0 0)) fun v2 M1 =>
  ic (v2 = 0) (
    some (some (vI (-1)), M1)) (
    cIn (call 254 [vR 12 0 253, vI p1] M1) fun v4 M3 =>
    ic (v4 = 0) (
      some (some (vI (-1)), M3)) (
      cIn (call 222 [vI p2, vI 1, vI 30] M3) fun v6 M5 =>
      ic (v6 = 0) (
        some (some (vI (-1)), M5)) (
        back 36 [some (vR 12 0 253), some (vI p0), some (vI p1), some (vI p2), some (vI 1)] M5))) := rfl
set_option maxRecDepth 100000 in
theorem e285 (d : Nat) (p0 : Int32) (p1 : Int32) (p2 : Int32) (M : Mem) : evD (d + 1) 285 [vR 12 0 253, vI p0, vI p1, vI p2] M =
  cIn (evD d 237 [vR 12 0 253, vI p0] (sI M 253 0 0)) fun v2 M1 =>
  ic (v2 = 0) (
    some (some (vI (-1)), M1)) (
    cIn (evD d 254 [vR 12 0 253, vI p1] M1) fun v4 M3 =>
    ic (v4 = 0) (
      some (some (vI (-1)), M3)) (
      cIn (evD d 222 [vI p2, vI 1, vI 30] M3) fun v6 M5 =>
      ic (v6 = 0) (
        some (some (vI (-1)), M5)) (
        lp0 d 285 36 [some (vR 12 0 253), some (vI p0), some (vI p1), some (vI p2), some (vI 1)] M5))) := ((evD_step (d := d) (x := 285) (as := [vR 12 0 253, vI p0, vI p1, vI p2]) (M := M) (md := (⟨"IceParliamentModel", "thin", "(III)I"⟩, prog_14_method_96_code, 5, (Option.some Jvm.ClassFile.FieldType.int), 12, 12)) rfl rfl).trans (j285 (evD d) (evp0 (lkE (codT 285)) (hdT 285) (evD d)) p0 p1 p2 M))
set_option maxRecDepth 100000 in
theorem g285_36 (call : Nat → List AV → Mem → Res) (back : Nat → Lv → Mem → Res) (l1 : Int32) (l2 : Int32) (l3 : Int32) (l4 : Int32) (M : Mem) : stepK call back (evj (lkE cd_285) [36] call back 4000) (.iload 4, 2, 4, 0, 0, 0, 0) 36 [some (vR 12 0 253), some (vI l1), some (vI l2), some (vI l3), some (vI l4)] [] M =
  ic (40 < l4) (
    some (some (vI (-1)), M)) (
    cIn (call 283 [vR 12 0 253, vI l1, vI l2, vI l4] M) fun v2 M1 =>
    ic (l3 < v2) (
      some (some (vI l4), M1)) (
      back 36 [some (vR 12 0 253), some (vI l1), some (vI l2), some (vI l3), some (vI (l4 + 1))] M1)) := rfl
set_option maxRecDepth 100000 in
theorem e285_36 (d F : Nat) (l1 : Int32) (l2 : Int32) (l3 : Int32) (l4 : Int32) (M : Mem) : lp d 285 (F + 1) 36 [some (vR 12 0 253), some (vI l1), some (vI l2), some (vI l3), some (vI l4)] M =
  ic (40 < l4) (
    some (some (vI (-1)), M)) (
    cIn (evD d 283 [vR 12 0 253, vI l1, vI l2, vI l4] M) fun v2 M1 =>
    ic (l3 < v2) (
      some (some (vI l4), M1)) (
      lp d 285 F 36 [some (vR 12 0 253), some (vI l1), some (vI l2), some (vI l3), some (vI (l4 + 1))] M1)) := ((evp_step (code := lkE (codT 285)) (hd := hdT 285) (call := evD d) (F := F) (pc := 36) (lv := [some (vR 12 0 253), some (vI l1), some (vI l2), some (vI l3), some (vI l4)]) (M := M) (e := (.iload 4, 2, 4, 0, 0, 0, 0)) rfl).trans (g285_36 (evD d) (evp (lkE (codT 285)) (hdT 285) (evD d) F) l1 l2 l3 l4 M))
-- IceParliamentModel stands(II)I
set_option maxRecDepth 100000 in
theorem j286 (call : Nat → List AV → Mem → Res) (back : Nat → Lv → Mem → Res) (p0 : Int32) (p1 : Int32) (M : Mem) : evj (lkE cd_286) [31] call back 4000 0 [some (vR 12 0 253), some (vI p0), some (vI p1), none, none, none] [] M =
  cIn (call 238 [vR 12 0 253, vI 0, vI p0] (sI M 253 0 0)) fun v2 M1 =>
  ic (v2 = 0) (
    some (some (vI (-1)), M1)) (
    cIn (call 222 [vI p1, vI 1, vI 8] M1) fun v4 M3 =>
    ic (v4 = 0) (
      some (some (vI (-1)), M3)) (
      back 31 [some (vR 12 0 253), some (vI p0), some (vI p1), some (vJ 1), none, some (vI 0)] M3)) := rfl
set_option maxRecDepth 100000 in
theorem e286 (d : Nat) (p0 : Int32) (p1 : Int32) (M : Mem) : evD (d + 1) 286 [vR 12 0 253, vI p0, vI p1] M =
  cIn (evD d 238 [vR 12 0 253, vI 0, vI p0] (sI M 253 0 0)) fun v2 M1 =>
  ic (v2 = 0) (
    some (some (vI (-1)), M1)) (
    cIn (evD d 222 [vI p1, vI 1, vI 8] M1) fun v4 M3 =>
    ic (v4 = 0) (
      some (some (vI (-1)), M3)) (
      lp0 d 286 31 [some (vR 12 0 253), some (vI p0), some (vI p1), some (vJ 1), none, some (vI 0)] M3)) := ((evD_step (d := d) (x := 286) (as := [vR 12 0 253, vI p0, vI p1]) (M := M) (md := (⟨"IceParliamentModel", "stands", "(II)I"⟩, prog_14_method_98_code, 6, (Option.some Jvm.ClassFile.FieldType.int), 12, 12)) rfl rfl).trans (j286 (evD d) (evp0 (lkE (codT 286)) (hdT 286) (evD d)) p0 p1 M))
set_option maxRecDepth 100000 in
theorem g286_31 (call : Nat → List AV → Mem → Res) (back : Nat → Lv → Mem → Res) (l1 : Int32) (l2 : Int32) (l3 : Int64) (l5 : Int32) (M : Mem) : stepK call back (evj (lkE cd_286) [31] call back 4000) (.iload 5, 2, 5, 0, 0, 0, 0) 31 [some (vR 12 0 253), some (vI l1), some (vI l2), some (vJ l3), none, some (vI l5)] [] M =
  ic (l5 < l2) (
    back 31 [some (vR 12 0 253), some (vI l1), some (vI l2), some (vJ (l3 * 10)), none, some (vI (l5 + 1))] M) (
    ic (19 + l1 < 0 ∨ 1127 ≤ (19 + l1).toNatClampNeg) none (
      ic (25 + l1 < 0 ∨ 1127 ≤ (25 + l1).toNatClampNeg) none (
        ic (7 + l1 < 0 ∨ 1127 ≤ (7 + l1).toNatClampNeg) none (
          ic ((0 : Int32) < 0 ∨ 1127 ≤ (0 : Int32).toNatClampNeg) none (
            cLo (call 287 [vR 12 0 253, vI l1, vI (M.1 269 (19 + l1).toNatClampNeg), vI (M.1 269 (25 + l1).toNatClampNeg), vI (M.1 269 (7 + l1).toNatClampNeg), vI (M.1 269 (0 : Int32).toNatClampNeg), vI l2] M) fun v2 M1 =>
            ic (l3 = 0) none (
              some (some (vI (((v2 * 1000000) / l3).toInt32)), M1))))))) := rfl
set_option maxRecDepth 100000 in
theorem e286_31 (d F : Nat) (l1 : Int32) (l2 : Int32) (l3 : Int64) (l5 : Int32) (M : Mem) : lp d 286 (F + 1) 31 [some (vR 12 0 253), some (vI l1), some (vI l2), some (vJ l3), none, some (vI l5)] M =
  ic (l5 < l2) (
    lp d 286 F 31 [some (vR 12 0 253), some (vI l1), some (vI l2), some (vJ (l3 * 10)), none, some (vI (l5 + 1))] M) (
    ic (19 + l1 < 0 ∨ 1127 ≤ (19 + l1).toNatClampNeg) none (
      ic (25 + l1 < 0 ∨ 1127 ≤ (25 + l1).toNatClampNeg) none (
        ic (7 + l1 < 0 ∨ 1127 ≤ (7 + l1).toNatClampNeg) none (
          cLo (evD d 287 [vR 12 0 253, vI l1, vI (M.1 269 (19 + l1).toNatClampNeg), vI (M.1 269 (25 + l1).toNatClampNeg), vI (M.1 269 (7 + l1).toNatClampNeg), vI (M.1 269 0), vI l2] M) fun v2 M1 =>
          ic (l3 = 0) none (
            some (some (vI (((v2 * 1000000) / l3).toInt32)), M1)))))) := ((evp_step (code := lkE (codT 286)) (hd := hdT 286) (call := evD d) (F := F) (pc := 31) (lv := [some (vR 12 0 253), some (vI l1), some (vI l2), some (vJ l3), none, some (vI l5)]) (M := M) (e := (.iload 5, 2, 5, 0, 0, 0, 0)) rfl).trans (g286_31 (evD d) (evp (lkE (codT 286)) (hdT 286) (evD d) F) l1 l2 l3 l5 M)).trans (by (try simp only [ic_f (show ¬ ((0 : Int32) < 0 ∨ 1127 ≤ (0 : Int32).toNatClampNeg) by decide)]); (try simp only [show (0 : Int32).toNatClampNeg = 0 from rfl]))
-- IceParliamentModel standing(IIIIII)J
set_option maxRecDepth 100000 in
theorem j287 (call : Nat → List AV → Mem → Res) (back : Nat → Lv → Mem → Res) (p0 : Int32) (p1 : Int32) (p2 : Int32) (p3 : Int32) (p4 : Int32) (p5 : Int32) (M : Mem) : evj (lkE cd_287) [20, 52, 77, 124] call back 4000 0 [some (vR 12 0 253), some (vI p0), some (vI p1), some (vI p2), some (vI p3), some (vI p4), some (vI p5), none, none, none, none, none] [] M =
  ic (0 < p3) (
    ic (p5 = 0) (
      some (some (vJ 1), M)) (
      back 20 [some (vR 12 0 253), some (vI p0), some (vI p1), some (vI p2), some (vI p3), some (vI p4), some (vI p5), some (vJ 0), none, some (vI 0), none, none] M)) (
    some (some (vJ 0), M)) := rfl
set_option maxRecDepth 100000 in
theorem e287 (d : Nat) (p0 : Int32) (p1 : Int32) (p2 : Int32) (p3 : Int32) (p4 : Int32) (p5 : Int32) (M : Mem) : evD (d + 1) 287 [vR 12 0 253, vI p0, vI p1, vI p2, vI p3, vI p4, vI p5] M =
  ic (0 < p3) (
    ic (p5 = 0) (
      some (some (vJ 1), M)) (
      lp0 d 287 20 [some (vR 12 0 253), some (vI p0), some (vI p1), some (vI p2), some (vI p3), some (vI p4), some (vI p5), some (vJ 0), none, some (vI 0), none, none] M)) (
    some (some (vJ 0), M)) := ((evD_step (d := d) (x := 287) (as := [vR 12 0 253, vI p0, vI p1, vI p2, vI p3, vI p4, vI p5]) (M := M) (md := (⟨"IceParliamentModel", "standing", "(IIIIII)J"⟩, prog_14_method_97_code, 12, (Option.some Jvm.ClassFile.FieldType.long), 12, 12)) rfl rfl).trans (j287 (evD d) (evp0 (lkE (codT 287)) (hdT 287) (evD d)) p0 p1 p2 p3 p4 p5 M))
set_option maxRecDepth 100000 in
theorem g287_20 (call : Nat → List AV → Mem → Res) (back : Nat → Lv → Mem → Res) (l1 : Int32) (l2 : Int32) (l3 : Int32) (l4 : Int32) (l5 : Int32) (l6 : Int32) (l7 : Int64) (l9 : Int32) (o10 : Option AV) (o11 : Option AV) (M : Mem) : stepK call back (evj (lkE cd_287) [20, 52, 77, 124] call back 4000) (.iload 9, 2, 9, 0, 0, 0, 0) 20 [some (vR 12 0 253), some (vI l1), some (vI l2), some (vI l3), some (vI l4), some (vI l5), some (vI l6), some (vJ l7), none, some (vI l9), o10, o11] [] M =
  ic (l9 < 2) (
    ic (l9 = 1) (
      ic ((5 : Int32) < 0 ∨ 220 ≤ (5 : Int32).toNatClampNeg) none (
        back 52 [some (vR 12 0 253), some (vI l1), some (vI l2), some (vI l3), some (vI l4), some (vI l5), some (vI l6), some (vJ l7), none, some (vI l9), some (vI (M.1 259 (5 : Int32).toNatClampNeg)), o11] M)) (
      ic ((5 : Int32) < 0 ∨ 220 ≤ (5 : Int32).toNatClampNeg) none (
        back 52 [some (vR 12 0 253), some (vI l1), some (vI l2), some (vI l3), some (vI l4), some (vI l5), some (vI l6), some (vJ l7), none, some (vI l9), some (vI (10 - (M.1 259 (5 : Int32).toNatClampNeg))), o11] M))) (
    some (some (vJ l7), M)) := rfl
set_option maxRecDepth 100000 in
theorem e287_20 (d F : Nat) (l1 : Int32) (l2 : Int32) (l3 : Int32) (l4 : Int32) (l5 : Int32) (l6 : Int32) (l7 : Int64) (l9 : Int32) (o10 : Option AV) (o11 : Option AV) (M : Mem) : lp d 287 (F + 1) 20 [some (vR 12 0 253), some (vI l1), some (vI l2), some (vI l3), some (vI l4), some (vI l5), some (vI l6), some (vJ l7), none, some (vI l9), o10, o11] M =
  ic (l9 < 2) (
    ic (l9 = 1) (
      lp d 287 F 52 [some (vR 12 0 253), some (vI l1), some (vI l2), some (vI l3), some (vI l4), some (vI l5), some (vI l6), some (vJ l7), none, some (vI l9), some (vI (M.1 259 5)), o11] M) (
      lp d 287 F 52 [some (vR 12 0 253), some (vI l1), some (vI l2), some (vI l3), some (vI l4), some (vI l5), some (vI l6), some (vJ l7), none, some (vI l9), some (vI (10 - (M.1 259 5))), o11] M)) (
    some (some (vJ l7), M)) := ((evp_step (code := lkE (codT 287)) (hd := hdT 287) (call := evD d) (F := F) (pc := 20) (lv := [some (vR 12 0 253), some (vI l1), some (vI l2), some (vI l3), some (vI l4), some (vI l5), some (vI l6), some (vJ l7), none, some (vI l9), o10, o11]) (M := M) (e := (.iload 9, 2, 9, 0, 0, 0, 0)) rfl).trans (g287_20 (evD d) (evp (lkE (codT 287)) (hdT 287) (evD d) F) l1 l2 l3 l4 l5 l6 l7 l9 o10 o11 M)).trans (by (try simp only [ic_f (show ¬ ((5 : Int32) < 0 ∨ 220 ≤ (5 : Int32).toNatClampNeg) by decide)]); (try simp only [show (5 : Int32).toNatClampNeg = 5 from rfl]))
set_option maxRecDepth 100000 in
theorem g287_52 (call : Nat → List AV → Mem → Res) (back : Nat → Lv → Mem → Res) (l1 : Int32) (l2 : Int32) (l3 : Int32) (l4 : Int32) (l5 : Int32) (l6 : Int32) (l7 : Int64) (l9 : Int32) (l10 : Int32) (o11 : Option AV) (M : Mem) : stepK call back (evj (lkE cd_287) [20, 52, 77, 124] call back 4000) (.aload_n 0, 1, 0, 0, 0, 0, 0) 52 [some (vR 12 0 253), some (vI l1), some (vI l2), some (vI l3), some (vI l4), some (vI l5), some (vI l6), some (vJ l7), none, some (vI l9), some (vI l10), o11] [] M =
  ic (l9 = 1) (
    cIn (call 242 [vR 12 0 253, vI l1, vI l2, vI l4, vI l5, vI 1] M) fun v4 M3 =>
    back 77 [some (vR 12 0 253), some (vI l1), some (vI l2), some (vI l3), some (vI l4), some (vI l5), some (vI l6), some (vJ l7), none, some (vI l9), some (vI l10), some (vI (v4 - l3))] M3) (
    cIn (call 242 [vR 12 0 253, vI l1, vI l2, vI l4, vI l5, vI 0] M) fun v2 M1 =>
    back 77 [some (vR 12 0 253), some (vI l1), some (vI l2), some (vI l3), some (vI l4), some (vI l5), some (vI l6), some (vJ l7), none, some (vI l9), some (vI l10), some (vI (v2 - l3))] M1) := rfl
set_option maxRecDepth 100000 in
theorem e287_52 (d F : Nat) (l1 : Int32) (l2 : Int32) (l3 : Int32) (l4 : Int32) (l5 : Int32) (l6 : Int32) (l7 : Int64) (l9 : Int32) (l10 : Int32) (o11 : Option AV) (M : Mem) : lp d 287 (F + 1) 52 [some (vR 12 0 253), some (vI l1), some (vI l2), some (vI l3), some (vI l4), some (vI l5), some (vI l6), some (vJ l7), none, some (vI l9), some (vI l10), o11] M =
  ic (l9 = 1) (
    cIn (evD d 242 [vR 12 0 253, vI l1, vI l2, vI l4, vI l5, vI 1] M) fun v4 M3 =>
    lp d 287 F 77 [some (vR 12 0 253), some (vI l1), some (vI l2), some (vI l3), some (vI l4), some (vI l5), some (vI l6), some (vJ l7), none, some (vI l9), some (vI l10), some (vI (v4 - l3))] M3) (
    cIn (evD d 242 [vR 12 0 253, vI l1, vI l2, vI l4, vI l5, vI 0] M) fun v2 M1 =>
    lp d 287 F 77 [some (vR 12 0 253), some (vI l1), some (vI l2), some (vI l3), some (vI l4), some (vI l5), some (vI l6), some (vJ l7), none, some (vI l9), some (vI l10), some (vI (v2 - l3))] M1) := ((evp_step (code := lkE (codT 287)) (hd := hdT 287) (call := evD d) (F := F) (pc := 52) (lv := [some (vR 12 0 253), some (vI l1), some (vI l2), some (vI l3), some (vI l4), some (vI l5), some (vI l6), some (vJ l7), none, some (vI l9), some (vI l10), o11]) (M := M) (e := (.aload_n 0, 1, 0, 0, 0, 0, 0)) rfl).trans (g287_52 (evD d) (evp (lkE (codT 287)) (hdT 287) (evD d) F) l1 l2 l3 l4 l5 l6 l7 l9 l10 o11 M))
set_option maxRecDepth 100000 in
theorem g287_77 (call : Nat → List AV → Mem → Res) (back : Nat → Lv → Mem → Res) (l1 : Int32) (l2 : Int32) (l3 : Int32) (l4 : Int32) (l5 : Int32) (l6 : Int32) (l7 : Int64) (l9 : Int32) (l10 : Int32) (l11 : Int32) (M : Mem) : stepK call back (evj (lkE cd_287) [20, 52, 77, 124] call back 4000) (.lload 7, 2, 7, 0, 0, 0, 0) 77 [some (vR 12 0 253), some (vI l1), some (vI l2), some (vI l3), some (vI l4), some (vI l5), some (vI l6), some (vJ l7), none, some (vI l9), some (vI l10), some (vI l11)] [] M =
  ic (l10 = 0) (
    back 124 [some (vR 12 0 253), some (vI l1), some (vI l2), some (vI l3), some (vI l4), some (vI l5), some (vI l6), some (vJ (l7 + 0)), none, some (vI l9), some (vI l10), some (vI l11)] M) (
    ic (l11 < 0) (
      cLo (call 287 [vR 12 0 253, vI l1, vI l2, vI l3, vI (l4 - 0), vI (l5 + 1), vI (l6 - 1)] M) fun v4 M3 =>
      back 124 [some (vR 12 0 253), some (vI l1), some (vI l2), some (vI l3), some (vI l4), some (vI l5), some (vI l6), some (vJ (l7 + (l10.toInt64 * v4))), none, some (vI l9), some (vI l10), some (vI l11)] M3) (
      cLo (call 287 [vR 12 0 253, vI l1, vI l2, vI l3, vI (l4 - l11), vI (l5 + 1), vI (l6 - 1)] M) fun v2 M1 =>
      back 124 [some (vR 12 0 253), some (vI l1), some (vI l2), some (vI l3), some (vI l4), some (vI l5), some (vI l6), some (vJ (l7 + (l10.toInt64 * v2))), none, some (vI l9), some (vI l10), some (vI l11)] M1)) := rfl
set_option maxRecDepth 100000 in
theorem e287_77 (d F : Nat) (l1 : Int32) (l2 : Int32) (l3 : Int32) (l4 : Int32) (l5 : Int32) (l6 : Int32) (l7 : Int64) (l9 : Int32) (l10 : Int32) (l11 : Int32) (M : Mem) : lp d 287 (F + 1) 77 [some (vR 12 0 253), some (vI l1), some (vI l2), some (vI l3), some (vI l4), some (vI l5), some (vI l6), some (vJ l7), none, some (vI l9), some (vI l10), some (vI l11)] M =
  ic (l10 = 0) (
    lp d 287 F 124 [some (vR 12 0 253), some (vI l1), some (vI l2), some (vI l3), some (vI l4), some (vI l5), some (vI l6), some (vJ (l7 + 0)), none, some (vI l9), some (vI l10), some (vI l11)] M) (
    ic (l11 < 0) (
      cLo (evD d 287 [vR 12 0 253, vI l1, vI l2, vI l3, vI (l4 - 0), vI (l5 + 1), vI (l6 - 1)] M) fun v4 M3 =>
      lp d 287 F 124 [some (vR 12 0 253), some (vI l1), some (vI l2), some (vI l3), some (vI l4), some (vI l5), some (vI l6), some (vJ (l7 + (l10.toInt64 * v4))), none, some (vI l9), some (vI l10), some (vI l11)] M3) (
      cLo (evD d 287 [vR 12 0 253, vI l1, vI l2, vI l3, vI (l4 - l11), vI (l5 + 1), vI (l6 - 1)] M) fun v2 M1 =>
      lp d 287 F 124 [some (vR 12 0 253), some (vI l1), some (vI l2), some (vI l3), some (vI l4), some (vI l5), some (vI l6), some (vJ (l7 + (l10.toInt64 * v2))), none, some (vI l9), some (vI l10), some (vI l11)] M1)) := ((evp_step (code := lkE (codT 287)) (hd := hdT 287) (call := evD d) (F := F) (pc := 77) (lv := [some (vR 12 0 253), some (vI l1), some (vI l2), some (vI l3), some (vI l4), some (vI l5), some (vI l6), some (vJ l7), none, some (vI l9), some (vI l10), some (vI l11)]) (M := M) (e := (.lload 7, 2, 7, 0, 0, 0, 0)) rfl).trans (g287_77 (evD d) (evp (lkE (codT 287)) (hdT 287) (evD d) F) l1 l2 l3 l4 l5 l6 l7 l9 l10 l11 M))
set_option maxRecDepth 100000 in
theorem g287_124 (call : Nat → List AV → Mem → Res) (back : Nat → Lv → Mem → Res) (l1 : Int32) (l2 : Int32) (l3 : Int32) (l4 : Int32) (l5 : Int32) (l6 : Int32) (l7 : Int64) (l9 : Int32) (o10 : Option AV) (o11 : Option AV) (M : Mem) : stepK call back (evj (lkE cd_287) [20, 52, 77, 124] call back 4000) (.iinc 9 (1), 3, 9, 0, 0, 1, 0) 124 [some (vR 12 0 253), some (vI l1), some (vI l2), some (vI l3), some (vI l4), some (vI l5), some (vI l6), some (vJ l7), none, some (vI l9), o10, o11] [] M =
  back 20 [some (vR 12 0 253), some (vI l1), some (vI l2), some (vI l3), some (vI l4), some (vI l5), some (vI l6), some (vJ l7), none, some (vI (l9 + 1)), o10, o11] M := rfl
set_option maxRecDepth 100000 in
theorem e287_124 (d F : Nat) (l1 : Int32) (l2 : Int32) (l3 : Int32) (l4 : Int32) (l5 : Int32) (l6 : Int32) (l7 : Int64) (l9 : Int32) (o10 : Option AV) (o11 : Option AV) (M : Mem) : lp d 287 (F + 1) 124 [some (vR 12 0 253), some (vI l1), some (vI l2), some (vI l3), some (vI l4), some (vI l5), some (vI l6), some (vJ l7), none, some (vI l9), o10, o11] M =
  lp d 287 F 20 [some (vR 12 0 253), some (vI l1), some (vI l2), some (vI l3), some (vI l4), some (vI l5), some (vI l6), some (vJ l7), none, some (vI (l9 + 1)), o10, o11] M := ((evp_step (code := lkE (codT 287)) (hd := hdT 287) (call := evD d) (F := F) (pc := 124) (lv := [some (vR 12 0 253), some (vI l1), some (vI l2), some (vI l3), some (vI l4), some (vI l5), some (vI l6), some (vJ l7), none, some (vI l9), o10, o11]) (M := M) (e := (.iinc 9 (1), 3, 9, 0, 0, 1, 0)) rfl).trans (g287_124 (evD d) (evp (lkE (codT 287)) (hdT 287) (evD d) F) l1 l2 l3 l4 l5 l6 l7 l9 o10 o11 M))
-- IceParliamentModel propped(I)I
set_option maxRecDepth 100000 in
theorem j288 (call : Nat → List AV → Mem → Res) (back : Nat → Lv → Mem → Res) (p0 : Int32) (M : Mem) : evj (lkE cd_288) [29] call back 4000 0 [some (vR 12 0 253), some (vI p0), none, none, none, none] [] M =
  cIn (call 222 [vI p0, vI 1, vI 30] (sI M 253 0 0)) fun v2 M1 =>
  ic (v2 = 0) (
    some (some (vI (-1)), M1)) (
    cIn (call 289 [vR 12 0 253, vI (-1), vI p0] M1) fun v4 M3 =>
    back 29 [some (vR 12 0 253), some (vI p0), some (vI (-1)), some (vI v4), some (vI 0), none] M3) := rfl
set_option maxRecDepth 100000 in
theorem e288 (d : Nat) (p0 : Int32) (M : Mem) : evD (d + 1) 288 [vR 12 0 253, vI p0] M =
  cIn (evD d 222 [vI p0, vI 1, vI 30] (sI M 253 0 0)) fun v2 M1 =>
  ic (v2 = 0) (
    some (some (vI (-1)), M1)) (
    cIn (evD d 289 [vR 12 0 253, vI (-1), vI p0] M1) fun v4 M3 =>
    lp0 d 288 29 [some (vR 12 0 253), some (vI p0), some (vI (-1)), some (vI v4), some (vI 0), none] M3) := ((evD_step (d := d) (x := 288) (as := [vR 12 0 253, vI p0]) (M := M) (md := (⟨"IceParliamentModel", "propped", "(I)I"⟩, prog_14_method_100_code, 6, (Option.some Jvm.ClassFile.FieldType.int), 12, 12)) rfl rfl).trans (j288 (evD d) (evp0 (lkE (codT 288)) (hdT 288) (evD d)) p0 M))
set_option maxRecDepth 100000 in
theorem g288_29 (call : Nat → List AV → Mem → Res) (back : Nat → Lv → Mem → Res) (l1 : Int32) (l2 : Int32) (l3 : Int32) (l4 : Int32) (o5 : Option AV) (M : Mem) : stepK call back (evj (lkE cd_288) [29] call back 4000) (.iload 4, 2, 4, 0, 0, 0, 0) 29 [some (vR 12 0 253), some (vI l1), some (vI l2), some (vI l3), some (vI l4), o5] [] M =
  cIn (call 197 [vR 12 0 253] M) fun v2 M1 =>
  ic (l4 < v2) (
    cIn (call 265 [vR 12 0 253, vI 0, vI l4] M1) fun v4 M3 =>
    ic (v4 = 0) (
      ic (l3 < (-1)) (
        ic (l3 < (-1)) (
          back 29 [some (vR 12 0 253), some (vI l1), some (vI l4), some (vI (-1)), some (vI (l4 + 1)), some (vI (-1))] M3) (
          back 29 [some (vR 12 0 253), some (vI l1), some (vI l4), some (vI l3), some (vI (l4 + 1)), some (vI (-1))] M3)) (
        ic (l3 < (-1)) (
          back 29 [some (vR 12 0 253), some (vI l1), some (vI l2), some (vI (-1)), some (vI (l4 + 1)), some (vI (-1))] M3) (
          back 29 [some (vR 12 0 253), some (vI l1), some (vI l2), some (vI l3), some (vI (l4 + 1)), some (vI (-1))] M3))) (
      cIn (call 289 [vR 12 0 253, vI l4, vI l1] M3) fun v6 M5 =>
      ic (l3 < v6) (
        ic (l3 < v6) (
          back 29 [some (vR 12 0 253), some (vI l1), some (vI l4), some (vI v6), some (vI (l4 + 1)), some (vI v6)] M5) (
          back 29 [some (vR 12 0 253), some (vI l1), some (vI l4), some (vI l3), some (vI (l4 + 1)), some (vI v6)] M5)) (
        ic (l3 < v6) (
          back 29 [some (vR 12 0 253), some (vI l1), some (vI l2), some (vI v6), some (vI (l4 + 1)), some (vI v6)] M5) (
          back 29 [some (vR 12 0 253), some (vI l1), some (vI l2), some (vI l3), some (vI (l4 + 1)), some (vI v6)] M5)))) (
    some (some (vI l2), M1)) := rfl
set_option maxRecDepth 100000 in
theorem e288_29 (d F : Nat) (l1 : Int32) (l2 : Int32) (l3 : Int32) (l4 : Int32) (o5 : Option AV) (M : Mem) : lp d 288 (F + 1) 29 [some (vR 12 0 253), some (vI l1), some (vI l2), some (vI l3), some (vI l4), o5] M =
  cIn (evD d 197 [vR 12 0 253] M) fun v2 M1 =>
  ic (l4 < v2) (
    cIn (evD d 265 [vR 12 0 253, vI 0, vI l4] M1) fun v4 M3 =>
    ic (v4 = 0) (
      ic (l3 < (-1)) (
        ic (l3 < (-1)) (
          lp d 288 F 29 [some (vR 12 0 253), some (vI l1), some (vI l4), some (vI (-1)), some (vI (l4 + 1)), some (vI (-1))] M3) (
          lp d 288 F 29 [some (vR 12 0 253), some (vI l1), some (vI l4), some (vI l3), some (vI (l4 + 1)), some (vI (-1))] M3)) (
        ic (l3 < (-1)) (
          lp d 288 F 29 [some (vR 12 0 253), some (vI l1), some (vI l2), some (vI (-1)), some (vI (l4 + 1)), some (vI (-1))] M3) (
          lp d 288 F 29 [some (vR 12 0 253), some (vI l1), some (vI l2), some (vI l3), some (vI (l4 + 1)), some (vI (-1))] M3))) (
      cIn (evD d 289 [vR 12 0 253, vI l4, vI l1] M3) fun v6 M5 =>
      ic (l3 < v6) (
        ic (l3 < v6) (
          lp d 288 F 29 [some (vR 12 0 253), some (vI l1), some (vI l4), some (vI v6), some (vI (l4 + 1)), some (vI v6)] M5) (
          lp d 288 F 29 [some (vR 12 0 253), some (vI l1), some (vI l4), some (vI l3), some (vI (l4 + 1)), some (vI v6)] M5)) (
        ic (l3 < v6) (
          lp d 288 F 29 [some (vR 12 0 253), some (vI l1), some (vI l2), some (vI v6), some (vI (l4 + 1)), some (vI v6)] M5) (
          lp d 288 F 29 [some (vR 12 0 253), some (vI l1), some (vI l2), some (vI l3), some (vI (l4 + 1)), some (vI v6)] M5)))) (
    some (some (vI l2), M1)) := ((evp_step (code := lkE (codT 288)) (hd := hdT 288) (call := evD d) (F := F) (pc := 29) (lv := [some (vR 12 0 253), some (vI l1), some (vI l2), some (vI l3), some (vI l4), o5]) (M := M) (e := (.iload 4, 2, 4, 0, 0, 0, 0)) rfl).trans (g288_29 (evD d) (evp (lkE (codT 288)) (hdT 288) (evD d) F) l1 l2 l3 l4 o5 M))
-- IceParliamentModel worthBehind(II)I
set_option maxRecDepth 100000 in
theorem j289 (call : Nat → List AV → Mem → Res) (back : Nat → Lv → Mem → Res) (p0 : Int32) (p1 : Int32) (M : Mem) : evj (lkE cd_289) [28] call back 4000 0 [some (vR 12 0 253), some (vI p0), some (vI p1), none] [] M =
  cVd (call 259 [vR 12 0 253, vI 0, vI 1029] M) fun M1 =>
  ic (p0 < 0) (
    back 28 [some (vR 12 0 253), some (vI p0), some (vI p1), some (vI 0)] M1) (
    ic (1054 + p0 < 0 ∨ 1127 ≤ (1054 + p0).toNatClampNeg) none (
      ic (1054 + p0 < 0 ∨ 1127 ≤ (1054 + p0).toNatClampNeg) none (
        back 28 [some (vR 12 0 253), some (vI p0), some (vI p1), some (vI 0)] (sI M1 269 ((1054 + p0).toNatClampNeg) ((M1.1 269 (1054 + p0).toNatClampNeg) + 1))))) := rfl
set_option maxRecDepth 100000 in
theorem e289 (d : Nat) (p0 : Int32) (p1 : Int32) (M : Mem) : evD (d + 1) 289 [vR 12 0 253, vI p0, vI p1] M =
  cVd (evD d 259 [vR 12 0 253, vI 0, vI 1029] M) fun M1 =>
  ic (p0 < 0) (
    lp0 d 289 28 [some (vR 12 0 253), some (vI p0), some (vI p1), some (vI 0)] M1) (
    ic (1054 + p0 < 0 ∨ 1127 ≤ (1054 + p0).toNatClampNeg) none (
      ic (1054 + p0 < 0 ∨ 1127 ≤ (1054 + p0).toNatClampNeg) none (
        lp0 d 289 28 [some (vR 12 0 253), some (vI p0), some (vI p1), some (vI 0)] (sI M1 269 ((1054 + p0).toNatClampNeg) ((M1.1 269 (1054 + p0).toNatClampNeg) + 1))))) := ((evD_step (d := d) (x := 289) (as := [vR 12 0 253, vI p0, vI p1]) (M := M) (md := (⟨"IceParliamentModel", "worthBehind", "(II)I"⟩, prog_14_method_99_code, 4, (Option.some Jvm.ClassFile.FieldType.int), 12, 12)) rfl rfl).trans (j289 (evD d) (evp0 (lkE (codT 289)) (hdT 289) (evD d)) p0 p1 M))
set_option maxRecDepth 100000 in
theorem g289_28 (call : Nat → List AV → Mem → Res) (back : Nat → Lv → Mem → Res) (o1 : Option AV) (l2 : Int32) (l3 : Int32) (M : Mem) : stepK call back (evj (lkE cd_289) [28] call back 4000) (.iload_n 3, 1, 3, 0, 0, 0, 0) 28 [some (vR 12 0 253), o1, some (vI l2), some (vI l3)] [] M =
  ic (l3 < l2) (
    cIn (call 269 [vR 12 0 253, vI 1029, vI 0] M) fun v6 M5 =>
    back 28 [some (vR 12 0 253), o1, some (vI l2), some (vI (l3 + 1))] M5) (
    cIn (call 250 [vR 12 0 253, vI 1029] M) fun v2 M1 =>
    cIn (call 252 [vR 12 0 253, vI v2] M1) fun v4 M3 =>
    some (some (vI v4), M3)) := rfl
set_option maxRecDepth 100000 in
theorem e289_28 (d F : Nat) (o1 : Option AV) (l2 : Int32) (l3 : Int32) (M : Mem) : lp d 289 (F + 1) 28 [some (vR 12 0 253), o1, some (vI l2), some (vI l3)] M =
  ic (l3 < l2) (
    cIn (evD d 269 [vR 12 0 253, vI 1029, vI 0] M) fun v6 M5 =>
    lp d 289 F 28 [some (vR 12 0 253), o1, some (vI l2), some (vI (l3 + 1))] M5) (
    cIn (evD d 250 [vR 12 0 253, vI 1029] M) fun v2 M1 =>
    cIn (evD d 252 [vR 12 0 253, vI v2] M1) fun v4 M3 =>
    some (some (vI v4), M3)) := ((evp_step (code := lkE (codT 289)) (hd := hdT 289) (call := evD d) (F := F) (pc := 28) (lv := [some (vR 12 0 253), o1, some (vI l2), some (vI l3)]) (M := M) (e := (.iload_n 3, 1, 3, 0, 0, 0, 0)) rfl).trans (g289_28 (evD d) (evp (lkE (codT 289)) (hdT 289) (evD d) F) o1 l2 l3 M))
-- IceParliamentModel tell(II)Z
set_option maxRecDepth 100000 in
theorem j290 (call : Nat → List AV → Mem → Res) (back : Nat → Lv → Mem → Res) (p0 : Int32) (p1 : Int32) (M : Mem) : evj (lkE cd_290) [] call back 4000 0 [some (vR 12 0 253), some (vI p0), some (vI p1)] [] M =
  cIn (call 238 [vR 12 0 253, vI 0, vI p0] (sI M 253 0 0)) fun v2 M1 =>
  ic (v2 = 0) (
    ic ((0 : Int32) &&& 1 = 0) (
      some (some (vI 0), M1)) none) (
    cIn (call 222 [vI p1, vI 0, vI 20] M1) fun v4 M3 =>
    ic (v4 = 0) (
      ic ((0 : Int32) &&& 1 = 0) (
        some (some (vI 0), M3)) none) (
      ic (43 + p0 < 0 ∨ 1127 ≤ (43 + p0).toNatClampNeg) none (
        ic ((1 : Int32) &&& 1 = 1) (
          some (some (vI 1), sI M3 269 ((43 + p0).toNatClampNeg) p1)) none))) := rfl
set_option maxRecDepth 100000 in
theorem e290 (d : Nat) (p0 : Int32) (p1 : Int32) (M : Mem) : evD (d + 1) 290 [vR 12 0 253, vI p0, vI p1] M =
  cIn (evD d 238 [vR 12 0 253, vI 0, vI p0] (sI M 253 0 0)) fun v2 M1 =>
  ic (v2 = 0) (
    some (some (vI 0), M1)) (
    cIn (evD d 222 [vI p1, vI 0, vI 20] M1) fun v4 M3 =>
    ic (v4 = 0) (
      some (some (vI 0), M3)) (
      ic (43 + p0 < 0 ∨ 1127 ≤ (43 + p0).toNatClampNeg) none (
        some (some (vI 1), sI M3 269 ((43 + p0).toNatClampNeg) p1)))) := ((evD_step (d := d) (x := 290) (as := [vR 12 0 253, vI p0, vI p1]) (M := M) (md := (⟨"IceParliamentModel", "tell", "(II)Z"⟩, prog_14_method_104_code, 3, (Option.some Jvm.ClassFile.FieldType.boolean), 12, 12)) rfl rfl).trans (j290 (evD d) (evp0 (lkE (codT 290)) (hdT 290) (evD d)) p0 p1 M)).trans (by (try simp only [ic_t (show (0 : Int32) &&& 1 = 0 by decide), ic_t (show (1 : Int32) &&& 1 = 1 by decide)]))
-- IceParliamentModel sets(I)I
set_option maxRecDepth 100000 in
theorem j291 (call : Nat → List AV → Mem → Res) (back : Nat → Lv → Mem → Res) (p0 : Int32) (M : Mem) : evj (lkE cd_291) [33] call back 4000 0 [some (vR 12 0 253), some (vI p0), none, none, none, none] [] M =
  cIn (call 222 [vI p0, vI 0, vI 2] (sI M 253 0 0)) fun v2 M1 =>
  ic (v2 = 0) (
    some (some (vI (-1)), M1)) (
    cIn (call 248 [vR 12 0 253] M1) fun v4 M3 =>
    back 33 [some (vR 12 0 253), some (vI p0), some (vI 0), some (vI ((1 <<< (v4 &&& 31)) - 1)), some (vI 0), some (vI 0)] M3) := rfl
set_option maxRecDepth 100000 in
theorem e291 (d : Nat) (p0 : Int32) (M : Mem) : evD (d + 1) 291 [vR 12 0 253, vI p0] M =
  cIn (evD d 222 [vI p0, vI 0, vI 2] (sI M 253 0 0)) fun v2 M1 =>
  ic (v2 = 0) (
    some (some (vI (-1)), M1)) (
    cIn (evD d 248 [vR 12 0 253] M1) fun v4 M3 =>
    lp0 d 291 33 [some (vR 12 0 253), some (vI p0), some (vI 0), some (vI ((1 <<< (v4 &&& 31)) - 1)), some (vI 0), some (vI 0)] M3) := ((evD_step (d := d) (x := 291) (as := [vR 12 0 253, vI p0]) (M := M) (md := (⟨"IceParliamentModel", "sets", "(I)I"⟩, prog_14_method_105_code, 6, (Option.some Jvm.ClassFile.FieldType.int), 12, 12)) rfl rfl).trans (j291 (evD d) (evp0 (lkE (codT 291)) (hdT 291) (evD d)) p0 M))
set_option maxRecDepth 100000 in
theorem g291_33 (call : Nat → List AV → Mem → Res) (back : Nat → Lv → Mem → Res) (l1 : Int32) (l2 : Int32) (l3 : Int32) (l4 : Int32) (l5 : Int32) (M : Mem) : stepK call back (evj (lkE cd_291) [33] call back 4000) (.iload 5, 2, 5, 0, 0, 0, 0) 33 [some (vR 12 0 253), some (vI l1), some (vI l2), some (vI l3), some (vI l4), some (vI l5)] [] M =
  cIn (call 248 [vR 12 0 253] M) fun v2 M1 =>
  ic (l5 < 1 <<< (v2 &&& 31)) (
    cIn (call 292 [vR 12 0 253, vI l5] M1) fun v4 M3 =>
    ic (v4 = 0) (
      back 33 [some (vR 12 0 253), some (vI l1), some (vI l2), some (vI l3), some (vI l4), some (vI (l5 + 1))] M3) (
      back 33 [some (vR 12 0 253), some (vI l1), some (vI (l2 + 1)), some (vI (l3 &&& l5)), some (vI (l4 ||| l5)), some (vI (l5 + 1))] M3)) (
    ic (l1 = 0) (
      some (some (vI l2), M1)) (
      ic (l2 = 0) (
        some (some (vI (-1)), M1)) (
        ic (l1 = 1) (
          some (some (vI l3), M1)) (
          some (some (vI l4), M1))))) := rfl
set_option maxRecDepth 100000 in
theorem e291_33 (d F : Nat) (l1 : Int32) (l2 : Int32) (l3 : Int32) (l4 : Int32) (l5 : Int32) (M : Mem) : lp d 291 (F + 1) 33 [some (vR 12 0 253), some (vI l1), some (vI l2), some (vI l3), some (vI l4), some (vI l5)] M =
  cIn (evD d 248 [vR 12 0 253] M) fun v2 M1 =>
  ic (l5 < 1 <<< (v2 &&& 31)) (
    cIn (evD d 292 [vR 12 0 253, vI l5] M1) fun v4 M3 =>
    ic (v4 = 0) (
      lp d 291 F 33 [some (vR 12 0 253), some (vI l1), some (vI l2), some (vI l3), some (vI l4), some (vI (l5 + 1))] M3) (
      lp d 291 F 33 [some (vR 12 0 253), some (vI l1), some (vI (l2 + 1)), some (vI (l3 &&& l5)), some (vI (l4 ||| l5)), some (vI (l5 + 1))] M3)) (
    ic (l1 = 0) (
      some (some (vI l2), M1)) (
      ic (l2 = 0) (
        some (some (vI (-1)), M1)) (
        ic (l1 = 1) (
          some (some (vI l3), M1)) (
          some (some (vI l4), M1))))) := ((evp_step (code := lkE (codT 291)) (hd := hdT 291) (call := evD d) (F := F) (pc := 33) (lv := [some (vR 12 0 253), some (vI l1), some (vI l2), some (vI l3), some (vI l4), some (vI l5)]) (M := M) (e := (.iload 5, 2, 5, 0, 0, 0, 0)) rfl).trans (g291_33 (evD d) (evp (lkE (codT 291)) (hdT 291) (evD d) F) l1 l2 l3 l4 l5 M))
-- IceParliamentModel fitsTold(I)Z
set_option maxRecDepth 100000 in
theorem j292 (call : Nat → List AV → Mem → Res) (back : Nat → Lv → Mem → Res) (p0 : Int32) (M : Mem) : evj (lkE cd_292) [19] call back 4000 0 [some (vR 12 0 253), some (vI p0), none, none] [] M =
  cIn (call 293 [vR 12 0 253] M) fun v2 M1 =>
  ic (p0 &&& (v2 ^^^ (-1)) = 0) (
    back 19 [some (vR 12 0 253), some (vI p0), some (vI 1), some (vI 0)] M1) (
    back 19 [some (vR 12 0 253), some (vI p0), some (vI 0), some (vI 0)] M1) := rfl
set_option maxRecDepth 100000 in
theorem e292 (d : Nat) (p0 : Int32) (M : Mem) : evD (d + 1) 292 [vR 12 0 253, vI p0] M =
  cIn (evD d 293 [vR 12 0 253] M) fun v2 M1 =>
  ic (p0 &&& (v2 ^^^ (-1)) = 0) (
    lp0 d 292 19 [some (vR 12 0 253), some (vI p0), some (vI 1), some (vI 0)] M1) (
    lp0 d 292 19 [some (vR 12 0 253), some (vI p0), some (vI 0), some (vI 0)] M1) := ((evD_step (d := d) (x := 292) (as := [vR 12 0 253, vI p0]) (M := M) (md := (⟨"IceParliamentModel", "fitsTold", "(I)Z"⟩, prog_14_method_103_code, 4, (Option.some Jvm.ClassFile.FieldType.boolean), 12, 12)) rfl rfl).trans (j292 (evD d) (evp0 (lkE (codT 292)) (hdT 292) (evD d)) p0 M))
set_option maxRecDepth 100000 in
theorem g292_19 (call : Nat → List AV → Mem → Res) (back : Nat → Lv → Mem → Res) (l1 : Int32) (l2 : Int32) (l3 : Int32) (M : Mem) : stepK call back (evj (lkE cd_292) [19] call back 4000) (.iload_n 3, 1, 3, 0, 0, 0, 0) 19 [some (vR 12 0 253), some (vI l1), some (vI l2), some (vI l3)] [] M =
  cIn (call 197 [vR 12 0 253] M) fun v2 M1 =>
  ic (l3 < v2) (
    ic (l2 = 0) (
      ic (l2 &&& 1 = l2) (
        some (some (vI l2), M1)) none) (
      ic (43 + l3 < 0 ∨ 1127 ≤ (43 + l3).toNatClampNeg) none (
        ic (M1.1 269 (43 + l3).toNatClampNeg < 0) (
          back 19 [some (vR 12 0 253), some (vI l1), some (vI 1), some (vI (l3 + 1))] M1) (
          cIn (call 294 [vR 12 0 253, vI l3, vI l1] M1) fun v4 M3 =>
          ic (43 + l3 < 0 ∨ 1127 ≤ (43 + l3).toNatClampNeg) none (
            ic (v4 = M3.1 269 (43 + l3).toNatClampNeg) (
              back 19 [some (vR 12 0 253), some (vI l1), some (vI 1), some (vI (l3 + 1))] M3) (
              back 19 [some (vR 12 0 253), some (vI l1), some (vI 0), some (vI (l3 + 1))] M3)))))) (
    ic (l2 &&& 1 = l2) (
      some (some (vI l2), M1)) none) := rfl
set_option maxRecDepth 100000 in
theorem e292_19 (d F : Nat) (l1 : Int32) (l2 : Int32) (l3 : Int32) (M : Mem) : lp d 292 (F + 1) 19 [some (vR 12 0 253), some (vI l1), some (vI l2), some (vI l3)] M =
  cIn (evD d 197 [vR 12 0 253] M) fun v2 M1 =>
  ic (l3 < v2) (
    ic (l2 = 0) (
      ic (l2 &&& 1 = l2) (
        some (some (vI l2), M1)) none) (
      ic (43 + l3 < 0 ∨ 1127 ≤ (43 + l3).toNatClampNeg) none (
        ic (M1.1 269 (43 + l3).toNatClampNeg < 0) (
          lp d 292 F 19 [some (vR 12 0 253), some (vI l1), some (vI 1), some (vI (l3 + 1))] M1) (
          cIn (evD d 294 [vR 12 0 253, vI l3, vI l1] M1) fun v4 M3 =>
          ic (43 + l3 < 0 ∨ 1127 ≤ (43 + l3).toNatClampNeg) none (
            ic (v4 = M3.1 269 (43 + l3).toNatClampNeg) (
              lp d 292 F 19 [some (vR 12 0 253), some (vI l1), some (vI 1), some (vI (l3 + 1))] M3) (
              lp d 292 F 19 [some (vR 12 0 253), some (vI l1), some (vI 0), some (vI (l3 + 1))] M3)))))) (
    ic (l2 &&& 1 = l2) (
      some (some (vI l2), M1)) none) := ((evp_step (code := lkE (codT 292)) (hd := hdT 292) (call := evD d) (F := F) (pc := 19) (lv := [some (vR 12 0 253), some (vI l1), some (vI l2), some (vI l3)]) (M := M) (e := (.iload_n 3, 1, 3, 0, 0, 0, 0)) rfl).trans (g292_19 (evD d) (evp (lkE (codT 292)) (hdT 292) (evD d) F) l1 l2 l3 M))
-- IceParliamentModel carvedSet()I
set_option maxRecDepth 100000 in
theorem j293 (call : Nat → List AV → Mem → Res) (back : Nat → Lv → Mem → Res)  (M : Mem) : evj (lkE cd_293) [4] call back 4000 0 [some (vR 12 0 253), none, none] [] M =
  back 4 [some (vR 12 0 253), some (vI 0), some (vI 0)] M := rfl
set_option maxRecDepth 100000 in
theorem e293 (d : Nat)  (M : Mem) : evD (d + 1) 293 [vR 12 0 253] M =
  lp0 d 293 4 [some (vR 12 0 253), some (vI 0), some (vI 0)] M := ((evD_step (d := d) (x := 293) (as := [vR 12 0 253]) (M := M) (md := (⟨"IceParliamentModel", "carvedSet", "()I"⟩, prog_14_method_101_code, 3, (Option.some Jvm.ClassFile.FieldType.int), 12, 12)) rfl rfl).trans (j293 (evD d) (evp0 (lkE (codT 293)) (hdT 293) (evD d))  M))
set_option maxRecDepth 100000 in
theorem g293_4 (call : Nat → List AV → Mem → Res) (back : Nat → Lv → Mem → Res) (l1 : Int32) (l2 : Int32) (M : Mem) : stepK call back (evj (lkE cd_293) [4] call back 4000) (.iload_n 2, 1, 2, 0, 0, 0, 0) 4 [some (vR 12 0 253), some (vI l1), some (vI l2)] [] M =
  cIn (call 248 [vR 12 0 253] M) fun v2 M1 =>
  ic (l2 < v2) (
    ic (31 + l2 < 0 ∨ 1127 ≤ (31 + l2).toNatClampNeg) none (
      ic (M1.1 269 (31 + l2).toNatClampNeg < 0) (
        back 4 [some (vR 12 0 253), some (vI (l1 ||| 0)), some (vI (l2 + 1))] M1) (
        back 4 [some (vR 12 0 253), some (vI (l1 ||| (1 <<< (l2 &&& 31)))), some (vI (l2 + 1))] M1))) (
    some (some (vI l1), M1)) := rfl
set_option maxRecDepth 100000 in
theorem e293_4 (d F : Nat) (l1 : Int32) (l2 : Int32) (M : Mem) : lp d 293 (F + 1) 4 [some (vR 12 0 253), some (vI l1), some (vI l2)] M =
  cIn (evD d 248 [vR 12 0 253] M) fun v2 M1 =>
  ic (l2 < v2) (
    ic (31 + l2 < 0 ∨ 1127 ≤ (31 + l2).toNatClampNeg) none (
      ic (M1.1 269 (31 + l2).toNatClampNeg < 0) (
        lp d 293 F 4 [some (vR 12 0 253), some (vI (l1 ||| 0)), some (vI (l2 + 1))] M1) (
        lp d 293 F 4 [some (vR 12 0 253), some (vI (l1 ||| (1 <<< (l2 &&& 31)))), some (vI (l2 + 1))] M1))) (
    some (some (vI l1), M1)) := ((evp_step (code := lkE (codT 293)) (hd := hdT 293) (call := evD d) (F := F) (pc := 4) (lv := [some (vR 12 0 253), some (vI l1), some (vI l2)]) (M := M) (e := (.iload_n 2, 1, 2, 0, 0, 0, 0)) rfl).trans (g293_4 (evD d) (evp (lkE (codT 293)) (hdT 293) (evD d) F) l1 l2 M))
-- IceParliamentModel tallBy(II)I
set_option maxRecDepth 100000 in
theorem j294 (call : Nat → List AV → Mem → Res) (back : Nat → Lv → Mem → Res) (p0 : Int32) (p1 : Int32) (M : Mem) : evj (lkE cd_294) [22] call back 4000 0 [some (vR 12 0 253), some (vI p0), some (vI p1), none, none] [] M =
  cIn (call 238 [vR 12 0 253, vI 0, vI p0] M) fun v2 M1 =>
  ic (v2 = 0) (
    some (some (vI 0), M1)) (
    cIn (call 270 [vR 12 0 253, vI 0, vI p0, vI 0] M1) fun v4 M3 =>
    back 22 [some (vR 12 0 253), some (vI p0), some (vI p1), some (vI v4), some (vI 0)] M3) := rfl
set_option maxRecDepth 100000 in
theorem e294 (d : Nat) (p0 : Int32) (p1 : Int32) (M : Mem) : evD (d + 1) 294 [vR 12 0 253, vI p0, vI p1] M =
  cIn (evD d 238 [vR 12 0 253, vI 0, vI p0] M) fun v2 M1 =>
  ic (v2 = 0) (
    some (some (vI 0), M1)) (
    cIn (evD d 270 [vR 12 0 253, vI 0, vI p0, vI 0] M1) fun v4 M3 =>
    lp0 d 294 22 [some (vR 12 0 253), some (vI p0), some (vI p1), some (vI v4), some (vI 0)] M3) := ((evD_step (d := d) (x := 294) (as := [vR 12 0 253, vI p0, vI p1]) (M := M) (md := (⟨"IceParliamentModel", "tallBy", "(II)I"⟩, prog_14_method_102_code, 5, (Option.some Jvm.ClassFile.FieldType.int), 12, 12)) rfl rfl).trans (j294 (evD d) (evp0 (lkE (codT 294)) (hdT 294) (evD d)) p0 p1 M))
set_option maxRecDepth 100000 in
theorem g294_22 (call : Nat → List AV → Mem → Res) (back : Nat → Lv → Mem → Res) (l1 : Int32) (l2 : Int32) (l3 : Int32) (l4 : Int32) (M : Mem) : stepK call back (evj (lkE cd_294) [22] call back 4000) (.iload 4, 2, 4, 0, 0, 0, 0) 22 [some (vR 12 0 253), some (vI l1), some (vI l2), some (vI l3), some (vI l4)] [] M =
  cIn (call 248 [vR 12 0 253] M) fun v2 M1 =>
  ic (l4 < v2) (
    ic ((l2 >>> (l4 &&& 31)) &&& 1 = 1) (
      ic (31 + l4 < 0 ∨ 1127 ≤ (31 + l4).toNatClampNeg) none (
        ic (M1.1 269 (31 + l4).toNatClampNeg = l1) (
          back 22 [some (vR 12 0 253), some (vI l1), some (vI l2), some (vI (l3 - 1)), some (vI (l4 + 1))] M1) (
          back 22 [some (vR 12 0 253), some (vI l1), some (vI l2), some (vI (l3 - 0)), some (vI (l4 + 1))] M1))) (
      back 22 [some (vR 12 0 253), some (vI l1), some (vI l2), some (vI (l3 - 0)), some (vI (l4 + 1))] M1)) (
    ic (l3 < 0) (
      some (some (vI 0), M1)) (
      some (some (vI l3), M1))) := rfl
set_option maxRecDepth 100000 in
theorem e294_22 (d F : Nat) (l1 : Int32) (l2 : Int32) (l3 : Int32) (l4 : Int32) (M : Mem) : lp d 294 (F + 1) 22 [some (vR 12 0 253), some (vI l1), some (vI l2), some (vI l3), some (vI l4)] M =
  cIn (evD d 248 [vR 12 0 253] M) fun v2 M1 =>
  ic (l4 < v2) (
    ic ((l2 >>> (l4 &&& 31)) &&& 1 = 1) (
      ic (31 + l4 < 0 ∨ 1127 ≤ (31 + l4).toNatClampNeg) none (
        ic (M1.1 269 (31 + l4).toNatClampNeg = l1) (
          lp d 294 F 22 [some (vR 12 0 253), some (vI l1), some (vI l2), some (vI (l3 - 1)), some (vI (l4 + 1))] M1) (
          lp d 294 F 22 [some (vR 12 0 253), some (vI l1), some (vI l2), some (vI (l3 - 0)), some (vI (l4 + 1))] M1))) (
      lp d 294 F 22 [some (vR 12 0 253), some (vI l1), some (vI l2), some (vI (l3 - 0)), some (vI (l4 + 1))] M1)) (
    ic (l3 < 0) (
      some (some (vI 0), M1)) (
      some (some (vI l3), M1))) := ((evp_step (code := lkE (codT 294)) (hd := hdT 294) (call := evD d) (F := F) (pc := 22) (lv := [some (vR 12 0 253), some (vI l1), some (vI l2), some (vI l3), some (vI l4)]) (M := M) (e := (.iload 4, 2, 4, 0, 0, 0, 0)) rfl).trans (g294_22 (evD d) (evp (lkE (codT 294)) (hdT 294) (evD d) F) l1 l2 l3 l4 M))
-- IceParliamentModel look()I
set_option maxRecDepth 100000 in
theorem j295 (call : Nat → List AV → Mem → Res) (back : Nat → Lv → Mem → Res)  (M : Mem) : evj (lkE cd_295) [9, 45] call back 4000 0 [some (vR 12 0 253), none, none, none, none] [] M =
  back 9 [some (vR 12 0 253), some (vI 0), some (vI 0), none, none] (sI M 253 0 0) := rfl
set_option maxRecDepth 100000 in
theorem e295 (d : Nat)  (M : Mem) : evD (d + 1) 295 [vR 12 0 253] M =
  lp0 d 295 9 [some (vR 12 0 253), some (vI 0), some (vI 0), none, none] (sI M 253 0 0) := ((evD_step (d := d) (x := 295) (as := [vR 12 0 253]) (M := M) (md := (⟨"IceParliamentModel", "look", "()I"⟩, prog_14_method_107_code, 5, (Option.some Jvm.ClassFile.FieldType.int), 12, 12)) rfl rfl).trans (j295 (evD d) (evp0 (lkE (codT 295)) (hdT 295) (evD d))  M))
set_option maxRecDepth 100000 in
theorem g295_9 (call : Nat → List AV → Mem → Res) (back : Nat → Lv → Mem → Res) (l1 : Int32) (l2 : Int32) (o3 : Option AV) (o4 : Option AV) (M : Mem) : stepK call back (evj (lkE cd_295) [9, 45] call back 4000) (.iload_n 2, 1, 2, 0, 0, 0, 0) 9 [some (vR 12 0 253), some (vI l1), some (vI l2), o3, o4] [] M =
  cIn (call 248 [vR 12 0 253] M) fun v2 M1 =>
  ic (l2 < 1 <<< (v2 &&& 31)) (
    cIn (call 292 [vR 12 0 253, vI l2] M1) fun v4 M3 =>
    ic (v4 = 0) (
      back 9 [some (vR 12 0 253), some (vI (l1 + 0)), some (vI (l2 + 1)), o3, o4] M3) (
      back 9 [some (vR 12 0 253), some (vI (l1 + 1)), some (vI (l2 + 1)), o3, o4] M3)) (
    back 45 [some (vR 12 0 253), some (vI l1), some (vI (-1)), some (vI 0), o4] M1) := rfl
set_option maxRecDepth 100000 in
theorem e295_9 (d F : Nat) (l1 : Int32) (l2 : Int32) (o3 : Option AV) (o4 : Option AV) (M : Mem) : lp d 295 (F + 1) 9 [some (vR 12 0 253), some (vI l1), some (vI l2), o3, o4] M =
  cIn (evD d 248 [vR 12 0 253] M) fun v2 M1 =>
  ic (l2 < 1 <<< (v2 &&& 31)) (
    cIn (evD d 292 [vR 12 0 253, vI l2] M1) fun v4 M3 =>
    ic (v4 = 0) (
      lp d 295 F 9 [some (vR 12 0 253), some (vI (l1 + 0)), some (vI (l2 + 1)), o3, o4] M3) (
      lp d 295 F 9 [some (vR 12 0 253), some (vI (l1 + 1)), some (vI (l2 + 1)), o3, o4] M3)) (
    lp d 295 F 45 [some (vR 12 0 253), some (vI l1), some (vI (-1)), some (vI 0), o4] M1) := ((evp_step (code := lkE (codT 295)) (hd := hdT 295) (call := evD d) (F := F) (pc := 9) (lv := [some (vR 12 0 253), some (vI l1), some (vI l2), o3, o4]) (M := M) (e := (.iload_n 2, 1, 2, 0, 0, 0, 0)) rfl).trans (g295_9 (evD d) (evp (lkE (codT 295)) (hdT 295) (evD d) F) l1 l2 o3 o4 M))
set_option maxRecDepth 100000 in
theorem g295_45 (call : Nat → List AV → Mem → Res) (back : Nat → Lv → Mem → Res) (l1 : Int32) (l2 : Int32) (l3 : Int32) (o4 : Option AV) (M : Mem) : stepK call back (evj (lkE cd_295) [9, 45] call back 4000) (.iload_n 3, 1, 3, 0, 0, 0, 0) 45 [some (vR 12 0 253), some (vI l1), some (vI l2), some (vI l3), o4] [] M =
  cIn (call 197 [vR 12 0 253] M) fun v2 M1 =>
  ic (l3 < v2) (
    cIn (call 238 [vR 12 0 253, vI 0, vI l3] M1) fun v4 M3 =>
    ic (v4 = 0) (
      ic (l1 < l1) (
        ic (l1 < l1) (
          back 45 [some (vR 12 0 253), some (vI l1), some (vI l3), some (vI (l3 + 1)), some (vI l1)] M3) (
          back 45 [some (vR 12 0 253), some (vI l1), some (vI l3), some (vI (l3 + 1)), some (vI l1)] M3)) (
        ic (l1 < l1) (
          back 45 [some (vR 12 0 253), some (vI l1), some (vI l2), some (vI (l3 + 1)), some (vI l1)] M3) (
          back 45 [some (vR 12 0 253), some (vI l1), some (vI l2), some (vI (l3 + 1)), some (vI l1)] M3))) (
      ic (43 + l3 < 0 ∨ 1127 ≤ (43 + l3).toNatClampNeg) none (
        ic (M3.1 269 (43 + l3).toNatClampNeg < 0) (
          cIn (call 296 [vR 12 0 253, vI l3] M3) fun v6 M5 =>
          ic (v6 < l1) (
            ic (v6 < l1) (
              back 45 [some (vR 12 0 253), some (vI v6), some (vI l3), some (vI (l3 + 1)), some (vI v6)] M5) (
              back 45 [some (vR 12 0 253), some (vI l1), some (vI l3), some (vI (l3 + 1)), some (vI v6)] M5)) (
            ic (v6 < l1) (
              back 45 [some (vR 12 0 253), some (vI v6), some (vI l2), some (vI (l3 + 1)), some (vI v6)] M5) (
              back 45 [some (vR 12 0 253), some (vI l1), some (vI l2), some (vI (l3 + 1)), some (vI v6)] M5))) (
          ic (l1 < l1) (
            ic (l1 < l1) (
              back 45 [some (vR 12 0 253), some (vI l1), some (vI l3), some (vI (l3 + 1)), some (vI l1)] M3) (
              back 45 [some (vR 12 0 253), some (vI l1), some (vI l3), some (vI (l3 + 1)), some (vI l1)] M3)) (
            ic (l1 < l1) (
              back 45 [some (vR 12 0 253), some (vI l1), some (vI l2), some (vI (l3 + 1)), some (vI l1)] M3) (
              back 45 [some (vR 12 0 253), some (vI l1), some (vI l2), some (vI (l3 + 1)), some (vI l1)] M3)))))) (
    some (some (vI l2), M1)) := rfl
set_option maxRecDepth 100000 in
theorem e295_45 (d F : Nat) (l1 : Int32) (l2 : Int32) (l3 : Int32) (o4 : Option AV) (M : Mem) : lp d 295 (F + 1) 45 [some (vR 12 0 253), some (vI l1), some (vI l2), some (vI l3), o4] M =
  cIn (evD d 197 [vR 12 0 253] M) fun v2 M1 =>
  ic (l3 < v2) (
    cIn (evD d 238 [vR 12 0 253, vI 0, vI l3] M1) fun v4 M3 =>
    ic (v4 = 0) (
      ic (l1 < l1) (
        ic (l1 < l1) (
          lp d 295 F 45 [some (vR 12 0 253), some (vI l1), some (vI l3), some (vI (l3 + 1)), some (vI l1)] M3) (
          lp d 295 F 45 [some (vR 12 0 253), some (vI l1), some (vI l3), some (vI (l3 + 1)), some (vI l1)] M3)) (
        ic (l1 < l1) (
          lp d 295 F 45 [some (vR 12 0 253), some (vI l1), some (vI l2), some (vI (l3 + 1)), some (vI l1)] M3) (
          lp d 295 F 45 [some (vR 12 0 253), some (vI l1), some (vI l2), some (vI (l3 + 1)), some (vI l1)] M3))) (
      ic (43 + l3 < 0 ∨ 1127 ≤ (43 + l3).toNatClampNeg) none (
        ic (M3.1 269 (43 + l3).toNatClampNeg < 0) (
          cIn (evD d 296 [vR 12 0 253, vI l3] M3) fun v6 M5 =>
          ic (v6 < l1) (
            ic (v6 < l1) (
              lp d 295 F 45 [some (vR 12 0 253), some (vI v6), some (vI l3), some (vI (l3 + 1)), some (vI v6)] M5) (
              lp d 295 F 45 [some (vR 12 0 253), some (vI l1), some (vI l3), some (vI (l3 + 1)), some (vI v6)] M5)) (
            ic (v6 < l1) (
              lp d 295 F 45 [some (vR 12 0 253), some (vI v6), some (vI l2), some (vI (l3 + 1)), some (vI v6)] M5) (
              lp d 295 F 45 [some (vR 12 0 253), some (vI l1), some (vI l2), some (vI (l3 + 1)), some (vI v6)] M5))) (
          ic (l1 < l1) (
            ic (l1 < l1) (
              lp d 295 F 45 [some (vR 12 0 253), some (vI l1), some (vI l3), some (vI (l3 + 1)), some (vI l1)] M3) (
              lp d 295 F 45 [some (vR 12 0 253), some (vI l1), some (vI l3), some (vI (l3 + 1)), some (vI l1)] M3)) (
            ic (l1 < l1) (
              lp d 295 F 45 [some (vR 12 0 253), some (vI l1), some (vI l2), some (vI (l3 + 1)), some (vI l1)] M3) (
              lp d 295 F 45 [some (vR 12 0 253), some (vI l1), some (vI l2), some (vI (l3 + 1)), some (vI l1)] M3)))))) (
    some (some (vI l2), M1)) := ((evp_step (code := lkE (codT 295)) (hd := hdT 295) (call := evD d) (F := F) (pc := 45) (lv := [some (vR 12 0 253), some (vI l1), some (vI l2), some (vI l3), o4]) (M := M) (e := (.iload_n 3, 1, 3, 0, 0, 0, 0)) rfl).trans (g295_45 (evD d) (evp (lkE (codT 295)) (hdT 295) (evD d) F) l1 l2 l3 o4 M))
-- IceParliamentModel greatestAt(I)I
set_option maxRecDepth 100000 in
theorem j296 (call : Nat → List AV → Mem → Res) (back : Nat → Lv → Mem → Res) (p0 : Int32) (M : Mem) : evj (lkE cd_296) [2, 25] call back 4000 0 [some (vR 12 0 253), some (vI p0), none, none, none] [] M =
  back 2 [some (vR 12 0 253), some (vI p0), some (vI 0), none, none] M := rfl
set_option maxRecDepth 100000 in
theorem e296 (d : Nat) (p0 : Int32) (M : Mem) : evD (d + 1) 296 [vR 12 0 253, vI p0] M =
  lp0 d 296 2 [some (vR 12 0 253), some (vI p0), some (vI 0), none, none] M := ((evD_step (d := d) (x := 296) (as := [vR 12 0 253, vI p0]) (M := M) (md := (⟨"IceParliamentModel", "greatestAt", "(I)I"⟩, prog_14_method_106_code, 5, (Option.some Jvm.ClassFile.FieldType.int), 12, 12)) rfl rfl).trans (j296 (evD d) (evp0 (lkE (codT 296)) (hdT 296) (evD d)) p0 M))
set_option maxRecDepth 100000 in
theorem g296_2 (call : Nat → List AV → Mem → Res) (back : Nat → Lv → Mem → Res) (l1 : Int32) (l2 : Int32) (o3 : Option AV) (o4 : Option AV) (M : Mem) : stepK call back (evj (lkE cd_296) [2, 25] call back 4000) (.iload_n 2, 1, 2, 0, 0, 0, 0) 2 [some (vR 12 0 253), some (vI l1), some (vI l2), o3, o4] [] M =
  ic (20 < l2) (
    back 25 [some (vR 12 0 253), some (vI l1), some (vI 0), some (vI 0), o4] M) (
    ic (l2 < 0 ∨ 21 ≤ l2.toNatClampNeg) none (
      back 2 [some (vR 12 0 253), some (vI l1), some (vI (l2 + 1)), o3, o4] (sI M 277 l2.toNatClampNeg 0))) := rfl
set_option maxRecDepth 100000 in
theorem e296_2 (d F : Nat) (l1 : Int32) (l2 : Int32) (o3 : Option AV) (o4 : Option AV) (M : Mem) : lp d 296 (F + 1) 2 [some (vR 12 0 253), some (vI l1), some (vI l2), o3, o4] M =
  ic (20 < l2) (
    lp d 296 F 25 [some (vR 12 0 253), some (vI l1), some (vI 0), some (vI 0), o4] M) (
    ic (l2 < 0 ∨ 21 ≤ l2.toNatClampNeg) none (
      lp d 296 F 2 [some (vR 12 0 253), some (vI l1), some (vI (l2 + 1)), o3, o4] (sI M 277 l2.toNatClampNeg 0))) := ((evp_step (code := lkE (codT 296)) (hd := hdT 296) (call := evD d) (F := F) (pc := 2) (lv := [some (vR 12 0 253), some (vI l1), some (vI l2), o3, o4]) (M := M) (e := (.iload_n 2, 1, 2, 0, 0, 0, 0)) rfl).trans (g296_2 (evD d) (evp (lkE (codT 296)) (hdT 296) (evD d) F) l1 l2 o3 o4 M))
set_option maxRecDepth 100000 in
theorem g296_25 (call : Nat → List AV → Mem → Res) (back : Nat → Lv → Mem → Res) (l1 : Int32) (l2 : Int32) (l3 : Int32) (o4 : Option AV) (M : Mem) : stepK call back (evj (lkE cd_296) [2, 25] call back 4000) (.iload_n 3, 1, 3, 0, 0, 0, 0) 25 [some (vR 12 0 253), some (vI l1), some (vI l2), some (vI l3), o4] [] M =
  cIn (call 248 [vR 12 0 253] M) fun v2 M1 =>
  ic (l3 < 1 <<< (v2 &&& 31)) (
    cIn (call 292 [vR 12 0 253, vI l3] M1) fun v4 M3 =>
    ic (v4 = 0) (
      back 25 [some (vR 12 0 253), some (vI l1), some (vI l2), some (vI (l3 + 1)), o4] M3) (
      cIn (call 294 [vR 12 0 253, vI l1, vI l3] M3) fun v6 M5 =>
      ic (v6 < 0 ∨ 21 ≤ v6.toNatClampNeg) none (
        ic (v6 < 0 ∨ 21 ≤ v6.toNatClampNeg) none (
          ic (v6 < 0 ∨ 21 ≤ v6.toNatClampNeg) none (
            ic (l2 < (sI M5 277 v6.toNatClampNeg ((M5.1 277 v6.toNatClampNeg) + 1)).1 277 v6.toNatClampNeg) (
              ic (v6 < 0 ∨ 21 ≤ v6.toNatClampNeg) none (
                back 25 [some (vR 12 0 253), some (vI l1), some (vI ((sI M5 277 v6.toNatClampNeg ((M5.1 277 v6.toNatClampNeg) + 1)).1 277 v6.toNatClampNeg)), some (vI (l3 + 1)), some (vI v6)] (sI M5 277 v6.toNatClampNeg ((M5.1 277 v6.toNatClampNeg) + 1)))) (
              back 25 [some (vR 12 0 253), some (vI l1), some (vI l2), some (vI (l3 + 1)), some (vI v6)] (sI M5 277 v6.toNatClampNeg ((M5.1 277 v6.toNatClampNeg) + 1)))))))) (
    some (some (vI l2), M1)) := rfl
set_option maxRecDepth 100000 in
theorem e296_25 (d F : Nat) (l1 : Int32) (l2 : Int32) (l3 : Int32) (o4 : Option AV) (M : Mem) : lp d 296 (F + 1) 25 [some (vR 12 0 253), some (vI l1), some (vI l2), some (vI l3), o4] M =
  cIn (evD d 248 [vR 12 0 253] M) fun v2 M1 =>
  ic (l3 < 1 <<< (v2 &&& 31)) (
    cIn (evD d 292 [vR 12 0 253, vI l3] M1) fun v4 M3 =>
    ic (v4 = 0) (
      lp d 296 F 25 [some (vR 12 0 253), some (vI l1), some (vI l2), some (vI (l3 + 1)), o4] M3) (
      cIn (evD d 294 [vR 12 0 253, vI l1, vI l3] M3) fun v6 M5 =>
      ic (v6 < 0 ∨ 21 ≤ v6.toNatClampNeg) none (
        ic (v6 < 0 ∨ 21 ≤ v6.toNatClampNeg) none (
          ic (v6 < 0 ∨ 21 ≤ v6.toNatClampNeg) none (
            ic (l2 < (sI M5 277 v6.toNatClampNeg ((M5.1 277 v6.toNatClampNeg) + 1)).1 277 v6.toNatClampNeg) (
              ic (v6 < 0 ∨ 21 ≤ v6.toNatClampNeg) none (
                lp d 296 F 25 [some (vR 12 0 253), some (vI l1), some (vI ((sI M5 277 v6.toNatClampNeg ((M5.1 277 v6.toNatClampNeg) + 1)).1 277 v6.toNatClampNeg)), some (vI (l3 + 1)), some (vI v6)] (sI M5 277 v6.toNatClampNeg ((M5.1 277 v6.toNatClampNeg) + 1)))) (
              lp d 296 F 25 [some (vR 12 0 253), some (vI l1), some (vI l2), some (vI (l3 + 1)), some (vI v6)] (sI M5 277 v6.toNatClampNeg ((M5.1 277 v6.toNatClampNeg) + 1)))))))) (
    some (some (vI l2), M1)) := ((evp_step (code := lkE (codT 296)) (hd := hdT 296) (call := evD d) (F := F) (pc := 25) (lv := [some (vR 12 0 253), some (vI l1), some (vI l2), some (vI l3), o4]) (M := M) (e := (.iload_n 3, 1, 3, 0, 0, 0, 0)) rfl).trans (g296_25 (evD d) (evp (lkE (codT 296)) (hdT 296) (evD d) F) l1 l2 l3 o4 M))
-- IceParliamentModel rests(IIII)I
set_option maxRecDepth 100000 in
theorem j297 (call : Nat → List AV → Mem → Res) (back : Nat → Lv → Mem → Res) (p0 : Int32) (p1 : Int32) (p2 : Int32) (p3 : Int32) (M : Mem) : evj (lkE cd_297) [40, 43, 52, 107, 141, 144, 161, 165, 180, 186, 210] call back 4000 0 [some (vR 12 0 253), some (vI p0), some (vI p1), some (vI p2), some (vI p3), none, none, none, none, none, none, none] [] M =
  cIn (call 222 [vI p0, vI 0, vI 9] M) fun v2 M1 =>
  ic (v2 = 0) (
    back 40 [some (vR 12 0 253), some (vI p0), some (vI p1), some (vI p2), some (vI p3), none, none, none, none, none, none, none] M1) (
    cIn (call 222 [vI p1, vI 0, vI 9] M1) fun v4 M3 =>
    ic (v4 = 0) (
      back 40 [some (vR 12 0 253), some (vI p0), some (vI p1), some (vI p2), some (vI p3), none, none, none, none, none, none, none] M3) (
      cIn (call 222 [vI p2, vI 0, vI 9] M3) fun v6 M5 =>
      ic (v6 = 0) (
        back 40 [some (vR 12 0 253), some (vI p0), some (vI p1), some (vI p2), some (vI p3), none, none, none, none, none, none, none] M5) (
        ic (p3 < (-1)) (
          back 40 [some (vR 12 0 253), some (vI p0), some (vI p1), some (vI p2), some (vI p3), none, none, none, none, none, none, none] M5) (
          back 43 [some (vR 12 0 253), some (vI p0), some (vI p1), some (vI p2), some (vI p3), some (vI 1), none, none, none, none, none, none] M5)))) := rfl
set_option maxRecDepth 100000 in
theorem e297 (d : Nat) (p0 : Int32) (p1 : Int32) (p2 : Int32) (p3 : Int32) (M : Mem) : evD (d + 1) 297 [vR 12 0 253, vI p0, vI p1, vI p2, vI p3] M =
  cIn (evD d 222 [vI p0, vI 0, vI 9] M) fun v2 M1 =>
  ic (v2 = 0) (
    lp0 d 297 40 [some (vR 12 0 253), some (vI p0), some (vI p1), some (vI p2), some (vI p3), none, none, none, none, none, none, none] M1) (
    cIn (evD d 222 [vI p1, vI 0, vI 9] M1) fun v4 M3 =>
    ic (v4 = 0) (
      lp0 d 297 40 [some (vR 12 0 253), some (vI p0), some (vI p1), some (vI p2), some (vI p3), none, none, none, none, none, none, none] M3) (
      cIn (evD d 222 [vI p2, vI 0, vI 9] M3) fun v6 M5 =>
      ic (v6 = 0) (
        lp0 d 297 40 [some (vR 12 0 253), some (vI p0), some (vI p1), some (vI p2), some (vI p3), none, none, none, none, none, none, none] M5) (
        ic (p3 < (-1)) (
          lp0 d 297 40 [some (vR 12 0 253), some (vI p0), some (vI p1), some (vI p2), some (vI p3), none, none, none, none, none, none, none] M5) (
          lp0 d 297 43 [some (vR 12 0 253), some (vI p0), some (vI p1), some (vI p2), some (vI p3), some (vI 1), none, none, none, none, none, none] M5)))) := ((evD_step (d := d) (x := 297) (as := [vR 12 0 253, vI p0, vI p1, vI p2, vI p3]) (M := M) (md := (⟨"IceParliamentModel", "rests", "(IIII)I"⟩, prog_14_method_109_code, 12, (Option.some Jvm.ClassFile.FieldType.int), 12, 12)) rfl rfl).trans (j297 (evD d) (evp0 (lkE (codT 297)) (hdT 297) (evD d)) p0 p1 p2 p3 M))
set_option maxRecDepth 100000 in
theorem g297_40 (call : Nat → List AV → Mem → Res) (back : Nat → Lv → Mem → Res) (l1 : Int32) (l2 : Int32) (l3 : Int32) (l4 : Int32) (o5 : Option AV) (o6 : Option AV) (o7 : Option AV) (o8 : Option AV) (o9 : Option AV) (o10 : Option AV) (o11 : Option AV) (M : Mem) : stepK call back (evj (lkE cd_297) [40, 43, 52, 107, 141, 144, 161, 165, 180, 186, 210] call back 4000) (.iconst 0, 1, 0, 0, 0, 0, 0) 40 [some (vR 12 0 253), some (vI l1), some (vI l2), some (vI l3), some (vI l4), o5, o6, o7, o8, o9, o10, o11] [] M =
  back 43 [some (vR 12 0 253), some (vI l1), some (vI l2), some (vI l3), some (vI l4), some (vI 0), o6, o7, o8, o9, o10, o11] M := rfl
set_option maxRecDepth 100000 in
theorem e297_40 (d F : Nat) (l1 : Int32) (l2 : Int32) (l3 : Int32) (l4 : Int32) (o5 : Option AV) (o6 : Option AV) (o7 : Option AV) (o8 : Option AV) (o9 : Option AV) (o10 : Option AV) (o11 : Option AV) (M : Mem) : lp d 297 (F + 1) 40 [some (vR 12 0 253), some (vI l1), some (vI l2), some (vI l3), some (vI l4), o5, o6, o7, o8, o9, o10, o11] M =
  lp d 297 F 43 [some (vR 12 0 253), some (vI l1), some (vI l2), some (vI l3), some (vI l4), some (vI 0), o6, o7, o8, o9, o10, o11] M := ((evp_step (code := lkE (codT 297)) (hd := hdT 297) (call := evD d) (F := F) (pc := 40) (lv := [some (vR 12 0 253), some (vI l1), some (vI l2), some (vI l3), some (vI l4), o5, o6, o7, o8, o9, o10, o11]) (M := M) (e := (.iconst 0, 1, 0, 0, 0, 0, 0)) rfl).trans (g297_40 (evD d) (evp (lkE (codT 297)) (hdT 297) (evD d) F) l1 l2 l3 l4 o5 o6 o7 o8 o9 o10 o11 M))
set_option maxRecDepth 100000 in
theorem g297_43 (call : Nat → List AV → Mem → Res) (back : Nat → Lv → Mem → Res) (l1 : Int32) (l2 : Int32) (l3 : Int32) (l4 : Int32) (l5 : Int32) (o6 : Option AV) (o7 : Option AV) (o8 : Option AV) (o9 : Option AV) (o10 : Option AV) (o11 : Option AV) (M : Mem) : stepK call back (evj (lkE cd_297) [40, 43, 52, 107, 141, 144, 161, 165, 180, 186, 210] call back 4000) (.iconst 0, 1, 0, 0, 0, 0, 0) 43 [some (vR 12 0 253), some (vI l1), some (vI l2), some (vI l3), some (vI l4), some (vI l5), o6, o7, o8, o9, o10, o11] [] M =
  back 52 [some (vR 12 0 253), some (vI l1), some (vI l2), some (vI l3), some (vI l4), some (vI l5), some (vI 0), some (vI (-1)), some (vI 0), o9, o10, o11] M := rfl
set_option maxRecDepth 100000 in
theorem e297_43 (d F : Nat) (l1 : Int32) (l2 : Int32) (l3 : Int32) (l4 : Int32) (l5 : Int32) (o6 : Option AV) (o7 : Option AV) (o8 : Option AV) (o9 : Option AV) (o10 : Option AV) (o11 : Option AV) (M : Mem) : lp d 297 (F + 1) 43 [some (vR 12 0 253), some (vI l1), some (vI l2), some (vI l3), some (vI l4), some (vI l5), o6, o7, o8, o9, o10, o11] M =
  lp d 297 F 52 [some (vR 12 0 253), some (vI l1), some (vI l2), some (vI l3), some (vI l4), some (vI l5), some (vI 0), some (vI (-1)), some (vI 0), o9, o10, o11] M := ((evp_step (code := lkE (codT 297)) (hd := hdT 297) (call := evD d) (F := F) (pc := 43) (lv := [some (vR 12 0 253), some (vI l1), some (vI l2), some (vI l3), some (vI l4), some (vI l5), o6, o7, o8, o9, o10, o11]) (M := M) (e := (.iconst 0, 1, 0, 0, 0, 0, 0)) rfl).trans (g297_43 (evD d) (evp (lkE (codT 297)) (hdT 297) (evD d) F) l1 l2 l3 l4 l5 o6 o7 o8 o9 o10 o11 M))
set_option maxRecDepth 100000 in
theorem g297_52 (call : Nat → List AV → Mem → Res) (back : Nat → Lv → Mem → Res) (l1 : Int32) (l2 : Int32) (l3 : Int32) (l4 : Int32) (l5 : Int32) (l6 : Int32) (l7 : Int32) (l8 : Int32) (o9 : Option AV) (o10 : Option AV) (o11 : Option AV) (M : Mem) : stepK call back (evj (lkE cd_297) [40, 43, 52, 107, 141, 144, 161, 165, 180, 186, 210] call back 4000) (.iload 8, 2, 8, 0, 0, 0, 0) 52 [some (vR 12 0 253), some (vI l1), some (vI l2), some (vI l3), some (vI l4), some (vI l5), some (vI l6), some (vI l7), some (vI l8), o9, o10, o11] [] M =
  ic (l8 < 4) (
    ic (l5 = 0) (
      back 186 [some (vR 12 0 253), some (vI l1), some (vI l2), some (vI l3), some (vI l4), some (vI l5), some (vI l6), some (vI l7), some (vI l8), o9, o10, o11] M) (
      ic ((2 : Int32) = 0) none (
        ic ((2 : Int32) = 0) none (
          cIn (call 298 [vI (1 - (l8 / 2)), vI (l8 - l8 / 2 * 2), vI l1, vI l2, vI l3] M) fun v2 M1 =>
          cIn (call 298 [vI (l8 / 2), vI (l8 - l8 / 2 * 2), vI l1, vI l2, vI l3] M1) fun v4 M3 =>
          ic (v4 < v2) (
            back 107 [some (vR 12 0 253), some (vI l1), some (vI l2), some (vI l3), some (vI l4), some (vI l5), some (vI l6), some (vI l7), some (vI l8), some (vI (l8 / 2)), some (vI (l8 - l8 / 2 * 2)), some (vI 0)] M3) (
            back 107 [some (vR 12 0 253), some (vI l1), some (vI l2), some (vI l3), some (vI l4), some (vI l5), some (vI l6), some (vI l7), some (vI l8), some (vI (l8 / 2)), some (vI (l8 - l8 / 2 * 2)), some (vI 1)] M3))))) (
    back 186 [some (vR 12 0 253), some (vI l1), some (vI l2), some (vI l3), some (vI l4), some (vI l5), some (vI l6), some (vI l7), some (vI l8), o9, o10, o11] M) := rfl
set_option maxRecDepth 100000 in
theorem e297_52 (d F : Nat) (l1 : Int32) (l2 : Int32) (l3 : Int32) (l4 : Int32) (l5 : Int32) (l6 : Int32) (l7 : Int32) (l8 : Int32) (o9 : Option AV) (o10 : Option AV) (o11 : Option AV) (M : Mem) : lp d 297 (F + 1) 52 [some (vR 12 0 253), some (vI l1), some (vI l2), some (vI l3), some (vI l4), some (vI l5), some (vI l6), some (vI l7), some (vI l8), o9, o10, o11] M =
  ic (l8 < 4) (
    ic (l5 = 0) (
      lp d 297 F 186 [some (vR 12 0 253), some (vI l1), some (vI l2), some (vI l3), some (vI l4), some (vI l5), some (vI l6), some (vI l7), some (vI l8), o9, o10, o11] M) (
      cIn (evD d 298 [vI (1 - (l8 / 2)), vI (l8 - l8 / 2 * 2), vI l1, vI l2, vI l3] M) fun v2 M1 =>
      cIn (evD d 298 [vI (l8 / 2), vI (l8 - l8 / 2 * 2), vI l1, vI l2, vI l3] M1) fun v4 M3 =>
      ic (v4 < v2) (
        lp d 297 F 107 [some (vR 12 0 253), some (vI l1), some (vI l2), some (vI l3), some (vI l4), some (vI l5), some (vI l6), some (vI l7), some (vI l8), some (vI (l8 / 2)), some (vI (l8 - l8 / 2 * 2)), some (vI 0)] M3) (
        lp d 297 F 107 [some (vR 12 0 253), some (vI l1), some (vI l2), some (vI l3), some (vI l4), some (vI l5), some (vI l6), some (vI l7), some (vI l8), some (vI (l8 / 2)), some (vI (l8 - l8 / 2 * 2)), some (vI 1)] M3))) (
    lp d 297 F 186 [some (vR 12 0 253), some (vI l1), some (vI l2), some (vI l3), some (vI l4), some (vI l5), some (vI l6), some (vI l7), some (vI l8), o9, o10, o11] M) := ((evp_step (code := lkE (codT 297)) (hd := hdT 297) (call := evD d) (F := F) (pc := 52) (lv := [some (vR 12 0 253), some (vI l1), some (vI l2), some (vI l3), some (vI l4), some (vI l5), some (vI l6), some (vI l7), some (vI l8), o9, o10, o11]) (M := M) (e := (.iload 8, 2, 8, 0, 0, 0, 0)) rfl).trans (g297_52 (evD d) (evp (lkE (codT 297)) (hdT 297) (evD d) F) l1 l2 l3 l4 l5 l6 l7 l8 o9 o10 o11 M)).trans (by (try simp only [ic_f (show ¬ ((2 : Int32) = 0) by decide)]))
set_option maxRecDepth 100000 in
theorem g297_186 (call : Nat → List AV → Mem → Res) (back : Nat → Lv → Mem → Res) (o1 : Option AV) (o2 : Option AV) (o3 : Option AV) (l4 : Int32) (l5 : Int32) (l6 : Int32) (l7 : Int32) (o8 : Option AV) (o9 : Option AV) (o10 : Option AV) (o11 : Option AV) (M : Mem) : stepK call back (evj (lkE cd_297) [40, 43, 52, 107, 141, 144, 161, 165, 180, 186, 210] call back 4000) (.aload_n 0, 1, 0, 0, 0, 0, 0) 186 [some (vR 12 0 253), o1, o2, o3, some (vI l4), some (vI l5), some (vI l6), some (vI l7), o8, o9, o10, o11] [] M =
  ic (l5 = 0) (
    back 210 [some (vR 12 0 253), o1, o2, o3, some (vI l4), some (vI l5), some (vI l6), some (vI l7), o8, o9, o10, o11] (sI M 253 0 1)) (
    ic (l4 < 0) (
      back 210 [some (vR 12 0 253), o1, o2, o3, some (vI l4), some (vI l5), some (vI l6), some (vI l7), o8, o9, o10, o11] (sI M 253 0 0)) (
      ic (l7 < 0) (
        back 210 [some (vR 12 0 253), o1, o2, o3, some (vI l4), some (vI l5), some (vI l6), some (vI l7), o8, o9, o10, o11] (sI M 253 0 1)) (
        back 210 [some (vR 12 0 253), o1, o2, o3, some (vI l4), some (vI l5), some (vI l6), some (vI l7), o8, o9, o10, o11] (sI M 253 0 0)))) := rfl
set_option maxRecDepth 100000 in
theorem e297_186 (d F : Nat) (o1 : Option AV) (o2 : Option AV) (o3 : Option AV) (l4 : Int32) (l5 : Int32) (l6 : Int32) (l7 : Int32) (o8 : Option AV) (o9 : Option AV) (o10 : Option AV) (o11 : Option AV) (M : Mem) : lp d 297 (F + 1) 186 [some (vR 12 0 253), o1, o2, o3, some (vI l4), some (vI l5), some (vI l6), some (vI l7), o8, o9, o10, o11] M =
  ic (l5 = 0) (
    lp d 297 F 210 [some (vR 12 0 253), o1, o2, o3, some (vI l4), some (vI l5), some (vI l6), some (vI l7), o8, o9, o10, o11] (sI M 253 0 1)) (
    ic (l4 < 0) (
      lp d 297 F 210 [some (vR 12 0 253), o1, o2, o3, some (vI l4), some (vI l5), some (vI l6), some (vI l7), o8, o9, o10, o11] (sI M 253 0 0)) (
      ic (l7 < 0) (
        lp d 297 F 210 [some (vR 12 0 253), o1, o2, o3, some (vI l4), some (vI l5), some (vI l6), some (vI l7), o8, o9, o10, o11] (sI M 253 0 1)) (
        lp d 297 F 210 [some (vR 12 0 253), o1, o2, o3, some (vI l4), some (vI l5), some (vI l6), some (vI l7), o8, o9, o10, o11] (sI M 253 0 0)))) := ((evp_step (code := lkE (codT 297)) (hd := hdT 297) (call := evD d) (F := F) (pc := 186) (lv := [some (vR 12 0 253), o1, o2, o3, some (vI l4), some (vI l5), some (vI l6), some (vI l7), o8, o9, o10, o11]) (M := M) (e := (.aload_n 0, 1, 0, 0, 0, 0, 0)) rfl).trans (g297_186 (evD d) (evp (lkE (codT 297)) (hdT 297) (evD d) F) o1 o2 o3 l4 l5 l6 l7 o8 o9 o10 o11 M))
set_option maxRecDepth 100000 in
theorem g297_107 (call : Nat → List AV → Mem → Res) (back : Nat → Lv → Mem → Res) (l1 : Int32) (l2 : Int32) (l3 : Int32) (l4 : Int32) (l5 : Int32) (l6 : Int32) (l7 : Int32) (l8 : Int32) (l9 : Int32) (l10 : Int32) (l11 : Int32) (M : Mem) : stepK call back (evj (lkE cd_297) [40, 43, 52, 107, 141, 144, 161, 165, 180, 186, 210] call back 4000) (.iload 11, 2, 11, 0, 0, 0, 0) 107 [some (vR 12 0 253), some (vI l1), some (vI l2), some (vI l3), some (vI l4), some (vI l5), some (vI l6), some (vI l7), some (vI l8), some (vI l9), some (vI l10), some (vI l11)] [] M =
  ic (l11 = 0) (
    back 141 [some (vR 12 0 253), some (vI l1), some (vI l2), some (vI l3), some (vI l4), some (vI l5), some (vI l6), some (vI l7), some (vI l8), some (vI l9), some (vI l10), some (vI l11)] M) (
    cIn (call 298 [vI (1 - l10), vI l9, vI l1, vI l2, vI l3] M) fun v2 M1 =>
    cIn (call 298 [vI l10, vI l9, vI l1, vI l2, vI l3] M1) fun v4 M3 =>
    ic (v4 < v2) (
      back 141 [some (vR 12 0 253), some (vI l1), some (vI l2), some (vI l3), some (vI l4), some (vI l5), some (vI l6), some (vI l7), some (vI l8), some (vI l9), some (vI l10), some (vI l11)] M3) (
      back 144 [some (vR 12 0 253), some (vI l1), some (vI l2), some (vI l3), some (vI l4), some (vI l5), some (vI l6), some (vI l7), some (vI l8), some (vI l9), some (vI l10), some (vI 1)] M3)) := rfl
set_option maxRecDepth 100000 in
theorem e297_107 (d F : Nat) (l1 : Int32) (l2 : Int32) (l3 : Int32) (l4 : Int32) (l5 : Int32) (l6 : Int32) (l7 : Int32) (l8 : Int32) (l9 : Int32) (l10 : Int32) (l11 : Int32) (M : Mem) : lp d 297 (F + 1) 107 [some (vR 12 0 253), some (vI l1), some (vI l2), some (vI l3), some (vI l4), some (vI l5), some (vI l6), some (vI l7), some (vI l8), some (vI l9), some (vI l10), some (vI l11)] M =
  ic (l11 = 0) (
    lp d 297 F 141 [some (vR 12 0 253), some (vI l1), some (vI l2), some (vI l3), some (vI l4), some (vI l5), some (vI l6), some (vI l7), some (vI l8), some (vI l9), some (vI l10), some (vI l11)] M) (
    cIn (evD d 298 [vI (1 - l10), vI l9, vI l1, vI l2, vI l3] M) fun v2 M1 =>
    cIn (evD d 298 [vI l10, vI l9, vI l1, vI l2, vI l3] M1) fun v4 M3 =>
    ic (v4 < v2) (
      lp d 297 F 141 [some (vR 12 0 253), some (vI l1), some (vI l2), some (vI l3), some (vI l4), some (vI l5), some (vI l6), some (vI l7), some (vI l8), some (vI l9), some (vI l10), some (vI l11)] M3) (
      lp d 297 F 144 [some (vR 12 0 253), some (vI l1), some (vI l2), some (vI l3), some (vI l4), some (vI l5), some (vI l6), some (vI l7), some (vI l8), some (vI l9), some (vI l10), some (vI 1)] M3)) := ((evp_step (code := lkE (codT 297)) (hd := hdT 297) (call := evD d) (F := F) (pc := 107) (lv := [some (vR 12 0 253), some (vI l1), some (vI l2), some (vI l3), some (vI l4), some (vI l5), some (vI l6), some (vI l7), some (vI l8), some (vI l9), some (vI l10), some (vI l11)]) (M := M) (e := (.iload 11, 2, 11, 0, 0, 0, 0)) rfl).trans (g297_107 (evD d) (evp (lkE (codT 297)) (hdT 297) (evD d) F) l1 l2 l3 l4 l5 l6 l7 l8 l9 l10 l11 M))
set_option maxRecDepth 100000 in
theorem g297_210 (call : Nat → List AV → Mem → Res) (back : Nat → Lv → Mem → Res) (o1 : Option AV) (o2 : Option AV) (o3 : Option AV) (l4 : Int32) (o5 : Option AV) (l6 : Int32) (l7 : Int32) (o8 : Option AV) (o9 : Option AV) (o10 : Option AV) (o11 : Option AV) (M : Mem) : stepK call back (evj (lkE cd_297) [40, 43, 52, 107, 141, 144, 161, 165, 180, 186, 210] call back 4000) (.aload_n 0, 1, 0, 0, 0, 0, 0) 210 [some (vR 12 0 253), o1, o2, o3, some (vI l4), o5, some (vI l6), some (vI l7), o8, o9, o10, o11] [] M =
  ic (0 < M.1 253 0) (
    some (some (vI 0), M)) (
    ic (l4 < 0) (
      some (some (vI l6), M)) (
      some (some (vI l7), M))) := rfl
set_option maxRecDepth 100000 in
theorem e297_210 (d F : Nat) (o1 : Option AV) (o2 : Option AV) (o3 : Option AV) (l4 : Int32) (o5 : Option AV) (l6 : Int32) (l7 : Int32) (o8 : Option AV) (o9 : Option AV) (o10 : Option AV) (o11 : Option AV) (M : Mem) : lp d 297 (F + 1) 210 [some (vR 12 0 253), o1, o2, o3, some (vI l4), o5, some (vI l6), some (vI l7), o8, o9, o10, o11] M =
  ic (0 < M.1 253 0) (
    some (some (vI 0), M)) (
    ic (l4 < 0) (
      some (some (vI l6), M)) (
      some (some (vI l7), M))) := ((evp_step (code := lkE (codT 297)) (hd := hdT 297) (call := evD d) (F := F) (pc := 210) (lv := [some (vR 12 0 253), o1, o2, o3, some (vI l4), o5, some (vI l6), some (vI l7), o8, o9, o10, o11]) (M := M) (e := (.aload_n 0, 1, 0, 0, 0, 0, 0)) rfl).trans (g297_210 (evD d) (evp (lkE (codT 297)) (hdT 297) (evD d) F) o1 o2 o3 l4 o5 l6 l7 o8 o9 o10 o11 M))
set_option maxRecDepth 100000 in
theorem g297_141a (call : Nat → List AV → Mem → Res) (back : Nat → Lv → Mem → Res) (l1 : Int32) (l2 : Int32) (l3 : Int32) (l4 : Int32) (l5 : Int32) (l6 : Int32) (l7 : Int32) (l8 : Int32) (o9 : Option AV) (o11 : Option AV) (M : Mem) : stepK call back (evj (lkE cd_297) [40, 43, 52, 107, 141, 144, 161, 165, 180, 186, 210] call back 4000) (.iconst 0, 1, 0, 0, 0, 0, 0) 141 [some (vR 12 0 253), some (vI l1), some (vI l2), some (vI l3), some (vI l4), some (vI l5), some (vI l6), some (vI l7), some (vI l8), o9, none, o11] [] M =
  back 144 [some (vR 12 0 253), some (vI l1), some (vI l2), some (vI l3), some (vI l4), some (vI l5), some (vI l6), some (vI l7), some (vI l8), o9, none, some (vI 0)] M := rfl
set_option maxRecDepth 100000 in
theorem e297_141a (d F : Nat) (l1 : Int32) (l2 : Int32) (l3 : Int32) (l4 : Int32) (l5 : Int32) (l6 : Int32) (l7 : Int32) (l8 : Int32) (o9 : Option AV) (o11 : Option AV) (M : Mem) : lp d 297 (F + 1) 141 [some (vR 12 0 253), some (vI l1), some (vI l2), some (vI l3), some (vI l4), some (vI l5), some (vI l6), some (vI l7), some (vI l8), o9, none, o11] M =
  lp d 297 F 144 [some (vR 12 0 253), some (vI l1), some (vI l2), some (vI l3), some (vI l4), some (vI l5), some (vI l6), some (vI l7), some (vI l8), o9, none, some (vI 0)] M := ((evp_step (code := lkE (codT 297)) (hd := hdT 297) (call := evD d) (F := F) (pc := 141) (lv := [some (vR 12 0 253), some (vI l1), some (vI l2), some (vI l3), some (vI l4), some (vI l5), some (vI l6), some (vI l7), some (vI l8), o9, none, o11]) (M := M) (e := (.iconst 0, 1, 0, 0, 0, 0, 0)) rfl).trans (g297_141a (evD d) (evp (lkE (codT 297)) (hdT 297) (evD d) F) l1 l2 l3 l4 l5 l6 l7 l8 o9 o11 M))
set_option maxRecDepth 100000 in
theorem g297_141b (call : Nat → List AV → Mem → Res) (back : Nat → Lv → Mem → Res) (l1 : Int32) (l2 : Int32) (l3 : Int32) (l4 : Int32) (l5 : Int32) (l6 : Int32) (l7 : Int32) (l8 : Int32) (o9 : Option AV) (o10 : Int32) (o11 : Option AV) (M : Mem) : stepK call back (evj (lkE cd_297) [40, 43, 52, 107, 141, 144, 161, 165, 180, 186, 210] call back 4000) (.iconst 0, 1, 0, 0, 0, 0, 0) 141 [some (vR 12 0 253), some (vI l1), some (vI l2), some (vI l3), some (vI l4), some (vI l5), some (vI l6), some (vI l7), some (vI l8), o9, some (vI o10), o11] [] M =
  back 144 [some (vR 12 0 253), some (vI l1), some (vI l2), some (vI l3), some (vI l4), some (vI l5), some (vI l6), some (vI l7), some (vI l8), o9, some (vI o10), some (vI 0)] M := rfl
set_option maxRecDepth 100000 in
theorem e297_141b (d F : Nat) (l1 : Int32) (l2 : Int32) (l3 : Int32) (l4 : Int32) (l5 : Int32) (l6 : Int32) (l7 : Int32) (l8 : Int32) (o9 : Option AV) (o10 : Int32) (o11 : Option AV) (M : Mem) : lp d 297 (F + 1) 141 [some (vR 12 0 253), some (vI l1), some (vI l2), some (vI l3), some (vI l4), some (vI l5), some (vI l6), some (vI l7), some (vI l8), o9, some (vI o10), o11] M =
  lp d 297 F 144 [some (vR 12 0 253), some (vI l1), some (vI l2), some (vI l3), some (vI l4), some (vI l5), some (vI l6), some (vI l7), some (vI l8), o9, some (vI o10), some (vI 0)] M := ((evp_step (code := lkE (codT 297)) (hd := hdT 297) (call := evD d) (F := F) (pc := 141) (lv := [some (vR 12 0 253), some (vI l1), some (vI l2), some (vI l3), some (vI l4), some (vI l5), some (vI l6), some (vI l7), some (vI l8), o9, some (vI o10), o11]) (M := M) (e := (.iconst 0, 1, 0, 0, 0, 0, 0)) rfl).trans (g297_141b (evD d) (evp (lkE (codT 297)) (hdT 297) (evD d) F) l1 l2 l3 l4 l5 l6 l7 l8 o9 o10 o11 M))
set_option maxRecDepth 100000 in
theorem g297_144 (call : Nat → List AV → Mem → Res) (back : Nat → Lv → Mem → Res) (l1 : Int32) (l2 : Int32) (l3 : Int32) (l4 : Int32) (l5 : Int32) (l6 : Int32) (l7 : Int32) (l8 : Int32) (o9 : Option AV) (o10 : Option AV) (l11 : Int32) (M : Mem) : stepK call back (evj (lkE cd_297) [40, 43, 52, 107, 141, 144, 161, 165, 180, 186, 210] call back 4000) (.iload 11, 2, 11, 0, 0, 0, 0) 144 [some (vR 12 0 253), some (vI l1), some (vI l2), some (vI l3), some (vI l4), some (vI l5), some (vI l6), some (vI l7), some (vI l8), o9, o10, some (vI l11)] [] M =
  ic (l11 = 0) (
    back 161 [some (vR 12 0 253), some (vI l1), some (vI l2), some (vI l3), some (vI l4), some (vI l5), some (vI l6), some (vI l7), some (vI l8), o9, o10, some (vI l11)] M) (
    ic (l6 = l4) (
      back 165 [some (vR 12 0 253), some (vI l1), some (vI l2), some (vI l3), some (vI l4), some (vI l5), some (vI l6), some (vI l8), some (vI l8), o9, o10, some (vI l11)] M) (
      back 161 [some (vR 12 0 253), some (vI l1), some (vI l2), some (vI l3), some (vI l4), some (vI l5), some (vI l6), some (vI l7), some (vI l8), o9, o10, some (vI l11)] M)) := rfl
set_option maxRecDepth 100000 in
theorem e297_144 (d F : Nat) (l1 : Int32) (l2 : Int32) (l3 : Int32) (l4 : Int32) (l5 : Int32) (l6 : Int32) (l7 : Int32) (l8 : Int32) (o9 : Option AV) (o10 : Option AV) (l11 : Int32) (M : Mem) : lp d 297 (F + 1) 144 [some (vR 12 0 253), some (vI l1), some (vI l2), some (vI l3), some (vI l4), some (vI l5), some (vI l6), some (vI l7), some (vI l8), o9, o10, some (vI l11)] M =
  ic (l11 = 0) (
    lp d 297 F 161 [some (vR 12 0 253), some (vI l1), some (vI l2), some (vI l3), some (vI l4), some (vI l5), some (vI l6), some (vI l7), some (vI l8), o9, o10, some (vI l11)] M) (
    ic (l6 = l4) (
      lp d 297 F 165 [some (vR 12 0 253), some (vI l1), some (vI l2), some (vI l3), some (vI l4), some (vI l5), some (vI l6), some (vI l8), some (vI l8), o9, o10, some (vI l11)] M) (
      lp d 297 F 161 [some (vR 12 0 253), some (vI l1), some (vI l2), some (vI l3), some (vI l4), some (vI l5), some (vI l6), some (vI l7), some (vI l8), o9, o10, some (vI l11)] M)) := ((evp_step (code := lkE (codT 297)) (hd := hdT 297) (call := evD d) (F := F) (pc := 144) (lv := [some (vR 12 0 253), some (vI l1), some (vI l2), some (vI l3), some (vI l4), some (vI l5), some (vI l6), some (vI l7), some (vI l8), o9, o10, some (vI l11)]) (M := M) (e := (.iload 11, 2, 11, 0, 0, 0, 0)) rfl).trans (g297_144 (evD d) (evp (lkE (codT 297)) (hdT 297) (evD d) F) l1 l2 l3 l4 l5 l6 l7 l8 o9 o10 l11 M))
set_option maxRecDepth 100000 in
theorem g297_161 (call : Nat → List AV → Mem → Res) (back : Nat → Lv → Mem → Res) (l1 : Int32) (l2 : Int32) (l3 : Int32) (l4 : Int32) (l5 : Int32) (l6 : Int32) (l7 : Int32) (l8 : Int32) (o9 : Option AV) (o10 : Option AV) (l11 : Int32) (M : Mem) : stepK call back (evj (lkE cd_297) [40, 43, 52, 107, 141, 144, 161, 165, 180, 186, 210] call back 4000) (.iload 7, 2, 7, 0, 0, 0, 0) 161 [some (vR 12 0 253), some (vI l1), some (vI l2), some (vI l3), some (vI l4), some (vI l5), some (vI l6), some (vI l7), some (vI l8), o9, o10, some (vI l11)] [] M =
  back 165 [some (vR 12 0 253), some (vI l1), some (vI l2), some (vI l3), some (vI l4), some (vI l5), some (vI l6), some (vI l7), some (vI l8), o9, o10, some (vI l11)] M := rfl
set_option maxRecDepth 100000 in
theorem e297_161 (d F : Nat) (l1 : Int32) (l2 : Int32) (l3 : Int32) (l4 : Int32) (l5 : Int32) (l6 : Int32) (l7 : Int32) (l8 : Int32) (o9 : Option AV) (o10 : Option AV) (l11 : Int32) (M : Mem) : lp d 297 (F + 1) 161 [some (vR 12 0 253), some (vI l1), some (vI l2), some (vI l3), some (vI l4), some (vI l5), some (vI l6), some (vI l7), some (vI l8), o9, o10, some (vI l11)] M =
  lp d 297 F 165 [some (vR 12 0 253), some (vI l1), some (vI l2), some (vI l3), some (vI l4), some (vI l5), some (vI l6), some (vI l7), some (vI l8), o9, o10, some (vI l11)] M := ((evp_step (code := lkE (codT 297)) (hd := hdT 297) (call := evD d) (F := F) (pc := 161) (lv := [some (vR 12 0 253), some (vI l1), some (vI l2), some (vI l3), some (vI l4), some (vI l5), some (vI l6), some (vI l7), some (vI l8), o9, o10, some (vI l11)]) (M := M) (e := (.iload 7, 2, 7, 0, 0, 0, 0)) rfl).trans (g297_161 (evD d) (evp (lkE (codT 297)) (hdT 297) (evD d) F) l1 l2 l3 l4 l5 l6 l7 l8 o9 o10 l11 M))
set_option maxRecDepth 100000 in
theorem g297_165 (call : Nat → List AV → Mem → Res) (back : Nat → Lv → Mem → Res) (l1 : Int32) (l2 : Int32) (l3 : Int32) (l4 : Int32) (l5 : Int32) (l6 : Int32) (l7 : Int32) (l8 : Int32) (o9 : Option AV) (o10 : Option AV) (l11 : Int32) (M : Mem) : stepK call back (evj (lkE cd_297) [40, 43, 52, 107, 141, 144, 161, 165, 180, 186, 210] call back 4000) (.iload 6, 2, 6, 0, 0, 0, 0) 165 [some (vR 12 0 253), some (vI l1), some (vI l2), some (vI l3), some (vI l4), some (vI l5), some (vI l6), some (vI l7), some (vI l8), o9, o10, some (vI l11)] [] M =
  ic (l11 = 0) (
    back 180 [some (vR 12 0 253), some (vI l1), some (vI l2), some (vI l3), some (vI l4), some (vI l5), some (vI (l6 + 0)), some (vI l7), some (vI l8), o9, o10, some (vI l11)] M) (
    back 180 [some (vR 12 0 253), some (vI l1), some (vI l2), some (vI l3), some (vI l4), some (vI l5), some (vI (l6 + 1)), some (vI l7), some (vI l8), o9, o10, some (vI l11)] M) := rfl
set_option maxRecDepth 100000 in
theorem e297_165 (d F : Nat) (l1 : Int32) (l2 : Int32) (l3 : Int32) (l4 : Int32) (l5 : Int32) (l6 : Int32) (l7 : Int32) (l8 : Int32) (o9 : Option AV) (o10 : Option AV) (l11 : Int32) (M : Mem) : lp d 297 (F + 1) 165 [some (vR 12 0 253), some (vI l1), some (vI l2), some (vI l3), some (vI l4), some (vI l5), some (vI l6), some (vI l7), some (vI l8), o9, o10, some (vI l11)] M =
  ic (l11 = 0) (
    lp d 297 F 180 [some (vR 12 0 253), some (vI l1), some (vI l2), some (vI l3), some (vI l4), some (vI l5), some (vI (l6 + 0)), some (vI l7), some (vI l8), o9, o10, some (vI l11)] M) (
    lp d 297 F 180 [some (vR 12 0 253), some (vI l1), some (vI l2), some (vI l3), some (vI l4), some (vI l5), some (vI (l6 + 1)), some (vI l7), some (vI l8), o9, o10, some (vI l11)] M) := ((evp_step (code := lkE (codT 297)) (hd := hdT 297) (call := evD d) (F := F) (pc := 165) (lv := [some (vR 12 0 253), some (vI l1), some (vI l2), some (vI l3), some (vI l4), some (vI l5), some (vI l6), some (vI l7), some (vI l8), o9, o10, some (vI l11)]) (M := M) (e := (.iload 6, 2, 6, 0, 0, 0, 0)) rfl).trans (g297_165 (evD d) (evp (lkE (codT 297)) (hdT 297) (evD d) F) l1 l2 l3 l4 l5 l6 l7 l8 o9 o10 l11 M))
set_option maxRecDepth 100000 in
theorem g297_180 (call : Nat → List AV → Mem → Res) (back : Nat → Lv → Mem → Res) (l1 : Int32) (l2 : Int32) (l3 : Int32) (l4 : Int32) (l5 : Int32) (l6 : Int32) (l7 : Int32) (l8 : Int32) (o9 : Option AV) (o10 : Option AV) (o11 : Option AV) (M : Mem) : stepK call back (evj (lkE cd_297) [40, 43, 52, 107, 141, 144, 161, 165, 180, 186, 210] call back 4000) (.iinc 8 (1), 3, 8, 0, 0, 1, 0) 180 [some (vR 12 0 253), some (vI l1), some (vI l2), some (vI l3), some (vI l4), some (vI l5), some (vI l6), some (vI l7), some (vI l8), o9, o10, o11] [] M =
  back 52 [some (vR 12 0 253), some (vI l1), some (vI l2), some (vI l3), some (vI l4), some (vI l5), some (vI l6), some (vI l7), some (vI (l8 + 1)), o9, o10, o11] M := rfl
set_option maxRecDepth 100000 in
theorem e297_180 (d F : Nat) (l1 : Int32) (l2 : Int32) (l3 : Int32) (l4 : Int32) (l5 : Int32) (l6 : Int32) (l7 : Int32) (l8 : Int32) (o9 : Option AV) (o10 : Option AV) (o11 : Option AV) (M : Mem) : lp d 297 (F + 1) 180 [some (vR 12 0 253), some (vI l1), some (vI l2), some (vI l3), some (vI l4), some (vI l5), some (vI l6), some (vI l7), some (vI l8), o9, o10, o11] M =
  lp d 297 F 52 [some (vR 12 0 253), some (vI l1), some (vI l2), some (vI l3), some (vI l4), some (vI l5), some (vI l6), some (vI l7), some (vI (l8 + 1)), o9, o10, o11] M := ((evp_step (code := lkE (codT 297)) (hd := hdT 297) (call := evD d) (F := F) (pc := 180) (lv := [some (vR 12 0 253), some (vI l1), some (vI l2), some (vI l3), some (vI l4), some (vI l5), some (vI l6), some (vI l7), some (vI l8), o9, o10, o11]) (M := M) (e := (.iinc 8 (1), 3, 8, 0, 0, 1, 0)) rfl).trans (g297_180 (evD d) (evp (lkE (codT 297)) (hdT 297) (evD d) F) l1 l2 l3 l4 l5 l6 l7 l8 o9 o10 o11 M))
-- IceParliamentModel burnsFor(IIIII)I
set_option maxRecDepth 100000 in
theorem j298 (call : Nat → List AV → Mem → Res) (back : Nat → Lv → Mem → Res) (p0 : Int32) (p1 : Int32) (p2 : Int32) (p3 : Int32) (p4 : Int32) (M : Mem) : evj (lkE cd_298) [] call back 4000 0 [some (vI p0), some (vI p1), some (vI p2), some (vI p3), some (vI p4)] [] M =
  ic (p0 = 0) (
    ic (p1 = 0) (
      some (some (vI p2), M)) (
      some (some (vI 0), M))) (
    ic (p1 = 0) (
      some (some (vI p3), M)) (
      some (some (vI (-p4)), M))) := rfl
set_option maxRecDepth 100000 in
theorem e298 (d : Nat) (p0 : Int32) (p1 : Int32) (p2 : Int32) (p3 : Int32) (p4 : Int32) (M : Mem) : evD (d + 1) 298 [vI p0, vI p1, vI p2, vI p3, vI p4] M =
  ic (p0 = 0) (
    ic (p1 = 0) (
      some (some (vI p2), M)) (
      some (some (vI 0), M))) (
    ic (p1 = 0) (
      some (some (vI p3), M)) (
      some (some (vI (-p4)), M))) := ((evD_step (d := d) (x := 298) (as := [vI p0, vI p1, vI p2, vI p3, vI p4]) (M := M) (md := (⟨"IceParliamentModel", "burnsFor", "(IIIII)I"⟩, prog_14_method_108_code, 5, (Option.some Jvm.ClassFile.FieldType.int), 12, 99)) rfl rfl).trans (j298 (evD d) (evp0 (lkE (codT 298)) (hdT 298) (evD d)) p0 p1 p2 p3 p4 M))
-- IceParliamentModel decades(III)I
set_option maxRecDepth 100000 in
theorem j299 (call : Nat → List AV → Mem → Res) (back : Nat → Lv → Mem → Res) (p0 : Int32) (p1 : Int32) (p2 : Int32) (M : Mem) : evj (lkE cd_299) [63, 103] call back 4000 0 [some (vR 12 0 253), some (vI p0), some (vI p1), some (vI p2), none, none, none, none] [] M =
  cIn (call 222 [vI p0, vI 0, vI 9999] (sI M 253 0 0)) fun v2 M1 =>
  ic (v2 = 0) (
    some (some (vI (-1)), M1)) (
    cIn (call 222 [vI p1, vI 1, vI 60] M1) fun v4 M3 =>
    ic (v4 = 0) (
      some (some (vI (-1)), M3)) (
      cIn (call 222 [vI p2, vI 0, vI 2] M3) fun v6 M5 =>
      ic (v6 = 0) (
        some (some (vI (-1)), M5)) (
        cVd (call 259 [vR 12 0 253, vI 0, vI 1078] M5) fun M7 =>
        back 63 [some (vR 12 0 253), some (vI p0), some (vI p1), some (vI p2), some (vI 0), some (vI 0), some (vI 0), some (vI 0)] (sJ M7 253 39 p0.toInt64)))) := rfl
set_option maxRecDepth 100000 in
theorem e299 (d : Nat) (p0 : Int32) (p1 : Int32) (p2 : Int32) (M : Mem) : evD (d + 1) 299 [vR 12 0 253, vI p0, vI p1, vI p2] M =
  cIn (evD d 222 [vI p0, vI 0, vI 9999] (sI M 253 0 0)) fun v2 M1 =>
  ic (v2 = 0) (
    some (some (vI (-1)), M1)) (
    cIn (evD d 222 [vI p1, vI 1, vI 60] M1) fun v4 M3 =>
    ic (v4 = 0) (
      some (some (vI (-1)), M3)) (
      cIn (evD d 222 [vI p2, vI 0, vI 2] M3) fun v6 M5 =>
      ic (v6 = 0) (
        some (some (vI (-1)), M5)) (
        cVd (evD d 259 [vR 12 0 253, vI 0, vI 1078] M5) fun M7 =>
        lp0 d 299 63 [some (vR 12 0 253), some (vI p0), some (vI p1), some (vI p2), some (vI 0), some (vI 0), some (vI 0), some (vI 0)] (sJ M7 253 39 p0.toInt64)))) := ((evD_step (d := d) (x := 299) (as := [vR 12 0 253, vI p0, vI p1, vI p2]) (M := M) (md := (⟨"IceParliamentModel", "decades", "(III)I"⟩, prog_14_method_112_code, 8, (Option.some Jvm.ClassFile.FieldType.int), 12, 12)) rfl rfl).trans (j299 (evD d) (evp0 (lkE (codT 299)) (hdT 299) (evD d)) p0 p1 p2 M))
set_option maxRecDepth 100000 in
theorem g299_63 (call : Nat → List AV → Mem → Res) (back : Nat → Lv → Mem → Res) (o1 : Option AV) (l2 : Int32) (l3 : Int32) (l4 : Int32) (l5 : Int32) (l6 : Int32) (l7 : Int32) (M : Mem) : stepK call back (evj (lkE cd_299) [63, 103] call back 4000) (.iload 7, 2, 7, 0, 0, 0, 0) 63 [some (vR 12 0 253), o1, some (vI l2), some (vI l3), some (vI l4), some (vI l5), some (vI l6), some (vI l7)] [] M =
  ic (l7 < l2) (
    cIn (call 300 [vR 12 0 253] M) fun v2 M1 =>
    cIn (call 250 [vR 12 0 253, vI 1078] M1) fun v4 M3 =>
    cIn (call 252 [vR 12 0 253, vI v4] M3) fun v6 M5 =>
    back 63 [some (vR 12 0 253), o1, some (vI l2), some (vI l3), some (vI (l4 + v6)), some (vI (l5 + v2)), some (vI l6), some (vI (l7 + 1))] M5) (
    back 103 [some (vR 12 0 253), o1, some (vI l2), some (vI l3), some (vI l4), some (vI l5), some (vI l6), some (vI 0)] M) := rfl
set_option maxRecDepth 100000 in
theorem e299_63 (d F : Nat) (o1 : Option AV) (l2 : Int32) (l3 : Int32) (l4 : Int32) (l5 : Int32) (l6 : Int32) (l7 : Int32) (M : Mem) : lp d 299 (F + 1) 63 [some (vR 12 0 253), o1, some (vI l2), some (vI l3), some (vI l4), some (vI l5), some (vI l6), some (vI l7)] M =
  ic (l7 < l2) (
    cIn (evD d 300 [vR 12 0 253] M) fun v2 M1 =>
    cIn (evD d 250 [vR 12 0 253, vI 1078] M1) fun v4 M3 =>
    cIn (evD d 252 [vR 12 0 253, vI v4] M3) fun v6 M5 =>
    lp d 299 F 63 [some (vR 12 0 253), o1, some (vI l2), some (vI l3), some (vI (l4 + v6)), some (vI (l5 + v2)), some (vI l6), some (vI (l7 + 1))] M5) (
    lp d 299 F 103 [some (vR 12 0 253), o1, some (vI l2), some (vI l3), some (vI l4), some (vI l5), some (vI l6), some (vI 0)] M) := ((evp_step (code := lkE (codT 299)) (hd := hdT 299) (call := evD d) (F := F) (pc := 63) (lv := [some (vR 12 0 253), o1, some (vI l2), some (vI l3), some (vI l4), some (vI l5), some (vI l6), some (vI l7)]) (M := M) (e := (.iload 7, 2, 7, 0, 0, 0, 0)) rfl).trans (g299_63 (evD d) (evp (lkE (codT 299)) (hdT 299) (evD d) F) o1 l2 l3 l4 l5 l6 l7 M))
set_option maxRecDepth 100000 in
theorem g299_103 (call : Nat → List AV → Mem → Res) (back : Nat → Lv → Mem → Res) (o1 : Option AV) (o2 : Option AV) (l3 : Int32) (l4 : Int32) (l5 : Int32) (l6 : Int32) (l7 : Int32) (M : Mem) : stepK call back (evj (lkE cd_299) [63, 103] call back 4000) (.iload 7, 2, 7, 0, 0, 0, 0) 103 [some (vR 12 0 253), o1, o2, some (vI l3), some (vI l4), some (vI l5), some (vI l6), some (vI l7)] [] M =
  cIn (call 248 [vR 12 0 253] M) fun v2 M1 =>
  ic (l7 < v2) (
    ic (1115 + l7 < 0 ∨ 1127 ≤ (1115 + l7).toNatClampNeg) none (
      back 103 [some (vR 12 0 253), o1, o2, some (vI l3), some (vI l4), some (vI l5), some (vI (l6 + (M1.1 269 (1115 + l7).toNatClampNeg))), some (vI (l7 + 1))] M1)) (
    ic (l3 = 0) (
      some (some (vI l4), M1)) (
      ic (l3 = 1) (
        some (some (vI l5), M1)) (
        some (some (vI l6), M1)))) := rfl
set_option maxRecDepth 100000 in
theorem e299_103 (d F : Nat) (o1 : Option AV) (o2 : Option AV) (l3 : Int32) (l4 : Int32) (l5 : Int32) (l6 : Int32) (l7 : Int32) (M : Mem) : lp d 299 (F + 1) 103 [some (vR 12 0 253), o1, o2, some (vI l3), some (vI l4), some (vI l5), some (vI l6), some (vI l7)] M =
  cIn (evD d 248 [vR 12 0 253] M) fun v2 M1 =>
  ic (l7 < v2) (
    ic (1115 + l7 < 0 ∨ 1127 ≤ (1115 + l7).toNatClampNeg) none (
      lp d 299 F 103 [some (vR 12 0 253), o1, o2, some (vI l3), some (vI l4), some (vI l5), some (vI (l6 + (M1.1 269 (1115 + l7).toNatClampNeg))), some (vI (l7 + 1))] M1)) (
    ic (l3 = 0) (
      some (some (vI l4), M1)) (
      ic (l3 = 1) (
        some (some (vI l5), M1)) (
        some (some (vI l6), M1)))) := ((evp_step (code := lkE (codT 299)) (hd := hdT 299) (call := evD d) (F := F) (pc := 103) (lv := [some (vR 12 0 253), o1, o2, some (vI l3), some (vI l4), some (vI l5), some (vI l6), some (vI l7)]) (M := M) (e := (.iload 7, 2, 7, 0, 0, 0, 0)) rfl).trans (g299_103 (evD d) (evp (lkE (codT 299)) (hdT 299) (evD d) F) o1 o2 l3 l4 l5 l6 l7 M))
-- IceParliamentModel drawsNight()I
set_option maxRecDepth 100000 in
theorem j300 (call : Nat → List AV → Mem → Res) (back : Nat → Lv → Mem → Res)  (M : Mem) : evj (lkE cd_300) [55] call back 4000 0 [some (vR 12 0 253), none, none] [] M =
  cIn (call 197 [vR 12 0 253] M) fun v2 M1 =>
  ic (0 < v2) (
    cIn (call 255 [vR 12 0 253] M1) fun v4 M3 =>
    ic (0 < v4) (
      cIn (call 197 [vR 12 0 253] M3) fun v6 M5 =>
      cIn (call 301 [vR 12 0 253, vI v6] M5) fun v8 M7 =>
      cIn (call 255 [vR 12 0 253] M7) fun v10 M9 =>
      cIn (call 301 [vR 12 0 253, vI v10] M9) fun v12 M11 =>
      cIn (call 256 [vR 12 0 253, vI 1078, vI v8, vI v12] M11) fun v14 M13 =>
      ic (v14 = 0) (
        back 55 [some (vR 12 0 253), some (vI 0), some (vI v12)] M13) (
        cVd (call 260 [vR 12 0 253, vI 1078, vI v8, vI v12] M13) fun M15 =>
        back 55 [some (vR 12 0 253), some (vI 0), some (vI v12)] M15)) (
      back 55 [some (vR 12 0 253), some (vI 0), none] M3)) (
    back 55 [some (vR 12 0 253), some (vI 0), none] M1) := rfl
set_option maxRecDepth 100000 in
theorem e300 (d : Nat)  (M : Mem) : evD (d + 1) 300 [vR 12 0 253] M =
  cIn (evD d 197 [vR 12 0 253] M) fun v2 M1 =>
  ic (0 < v2) (
    cIn (evD d 255 [vR 12 0 253] M1) fun v4 M3 =>
    ic (0 < v4) (
      cIn (evD d 197 [vR 12 0 253] M3) fun v6 M5 =>
      cIn (evD d 301 [vR 12 0 253, vI v6] M5) fun v8 M7 =>
      cIn (evD d 255 [vR 12 0 253] M7) fun v10 M9 =>
      cIn (evD d 301 [vR 12 0 253, vI v10] M9) fun v12 M11 =>
      cIn (evD d 256 [vR 12 0 253, vI 1078, vI v8, vI v12] M11) fun v14 M13 =>
      ic (v14 = 0) (
        lp0 d 300 55 [some (vR 12 0 253), some (vI 0), some (vI v12)] M13) (
        cVd (evD d 260 [vR 12 0 253, vI 1078, vI v8, vI v12] M13) fun M15 =>
        lp0 d 300 55 [some (vR 12 0 253), some (vI 0), some (vI v12)] M15)) (
      lp0 d 300 55 [some (vR 12 0 253), some (vI 0), none] M3)) (
    lp0 d 300 55 [some (vR 12 0 253), some (vI 0), none] M1) := ((evD_step (d := d) (x := 300) (as := [vR 12 0 253]) (M := M) (md := (⟨"IceParliamentModel", "drawsNight", "()I"⟩, prog_14_method_111_code, 3, (Option.some Jvm.ClassFile.FieldType.int), 12, 12)) rfl rfl).trans (j300 (evD d) (evp0 (lkE (codT 300)) (hdT 300) (evD d))  M))
set_option maxRecDepth 100000 in
theorem g300_55 (call : Nat → List AV → Mem → Res) (back : Nat → Lv → Mem → Res) (l1 : Int32) (o2 : Option AV) (M : Mem) : stepK call back (evj (lkE cd_300) [55] call back 4000) (.iload_n 1, 1, 1, 0, 0, 0, 0) 55 [some (vR 12 0 253), some (vI l1), o2] [] M =
  cIn (call 248 [vR 12 0 253] M) fun v2 M1 =>
  ic (l1 < v2) (
    cIn (call 197 [vR 12 0 253] M1) fun v10 M9 =>
    ic (0 < v10) (
      cIn (call 197 [vR 12 0 253] M9) fun v18 M17 =>
      cIn (call 301 [vR 12 0 253, vI v18] M17) fun v20 M19 =>
      cIn (call 262 [vR 12 0 253, vI 1078, vI l1, vI v20] M19) fun v22 M21 =>
      ic (v22 = 0) (
        back 55 [some (vR 12 0 253), some (vI (l1 + 1)), some (vI v20)] M21) (
        cIn (call 263 [vR 12 0 253, vI 1078, vI l1, vI v20] M21) fun v24 M23 =>
        back 55 [some (vR 12 0 253), some (vI (l1 + 1)), some (vI v20)] M23)) (
      cIn (call 301 [vR 12 0 253, vI 10] M9) fun v12 M11 =>
      ic ((5 : Int32) < 0 ∨ 220 ≤ (5 : Int32).toNatClampNeg) none (
        ic (v12 < M11.1 259 (5 : Int32).toNatClampNeg) (
          cIn (call 269 [vR 12 0 253, vI 1078, vI 1] M11) fun v16 M15 =>
          some (some (vI v16), M15)) (
          cIn (call 269 [vR 12 0 253, vI 1078, vI 0] M11) fun v14 M13 =>
          some (some (vI v14), M13))))) (
    cIn (call 301 [vR 12 0 253, vI 10] M1) fun v4 M3 =>
    ic ((5 : Int32) < 0 ∨ 220 ≤ (5 : Int32).toNatClampNeg) none (
      ic (v4 < M3.1 259 (5 : Int32).toNatClampNeg) (
        cIn (call 269 [vR 12 0 253, vI 1078, vI 1] M3) fun v8 M7 =>
        some (some (vI v8), M7)) (
        cIn (call 269 [vR 12 0 253, vI 1078, vI 0] M3) fun v6 M5 =>
        some (some (vI v6), M5)))) := rfl
set_option maxRecDepth 100000 in
theorem e300_55 (d F : Nat) (l1 : Int32) (o2 : Option AV) (M : Mem) : lp d 300 (F + 1) 55 [some (vR 12 0 253), some (vI l1), o2] M =
  cIn (evD d 248 [vR 12 0 253] M) fun v2 M1 =>
  ic (l1 < v2) (
    cIn (evD d 197 [vR 12 0 253] M1) fun v10 M9 =>
    ic (0 < v10) (
      cIn (evD d 197 [vR 12 0 253] M9) fun v18 M17 =>
      cIn (evD d 301 [vR 12 0 253, vI v18] M17) fun v20 M19 =>
      cIn (evD d 262 [vR 12 0 253, vI 1078, vI l1, vI v20] M19) fun v22 M21 =>
      ic (v22 = 0) (
        lp d 300 F 55 [some (vR 12 0 253), some (vI (l1 + 1)), some (vI v20)] M21) (
        cIn (evD d 263 [vR 12 0 253, vI 1078, vI l1, vI v20] M21) fun v24 M23 =>
        lp d 300 F 55 [some (vR 12 0 253), some (vI (l1 + 1)), some (vI v20)] M23)) (
      cIn (evD d 301 [vR 12 0 253, vI 10] M9) fun v12 M11 =>
      ic (v12 < M11.1 259 5) (
        cIn (evD d 269 [vR 12 0 253, vI 1078, vI 1] M11) fun v16 M15 =>
        some (some (vI v16), M15)) (
        cIn (evD d 269 [vR 12 0 253, vI 1078, vI 0] M11) fun v14 M13 =>
        some (some (vI v14), M13)))) (
    cIn (evD d 301 [vR 12 0 253, vI 10] M1) fun v4 M3 =>
    ic (v4 < M3.1 259 5) (
      cIn (evD d 269 [vR 12 0 253, vI 1078, vI 1] M3) fun v8 M7 =>
      some (some (vI v8), M7)) (
      cIn (evD d 269 [vR 12 0 253, vI 1078, vI 0] M3) fun v6 M5 =>
      some (some (vI v6), M5))) := ((evp_step (code := lkE (codT 300)) (hd := hdT 300) (call := evD d) (F := F) (pc := 55) (lv := [some (vR 12 0 253), some (vI l1), o2]) (M := M) (e := (.iload_n 1, 1, 1, 0, 0, 0, 0)) rfl).trans (g300_55 (evD d) (evp (lkE (codT 300)) (hdT 300) (evD d) F) l1 o2 M)).trans (by (try simp only [ic_f (show ¬ ((5 : Int32) < 0 ∨ 220 ≤ (5 : Int32).toNatClampNeg) by decide)]); (try simp only [show (5 : Int32).toNatClampNeg = 5 from rfl]))
-- IceParliamentModel draw(I)I
set_option maxRecDepth 100000 in
theorem j301 (call : Nat → List AV → Mem → Res) (back : Nat → Lv → Mem → Res) (p0 : Int32) (M : Mem) : evj (lkE cd_301) [] call back 4000 0 [some (vR 12 0 253), some (vI p0)] [] M =
  ic ((2147483648 : Int64) = 0) none (
    ic ((65536 : Int64) = 0) none (
      ic (p0.toInt64 = 0) none (
        some (some (vI (((((sJ M 253 39 ((((M.2.1 253 39) * 1103515245) + 12345) - (((M.2.1 253 39) * 1103515245) + 12345) / 2147483648 * 2147483648)).2.1 253 39) / 65536) - (((sJ M 253 39 ((((M.2.1 253 39) * 1103515245) + 12345) - (((M.2.1 253 39) * 1103515245) + 12345) / 2147483648 * 2147483648)).2.1 253 39) / 65536) / p0.toInt64 * p0.toInt64).toInt32)), sJ M 253 39 ((((M.2.1 253 39) * 1103515245) + 12345) - (((M.2.1 253 39) * 1103515245) + 12345) / 2147483648 * 2147483648))))) := rfl
set_option maxRecDepth 100000 in
theorem e301 (d : Nat) (p0 : Int32) (M : Mem) : evD (d + 1) 301 [vR 12 0 253, vI p0] M =
  ic (p0.toInt64 = 0) none (
    some (some (vI (((((sJ M 253 39 ((((M.2.1 253 39) * 1103515245) + 12345) - (((M.2.1 253 39) * 1103515245) + 12345) / 2147483648 * 2147483648)).2.1 253 39) / 65536) - (((sJ M 253 39 ((((M.2.1 253 39) * 1103515245) + 12345) - (((M.2.1 253 39) * 1103515245) + 12345) / 2147483648 * 2147483648)).2.1 253 39) / 65536) / p0.toInt64 * p0.toInt64).toInt32)), sJ M 253 39 ((((M.2.1 253 39) * 1103515245) + 12345) - (((M.2.1 253 39) * 1103515245) + 12345) / 2147483648 * 2147483648))) := ((evD_step (d := d) (x := 301) (as := [vR 12 0 253, vI p0]) (M := M) (md := (⟨"IceParliamentModel", "draw", "(I)I"⟩, prog_14_method_110_code, 2, (Option.some Jvm.ClassFile.FieldType.int), 12, 12)) rfl rfl).trans (j301 (evD d) (evp0 (lkE (codT 301)) (hdT 301) (evD d)) p0 M)).trans (by (try simp only [ic_f (show ¬ ((2147483648 : Int64) = 0) by decide), ic_f (show ¬ ((65536 : Int64) = 0) by decide)]))
-- IceParliamentModel mark(IZ)Z
set_option maxRecDepth 100000 in
theorem j302 (call : Nat → List AV → Mem → Res) (back : Nat → Lv → Mem → Res) (p0 : Int32) (p1 : Int32) (M : Mem) : evj (lkE cd_302) [27, 29, 68, 84] call back 4000 0 [some (vR 12 0 253), some (vI p0), some (vI p1)] [] M =
  cIn (call 222 [vI p0, vI 0, vI 3] (sI M 253 0 0)) fun v2 M1 =>
  ic (v2 = 0) (
    back 27 [some (vR 12 0 253), some (vI p0), some (vI p1)] M1) (
    ic (p1 = 0) (
      back 29 [some (vR 12 0 253), some (vI p0), some (vI p1)] M1) (
      ic (p0 < 0 ∨ 4 ≤ p0.toNatClampNeg) none (
        ic (M1.1 270 p0.toNatClampNeg = 0) (
          back 27 [some (vR 12 0 253), some (vI p0), some (vI p1)] M1) (
          back 29 [some (vR 12 0 253), some (vI p0), some (vI p1)] M1)))) := rfl
set_option maxRecDepth 100000 in
theorem e302 (d : Nat) (p0 : Int32) (p1 : Int32) (M : Mem) : evD (d + 1) 302 [vR 12 0 253, vI p0, vI p1] M =
  cIn (evD d 222 [vI p0, vI 0, vI 3] (sI M 253 0 0)) fun v2 M1 =>
  ic (v2 = 0) (
    lp0 d 302 27 [some (vR 12 0 253), some (vI p0), some (vI p1)] M1) (
    ic (p1 = 0) (
      lp0 d 302 29 [some (vR 12 0 253), some (vI p0), some (vI p1)] M1) (
      ic (p0 < 0 ∨ 4 ≤ p0.toNatClampNeg) none (
        ic (M1.1 270 p0.toNatClampNeg = 0) (
          lp0 d 302 27 [some (vR 12 0 253), some (vI p0), some (vI p1)] M1) (
          lp0 d 302 29 [some (vR 12 0 253), some (vI p0), some (vI p1)] M1)))) := ((evD_step (d := d) (x := 302) (as := [vR 12 0 253, vI p0, vI p1]) (M := M) (md := (⟨"IceParliamentModel", "mark", "(IZ)Z"⟩, prog_14_method_113_code, 3, (Option.some Jvm.ClassFile.FieldType.boolean), 12, 12)) rfl rfl).trans (j302 (evD d) (evp0 (lkE (codT 302)) (hdT 302) (evD d)) p0 p1 M))
set_option maxRecDepth 100000 in
theorem g302_27 (call : Nat → List AV → Mem → Res) (back : Nat → Lv → Mem → Res) (o0 : Option AV) (o1 : Option AV) (o2 : Option AV) (M : Mem) : stepK call back (evj (lkE cd_302) [27, 29, 68, 84] call back 4000) (.iconst 0, 1, 0, 0, 0, 0, 0) 27 [o0, o1, o2] [] M =
  ic ((0 : Int32) &&& 1 = 0) (
    some (some (vI 0), M)) none := rfl
set_option maxRecDepth 100000 in
theorem e302_27 (d F : Nat) (o0 : Option AV) (o1 : Option AV) (o2 : Option AV) (M : Mem) : lp d 302 (F + 1) 27 [o0, o1, o2] M =
  some (some (vI 0), M) := ((evp_step (code := lkE (codT 302)) (hd := hdT 302) (call := evD d) (F := F) (pc := 27) (lv := [o0, o1, o2]) (M := M) (e := (.iconst 0, 1, 0, 0, 0, 0, 0)) rfl).trans (g302_27 (evD d) (evp (lkE (codT 302)) (hdT 302) (evD d) F) o0 o1 o2 M)).trans (by (try simp only [ic_t (show (0 : Int32) &&& 1 = 0 by decide)]))
set_option maxRecDepth 100000 in
theorem g302_29 (call : Nat → List AV → Mem → Res) (back : Nat → Lv → Mem → Res) (l1 : Int32) (l2 : Int32) (M : Mem) : stepK call back (evj (lkE cd_302) [27, 29, 68, 84] call back 4000) (.aload_n 0, 1, 0, 0, 0, 0, 0) 29 [some (vR 12 0 253), some (vI l1), some (vI l2)] [] M =
  ic (l1 < 0 ∨ 4 ≤ l1.toNatClampNeg) none (
    ic (l2 = 0) (
      ic (l2 = 0) (
        cVd (call 259 [vR 12 0 253, vI 0, vI (49 * (1 + l1))] (sI M 270 l1.toNatClampNeg (vp_nar .boolean 1))) fun M1 =>
        back 68 [some (vR 12 0 253), some (vI l1), some (vI l2)] M1) (
        cVd (call 259 [vR 12 0 253, vI 0, vI 0] (sI M 270 l1.toNatClampNeg (vp_nar .boolean 1))) fun M2 =>
        back 68 [some (vR 12 0 253), some (vI l1), some (vI l2)] M2)) (
      ic (l2 = 0) (
        cVd (call 259 [vR 12 0 253, vI (49 * (1 + l1)), vI (49 * (1 + l1))] (sI M 270 l1.toNatClampNeg (vp_nar .boolean 1))) fun M3 =>
        back 68 [some (vR 12 0 253), some (vI l1), some (vI l2)] M3) (
        cVd (call 259 [vR 12 0 253, vI (49 * (1 + l1)), vI 0] (sI M 270 l1.toNatClampNeg (vp_nar .boolean 1))) fun M4 =>
        back 68 [some (vR 12 0 253), some (vI l1), some (vI l2)] M4))) := rfl
set_option maxRecDepth 100000 in
theorem e302_29 (d F : Nat) (l1 : Int32) (l2 : Int32) (M : Mem) : lp d 302 (F + 1) 29 [some (vR 12 0 253), some (vI l1), some (vI l2)] M =
  ic (l1 < 0 ∨ 4 ≤ l1.toNatClampNeg) none (
    ic (l2 = 0) (
      ic (l2 = 0) (
        cVd (evD d 259 [vR 12 0 253, vI 0, vI (49 * (1 + l1))] (sI M 270 l1.toNatClampNeg (vp_nar .boolean 1))) fun M1 =>
        lp d 302 F 68 [some (vR 12 0 253), some (vI l1), some (vI l2)] M1) (
        cVd (evD d 259 [vR 12 0 253, vI 0, vI 0] (sI M 270 l1.toNatClampNeg (vp_nar .boolean 1))) fun M2 =>
        lp d 302 F 68 [some (vR 12 0 253), some (vI l1), some (vI l2)] M2)) (
      ic (l2 = 0) (
        cVd (evD d 259 [vR 12 0 253, vI (49 * (1 + l1)), vI (49 * (1 + l1))] (sI M 270 l1.toNatClampNeg (vp_nar .boolean 1))) fun M3 =>
        lp d 302 F 68 [some (vR 12 0 253), some (vI l1), some (vI l2)] M3) (
        cVd (evD d 259 [vR 12 0 253, vI (49 * (1 + l1)), vI 0] (sI M 270 l1.toNatClampNeg (vp_nar .boolean 1))) fun M4 =>
        lp d 302 F 68 [some (vR 12 0 253), some (vI l1), some (vI l2)] M4))) := ((evp_step (code := lkE (codT 302)) (hd := hdT 302) (call := evD d) (F := F) (pc := 29) (lv := [some (vR 12 0 253), some (vI l1), some (vI l2)]) (M := M) (e := (.aload_n 0, 1, 0, 0, 0, 0, 0)) rfl).trans (g302_29 (evD d) (evp (lkE (codT 302)) (hdT 302) (evD d) F) l1 l2 M))
set_option maxRecDepth 100000 in
theorem g302_68 (call : Nat → List AV → Mem → Res) (back : Nat → Lv → Mem → Res) (o1 : Option AV) (l2 : Int32) (M : Mem) : stepK call back (evj (lkE cd_302) [27, 29, 68, 84] call back 4000) (.aload_n 0, 1, 0, 0, 0, 0, 0) 68 [some (vR 12 0 253), o1, some (vI l2)] [] M =
  ic (l2 = 0) (
    back 84 [some (vR 12 0 253), o1, some (vI l2)] (sI M 253 26 (M.1 253 26))) (
    back 84 [some (vR 12 0 253), o1, some (vI l2)] (sI M 253 26 0)) := rfl
set_option maxRecDepth 100000 in
theorem e302_68 (d F : Nat) (o1 : Option AV) (l2 : Int32) (M : Mem) : lp d 302 (F + 1) 68 [some (vR 12 0 253), o1, some (vI l2)] M =
  ic (l2 = 0) (
    lp d 302 F 84 [some (vR 12 0 253), o1, some (vI l2)] (sI M 253 26 (M.1 253 26))) (
    lp d 302 F 84 [some (vR 12 0 253), o1, some (vI l2)] (sI M 253 26 0)) := ((evp_step (code := lkE (codT 302)) (hd := hdT 302) (call := evD d) (F := F) (pc := 68) (lv := [some (vR 12 0 253), o1, some (vI l2)]) (M := M) (e := (.aload_n 0, 1, 0, 0, 0, 0, 0)) rfl).trans (g302_68 (evD d) (evp (lkE (codT 302)) (hdT 302) (evD d) F) o1 l2 M))
set_option maxRecDepth 100000 in
theorem g302_84 (call : Nat → List AV → Mem → Res) (back : Nat → Lv → Mem → Res) (o0 : Option AV) (o1 : Option AV) (o2 : Option AV) (M : Mem) : stepK call back (evj (lkE cd_302) [27, 29, 68, 84] call back 4000) (.iconst 1, 1, 0, 0, 0, 1, 0) 84 [o0, o1, o2] [] M =
  ic ((1 : Int32) &&& 1 = 1) (
    some (some (vI 1), M)) none := rfl
set_option maxRecDepth 100000 in
theorem e302_84 (d F : Nat) (o0 : Option AV) (o1 : Option AV) (o2 : Option AV) (M : Mem) : lp d 302 (F + 1) 84 [o0, o1, o2] M =
  some (some (vI 1), M) := ((evp_step (code := lkE (codT 302)) (hd := hdT 302) (call := evD d) (F := F) (pc := 84) (lv := [o0, o1, o2]) (M := M) (e := (.iconst 1, 1, 0, 0, 0, 1, 0)) rfl).trans (g302_84 (evD d) (evp (lkE (codT 302)) (hdT 302) (evD d) F) o0 o1 o2 M)).trans (by (try simp only [ic_t (show (1 : Int32) &&& 1 = 1 by decide)]))
-- IceParliamentModel count(I)I
set_option maxRecDepth 100000 in
theorem j303 (call : Nat → List AV → Mem → Res) (back : Nat → Lv → Mem → Res) (p0 : Int32) (M : Mem) : evj (lkE cd_303) [] call back 4000 0 [some (vR 12 0 253), some (vI p0)] [] M =
  ic (p0 = Int32.ofInt (0)) (
    ic (p0 < 0 ∨ 220 ≤ p0.toNatClampNeg) none (
      some (some (vI ((sI M 253 0 0).1 259 p0.toNatClampNeg)), sI M 253 0 0))) (
    ic (p0 = Int32.ofInt (1)) (
      ic (p0 < 0 ∨ 220 ≤ p0.toNatClampNeg) none (
        some (some (vI ((sI M 253 0 0).1 259 p0.toNatClampNeg)), sI M 253 0 0))) (
      ic (p0 = Int32.ofInt (2)) (
        ic (p0 < 0 ∨ 220 ≤ p0.toNatClampNeg) none (
          some (some (vI ((sI M 253 0 0).1 259 p0.toNatClampNeg)), sI M 253 0 0))) (
        ic (p0 = Int32.ofInt (3)) (
          ic (p0 < 0 ∨ 220 ≤ p0.toNatClampNeg) none (
            some (some (vI ((sI M 253 0 0).1 259 p0.toNatClampNeg)), sI M 253 0 0))) (
          ic (p0 = Int32.ofInt (4)) (
            ic ((0 : Int32) < 0 ∨ 1127 ≤ (0 : Int32).toNatClampNeg) none (
              some (some (vI ((sI M 253 0 0).1 269 (0 : Int32).toNatClampNeg)), sI M 253 0 0))) (
            ic (p0 = Int32.ofInt (5)) (
              ic ((0 : Int32) < 0 ∨ 1127 ≤ (0 : Int32).toNatClampNeg) none (
                cIn (call 243 [vR 12 0 253, vI ((sI M 253 0 0).1 269 (0 : Int32).toNatClampNeg), vI 0] (sI M 253 0 0)) fun v2 M1 =>
                some (some (vI v2), M1))) (
              ic (p0 = Int32.ofInt (6)) (
                cIn (call 304 [vR 12 0 253, vI 1] (sI M 253 0 0)) fun v4 M3 =>
                some (some (vI v4), M3)) (
                ic (p0 = Int32.ofInt (7)) (
                  cIn (call 304 [vR 12 0 253, vI 2] (sI M 253 0 0)) fun v6 M5 =>
                  some (some (vI v6), M5)) (
                  ic (p0 = Int32.ofInt (8)) (
                    cIn (call 250 [vR 12 0 253, vI 0] (sI M 253 0 0)) fun v8 M7 =>
                    cIn (call 252 [vR 12 0 253, vI v8] M7) fun v10 M9 =>
                    some (some (vI v10), M9)) (
                    ic (p0 = Int32.ofInt (9)) (
                      ic ((0 : Int32) < 0 ∨ 250 ≤ (0 : Int32).toNatClampNeg) none (
                        some (some (vI ((sI M 253 0 0).1 266 (0 : Int32).toNatClampNeg)), sI M 253 0 0))) (
                      ic (p0 = Int32.ofInt (10)) (
                        cIn (call 305 [vR 12 0 253] (sI M 253 0 0)) fun v12 M11 =>
                        some (some (vI v12), M11)) (
                        ic (p0 = Int32.ofInt (11)) (
                          some (some (vI ((sI M 253 0 0).1 253 26)), sI M 253 0 0)) (
                          ic (p0 = Int32.ofInt (12)) (
                            some (some (vI ((sI M 253 0 0).1 253 2)), sI M 253 0 0)) (
                            some (some (vI (-1)), sI M 253 0 0)))))))))))))) := rfl
set_option maxRecDepth 100000 in
theorem e303 (d : Nat) (p0 : Int32) (M : Mem) : evD (d + 1) 303 [vR 12 0 253, vI p0] M =
  ic (p0 = Int32.ofInt (0)) (
    ic (p0 < 0 ∨ 220 ≤ p0.toNatClampNeg) none (
      some (some (vI ((sI M 253 0 0).1 259 p0.toNatClampNeg)), sI M 253 0 0))) (
    ic (p0 = Int32.ofInt (1)) (
      ic (p0 < 0 ∨ 220 ≤ p0.toNatClampNeg) none (
        some (some (vI ((sI M 253 0 0).1 259 p0.toNatClampNeg)), sI M 253 0 0))) (
      ic (p0 = Int32.ofInt (2)) (
        ic (p0 < 0 ∨ 220 ≤ p0.toNatClampNeg) none (
          some (some (vI ((sI M 253 0 0).1 259 p0.toNatClampNeg)), sI M 253 0 0))) (
        ic (p0 = Int32.ofInt (3)) (
          ic (p0 < 0 ∨ 220 ≤ p0.toNatClampNeg) none (
            some (some (vI ((sI M 253 0 0).1 259 p0.toNatClampNeg)), sI M 253 0 0))) (
          ic (p0 = Int32.ofInt (4)) (
            some (some (vI ((sI M 253 0 0).1 269 0)), sI M 253 0 0)) (
            ic (p0 = Int32.ofInt (5)) (
              cIn (evD d 243 [vR 12 0 253, vI ((sI M 253 0 0).1 269 0), vI 0] (sI M 253 0 0)) fun v2 M1 =>
              some (some (vI v2), M1)) (
              ic (p0 = Int32.ofInt (6)) (
                cIn (evD d 304 [vR 12 0 253, vI 1] (sI M 253 0 0)) fun v4 M3 =>
                some (some (vI v4), M3)) (
                ic (p0 = Int32.ofInt (7)) (
                  cIn (evD d 304 [vR 12 0 253, vI 2] (sI M 253 0 0)) fun v6 M5 =>
                  some (some (vI v6), M5)) (
                  ic (p0 = Int32.ofInt (8)) (
                    cIn (evD d 250 [vR 12 0 253, vI 0] (sI M 253 0 0)) fun v8 M7 =>
                    cIn (evD d 252 [vR 12 0 253, vI v8] M7) fun v10 M9 =>
                    some (some (vI v10), M9)) (
                    ic (p0 = Int32.ofInt (9)) (
                      some (some (vI ((sI M 253 0 0).1 266 0)), sI M 253 0 0)) (
                      ic (p0 = Int32.ofInt (10)) (
                        cIn (evD d 305 [vR 12 0 253] (sI M 253 0 0)) fun v12 M11 =>
                        some (some (vI v12), M11)) (
                        ic (p0 = Int32.ofInt (11)) (
                          some (some (vI ((sI M 253 0 0).1 253 26)), sI M 253 0 0)) (
                          ic (p0 = Int32.ofInt (12)) (
                            some (some (vI ((sI M 253 0 0).1 253 2)), sI M 253 0 0)) (
                            some (some (vI (-1)), sI M 253 0 0)))))))))))))) := ((evD_step (d := d) (x := 303) (as := [vR 12 0 253, vI p0]) (M := M) (md := (⟨"IceParliamentModel", "count", "(I)I"⟩, prog_14_method_116_code, 2, (Option.some Jvm.ClassFile.FieldType.int), 12, 12)) rfl rfl).trans (j303 (evD d) (evp0 (lkE (codT 303)) (hdT 303) (evD d)) p0 M)).trans (by (try simp only [ic_f (show ¬ ((0 : Int32) < 0 ∨ 1127 ≤ (0 : Int32).toNatClampNeg) by decide), ic_f (show ¬ ((0 : Int32) < 0 ∨ 250 ≤ (0 : Int32).toNatClampNeg) by decide)]); (try simp only [show (0 : Int32).toNatClampNeg = 0 from rfl]))
-- IceParliamentModel howMany(I)I
set_option maxRecDepth 100000 in
theorem j304 (call : Nat → List AV → Mem → Res) (back : Nat → Lv → Mem → Res) (p0 : Int32) (M : Mem) : evj (lkE cd_304) [4] call back 4000 0 [some (vR 12 0 253), some (vI p0), none, none] [] M =
  back 4 [some (vR 12 0 253), some (vI p0), some (vI 0), some (vI 0)] M := rfl
set_option maxRecDepth 100000 in
theorem e304 (d : Nat) (p0 : Int32) (M : Mem) : evD (d + 1) 304 [vR 12 0 253, vI p0] M =
  lp0 d 304 4 [some (vR 12 0 253), some (vI p0), some (vI 0), some (vI 0)] M := ((evD_step (d := d) (x := 304) (as := [vR 12 0 253, vI p0]) (M := M) (md := (⟨"IceParliamentModel", "howMany", "(I)I"⟩, prog_14_method_114_code, 4, (Option.some Jvm.ClassFile.FieldType.int), 12, 12)) rfl rfl).trans (j304 (evD d) (evp0 (lkE (codT 304)) (hdT 304) (evD d)) p0 M))
set_option maxRecDepth 100000 in
theorem g304_4 (call : Nat → List AV → Mem → Res) (back : Nat → Lv → Mem → Res) (l1 : Int32) (l2 : Int32) (l3 : Int32) (M : Mem) : stepK call back (evj (lkE cd_304) [4] call back 4000) (.iload_n 3, 1, 3, 0, 0, 0, 0) 4 [some (vR 12 0 253), some (vI l1), some (vI l2), some (vI l3)] [] M =
  cIn (call 197 [vR 12 0 253] M) fun v2 M1 =>
  ic (l3 < v2) (
    ic (1 + l3 < 0 ∨ 1127 ≤ (1 + l3).toNatClampNeg) none (
      ic (M1.1 269 (1 + l3).toNatClampNeg = l1) (
        back 4 [some (vR 12 0 253), some (vI l1), some (vI (l2 ||| (1 <<< (l3 &&& 31)))), some (vI (l3 + 1))] M1) (
        back 4 [some (vR 12 0 253), some (vI l1), some (vI (l2 ||| 0)), some (vI (l3 + 1))] M1))) (
    some (some (vI l2), M1)) := rfl
set_option maxRecDepth 100000 in
theorem e304_4 (d F : Nat) (l1 : Int32) (l2 : Int32) (l3 : Int32) (M : Mem) : lp d 304 (F + 1) 4 [some (vR 12 0 253), some (vI l1), some (vI l2), some (vI l3)] M =
  cIn (evD d 197 [vR 12 0 253] M) fun v2 M1 =>
  ic (l3 < v2) (
    ic (1 + l3 < 0 ∨ 1127 ≤ (1 + l3).toNatClampNeg) none (
      ic (M1.1 269 (1 + l3).toNatClampNeg = l1) (
        lp d 304 F 4 [some (vR 12 0 253), some (vI l1), some (vI (l2 ||| (1 <<< (l3 &&& 31)))), some (vI (l3 + 1))] M1) (
        lp d 304 F 4 [some (vR 12 0 253), some (vI l1), some (vI (l2 ||| 0)), some (vI (l3 + 1))] M1))) (
    some (some (vI l2), M1)) := ((evp_step (code := lkE (codT 304)) (hd := hdT 304) (call := evD d) (F := F) (pc := 4) (lv := [some (vR 12 0 253), some (vI l1), some (vI l2), some (vI l3)]) (M := M) (e := (.iload_n 3, 1, 3, 0, 0, 0, 0)) rfl).trans (g304_4 (evD d) (evp (lkE (codT 304)) (hdT 304) (evD d) F) l1 l2 l3 M))
-- IceParliamentModel toldMany()I
set_option maxRecDepth 100000 in
theorem j305 (call : Nat → List AV → Mem → Res) (back : Nat → Lv → Mem → Res)  (M : Mem) : evj (lkE cd_305) [4] call back 4000 0 [some (vR 12 0 253), none, none] [] M =
  back 4 [some (vR 12 0 253), some (vI 0), some (vI 0)] M := rfl
set_option maxRecDepth 100000 in
theorem e305 (d : Nat)  (M : Mem) : evD (d + 1) 305 [vR 12 0 253] M =
  lp0 d 305 4 [some (vR 12 0 253), some (vI 0), some (vI 0)] M := ((evD_step (d := d) (x := 305) (as := [vR 12 0 253]) (M := M) (md := (⟨"IceParliamentModel", "toldMany", "()I"⟩, prog_14_method_115_code, 3, (Option.some Jvm.ClassFile.FieldType.int), 12, 12)) rfl rfl).trans (j305 (evD d) (evp0 (lkE (codT 305)) (hdT 305) (evD d))  M))
set_option maxRecDepth 100000 in
theorem g305_4 (call : Nat → List AV → Mem → Res) (back : Nat → Lv → Mem → Res) (l1 : Int32) (l2 : Int32) (M : Mem) : stepK call back (evj (lkE cd_305) [4] call back 4000) (.iload_n 2, 1, 2, 0, 0, 0, 0) 4 [some (vR 12 0 253), some (vI l1), some (vI l2)] [] M =
  cIn (call 197 [vR 12 0 253] M) fun v2 M1 =>
  ic (l2 < v2) (
    ic (43 + l2 < 0 ∨ 1127 ≤ (43 + l2).toNatClampNeg) none (
      ic (M1.1 269 (43 + l2).toNatClampNeg < 0) (
        back 4 [some (vR 12 0 253), some (vI (l1 + 0)), some (vI (l2 + 1))] M1) (
        back 4 [some (vR 12 0 253), some (vI (l1 + 1)), some (vI (l2 + 1))] M1))) (
    some (some (vI l1), M1)) := rfl
set_option maxRecDepth 100000 in
theorem e305_4 (d F : Nat) (l1 : Int32) (l2 : Int32) (M : Mem) : lp d 305 (F + 1) 4 [some (vR 12 0 253), some (vI l1), some (vI l2)] M =
  cIn (evD d 197 [vR 12 0 253] M) fun v2 M1 =>
  ic (l2 < v2) (
    ic (43 + l2 < 0 ∨ 1127 ≤ (43 + l2).toNatClampNeg) none (
      ic (M1.1 269 (43 + l2).toNatClampNeg < 0) (
        lp d 305 F 4 [some (vR 12 0 253), some (vI (l1 + 0)), some (vI (l2 + 1))] M1) (
        lp d 305 F 4 [some (vR 12 0 253), some (vI (l1 + 1)), some (vI (l2 + 1))] M1))) (
    some (some (vI l1), M1)) := ((evp_step (code := lkE (codT 305)) (hd := hdT 305) (call := evD d) (F := F) (pc := 4) (lv := [some (vR 12 0 253), some (vI l1), some (vI l2)]) (M := M) (e := (.iload_n 2, 1, 2, 0, 0, 0, 0)) rfl).trans (g305_4 (evD d) (evp (lkE (codT 305)) (hdT 305) (evD d) F) l1 l2 M))
