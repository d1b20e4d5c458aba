/-! THE CONSTRUCTOR of the reference, by a program (gen98e.py) -/
section NMOD
variable {M M' : Mem} {Z Z' : Zs}
set_option maxRecDepth 20000 in
set_option maxHeartbeats 4000000 in
theorem c_Model (fz : Fz 253 M Z) (hm : Mz 253 M) (hX : XF M) : ∃ M' Z', CNt ⟨"IceParliamentModel", "<init>", "()V"⟩ prog_14_method_4_code 1 4 24 11298 [vR 12 0 253] 254 M Z 278 M' Z' ∧ PZ 253 278 Z Z' ∧ Fr (fun c _ => 253 ≤ c ∧ c ≤ 277) M M' ∧ Inv 0 M' := by
  have hq : QZ 253 [] 254 Z Z := QZ.start
  have wj0 : WJ 0 M M := WJ.start
  have hqa := hq.arr fz (show WF[254]? = some (20, 1000, 254) from rfl) (by decide)
  obtain ⟨Z1, eZ1⟩ : ∃ Z1, Z1 = uZ Z 253 1 := ⟨_, rfl⟩
  have hqZ1 := hqa.put eZ1
  have hqZ1a := hqZ1.arr fz (show WF[255]? = some (20, 1002, 255) from rfl) (by decide)
  obtain ⟨Z2, eZ2⟩ : ∃ Z2, Z2 = uZ Z1 253 4 := ⟨_, rfl⟩
  have hqZ2 := hqZ1a.put eZ2
  have hqZ2a := hqZ2.arr fz (show WF[256]? = some (20, 1002, 256) from rfl) (by decide)
  obtain ⟨Z3, eZ3⟩ : ∃ Z3, Z3 = uZ Z2 253 5 := ⟨_, rfl⟩
  have hqZ3 := hqZ2a.put eZ3
  have hqZ3a := hqZ3.arr fz (show WF[257]? = some (23, 1002, 257) from rfl) (by decide)
  obtain ⟨Z4, eZ4⟩ : ∃ Z4, Z4 = uZ Z3 253 6 := ⟨_, rfl⟩
  have hqZ4 := hqZ3a.put eZ4
  have hqZ4a := hqZ4.arr fz (show WF[258]? = some (23, 33, 258) from rfl) (by decide)
  obtain ⟨M1, eM1⟩ : ∃ X, X = sJ M 258 0 984886 := ⟨_, rfl⟩
  have wj1 := wj0.put eM1 (by decide +kernel)
  obtain ⟨M2, eM2⟩ : ∃ X, X = sJ M1 258 1 36015805 := ⟨_, rfl⟩
  have wj2 := wj1.put eM2 (by decide +kernel)
  obtain ⟨M3, eM3⟩ : ∃ X, X = sJ M2 258 2 210848107 := ⟨_, rfl⟩
  have wj3 := wj2.put eM3 (by decide +kernel)
  obtain ⟨M4, eM4⟩ : ∃ X, X = sJ M3 258 3 36179019 := ⟨_, rfl⟩
  have wj4 := wj3.put eM4 (by decide +kernel)
  obtain ⟨M5, eM5⟩ : ∃ X, X = sJ M4 258 4 1500 := ⟨_, rfl⟩
  have wj5 := wj4.put eM5 (by decide +kernel)
  obtain ⟨M6, eM6⟩ : ∃ X, X = sJ M5 258 5 310968 := ⟨_, rfl⟩
  have wj6 := wj5.put eM6 (by decide +kernel)
  obtain ⟨M7, eM7⟩ : ∃ X, X = sJ M6 258 6 6040639 := ⟨_, rfl⟩
  have wj7 := wj6.put eM7 (by decide +kernel)
  obtain ⟨M8, eM8⟩ : ∃ X, X = sJ M7 258 7 43890888 := ⟨_, rfl⟩
  have wj8 := wj7.put eM8 (by decide +kernel)
  obtain ⟨M9, eM9⟩ : ∃ X, X = sJ M8 258 8 99 := ⟨_, rfl⟩
  have wj9 := wj8.put eM9 (by decide +kernel)
  obtain ⟨M10, eM10⟩ : ∃ X, X = sJ M9 258 9 6232399 := ⟨_, rfl⟩
  have wj10 := wj9.put eM10 (by decide +kernel)
  obtain ⟨M11, eM11⟩ : ∃ X, X = sJ M10 258 10 988049129 := ⟨_, rfl⟩
  have wj11 := wj10.put eM11 (by decide +kernel)
  obtain ⟨M12, eM12⟩ : ∃ X, X = sJ M11 258 11 671258 := ⟨_, rfl⟩
  have wj12 := wj11.put eM12 (by decide +kernel)
  obtain ⟨M13, eM13⟩ : ∃ X, X = sJ M12 258 12 24634545 := ⟨_, rfl⟩
  have wj13 := wj12.put eM13 (by decide +kernel)
  obtain ⟨M14, eM14⟩ : ∃ X, X = sJ M13 258 13 210848108 := ⟨_, rfl⟩
  have wj14 := wj13.put eM14 (by decide +kernel)
  obtain ⟨M15, eM15⟩ : ∃ X, X = sJ M14 258 14 4011517 := ⟨_, rfl⟩
  have wj15 := wj14.put eM15 (by decide +kernel)
  obtain ⟨M16, eM16⟩ : ∃ X, X = sJ M15 258 15 5698597 := ⟨_, rfl⟩
  have wj16 := wj15.put eM16 (by decide +kernel)
  obtain ⟨M17, eM17⟩ : ∃ X, X = sJ M16 258 16 835661 := ⟨_, rfl⟩
  have wj17 := wj16.put eM17 (by decide +kernel)
  obtain ⟨M18, eM18⟩ : ∃ X, X = sJ M17 258 17 38267776 := ⟨_, rfl⟩
  have wj18 := wj17.put eM18 (by decide +kernel)
  obtain ⟨M19, eM19⟩ : ∃ X, X = sJ M18 258 18 26704030 := ⟨_, rfl⟩
  have wj19 := wj18.put eM19 (by decide +kernel)
  obtain ⟨M20, eM20⟩ : ∃ X, X = sJ M19 258 19 85082 := ⟨_, rfl⟩
  have wj20 := wj19.put eM20 (by decide +kernel)
  obtain ⟨M21, eM21⟩ : ∃ X, X = sJ M20 258 20 729881 := ⟨_, rfl⟩
  have wj21 := wj20.put eM21 (by decide +kernel)
  obtain ⟨M22, eM22⟩ : ∃ X, X = sJ M21 258 21 30596128 := ⟨_, rfl⟩
  have wj22 := wj21.put eM22 (by decide +kernel)
  obtain ⟨M23, eM23⟩ : ∃ X, X = sJ M22 258 22 583488913 := ⟨_, rfl⟩
  have wj23 := wj22.put eM23 (by decide +kernel)
  obtain ⟨M24, eM24⟩ : ∃ X, X = sJ M23 258 23 1024359 := ⟨_, rfl⟩
  have wj24 := wj23.put eM24 (by decide +kernel)
  obtain ⟨M25, eM25⟩ : ∃ X, X = sJ M24 258 24 20983 := ⟨_, rfl⟩
  have wj25 := wj24.put eM25 (by decide +kernel)
  obtain ⟨M26, eM26⟩ : ∃ X, X = sJ M25 258 25 19741 := ⟨_, rfl⟩
  have wj26 := wj25.put eM26 (by decide +kernel)
  obtain ⟨M27, eM27⟩ : ∃ X, X = sJ M26 258 26 1891 := ⟨_, rfl⟩
  have wj27 := wj26.put eM27 (by decide +kernel)
  obtain ⟨M28, eM28⟩ : ∃ X, X = sJ M27 258 27 573 := ⟨_, rfl⟩
  have wj28 := wj27.put eM28 (by decide +kernel)
  obtain ⟨M29, eM29⟩ : ∃ X, X = sJ M28 258 28 1597715471 := ⟨_, rfl⟩
  have wj29 := wj28.put eM29 (by decide +kernel)
  obtain ⟨M30, eM30⟩ : ∃ X, X = sJ M29 258 29 204658 := ⟨_, rfl⟩
  have wj30 := wj29.put eM30 (by decide +kernel)
  obtain ⟨M31, eM31⟩ : ∃ X, X = sJ M30 258 30 1014885 := ⟨_, rfl⟩
  have wj31 := wj30.put eM31 (by decide +kernel)
  obtain ⟨M32, eM32⟩ : ∃ X, X = sJ M31 258 31 53840 := ⟨_, rfl⟩
  have wj32 := wj31.put eM32 (by decide +kernel)
  obtain ⟨M33, eM33⟩ : ∃ X, X = sJ M32 258 32 223670 := ⟨_, rfl⟩
  have wj33 := wj32.put eM33 (by decide +kernel)
  obtain ⟨Z5, eZ5⟩ : ∃ Z5, Z5 = uZ Z4 253 9 := ⟨_, rfl⟩
  have hqZ5 := hqZ4a.put eZ5
  have hqZ5a := hqZ5.arr fz (show WF[259]? = some (20, 220, 259) from rfl) (by decide)
  obtain ⟨Z6, eZ6⟩ : ∃ Z6, Z6 = uZ Z5 253 10 := ⟨_, rfl⟩
  have hqZ6 := hqZ5a.put eZ6
  have hqZ6a := hqZ6.arr fz (show WF[260]? = some (20, 2200, 260) from rfl) (by decide)
  obtain ⟨Z7, eZ7⟩ : ∃ Z7, Z7 = uZ Z6 253 11 := ⟨_, rfl⟩
  have hqZ7 := hqZ6a.put eZ7
  have hqZ7a := hqZ7.arr fz (show WF[261]? = some (20, 2200, 261) from rfl) (by decide)
  obtain ⟨Z8, eZ8⟩ : ∃ Z8, Z8 = uZ Z7 253 12 := ⟨_, rfl⟩
  have hqZ8 := hqZ7a.put eZ8
  have hqZ8a := hqZ8.arr fz (show WF[262]? = some (23, 18, 262) from rfl) (by decide)
  obtain ⟨Z9, eZ9⟩ : ∃ Z9, Z9 = uZ Z8 253 14 := ⟨_, rfl⟩
  have hqZ9 := hqZ8a.put eZ9
  have hqZ9a := hqZ9.arr fz (show WF[263]? = some (23, 18, 263) from rfl) (by decide)
  obtain ⟨Z10, eZ10⟩ : ∃ Z10, Z10 = uZ Z9 253 15 := ⟨_, rfl⟩
  have hqZ10 := hqZ9a.put eZ10
  have hqZ10a := hqZ10.arr fz (show WF[264]? = some (20, 18, 264) from rfl) (by decide)
  obtain ⟨Z11, eZ11⟩ : ∃ Z11, Z11 = uZ Z10 253 16 := ⟨_, rfl⟩
  have hqZ11 := hqZ10a.put eZ11
  have hqZ11a := hqZ11.arr fz (show WF[265]? = some (20, 18, 265) from rfl) (by decide)
  obtain ⟨Z12, eZ12⟩ : ∃ Z12, Z12 = uZ Z11 253 17 := ⟨_, rfl⟩
  have hqZ12 := hqZ11a.put eZ12
  have hqZ12a := hqZ12.arr fz (show WF[266]? = some (20, 250, 266) from rfl) (by decide)
  obtain ⟨Z13, eZ13⟩ : ∃ Z13, Z13 = uZ Z12 253 22 := ⟨_, rfl⟩
  have hqZ13 := hqZ12a.put eZ13
  have hqZ13a := hqZ13.arr fz (show WF[267]? = some (20, 5, 267) from rfl) (by decide)
  obtain ⟨Z14, eZ14⟩ : ∃ Z14, Z14 = uZ Z13 253 23 := ⟨_, rfl⟩
  have hqZ14 := hqZ13a.put eZ14
  have hqZ14a := hqZ14.arr fz (show WF[268]? = some (20, 1100, 268) from rfl) (by decide)
  obtain ⟨Z15, eZ15⟩ : ∃ Z15, Z15 = uZ Z14 253 24 := ⟨_, rfl⟩
  have hqZ15 := hqZ14a.put eZ15
  have hqZ15a := hqZ15.arr fz (show WF[269]? = some (20, 1127, 269) from rfl) (by decide)
  obtain ⟨Z16, eZ16⟩ : ∃ Z16, Z16 = uZ Z15 253 25 := ⟨_, rfl⟩
  have hqZ16 := hqZ15a.put eZ16
  have hqZ16a := hqZ16.arr fz (show WF[270]? = some (22, 4, 270) from rfl) (by decide)
  obtain ⟨Z17, eZ17⟩ : ∃ Z17, Z17 = uZ Z16 253 27 := ⟨_, rfl⟩
  have hqZ17 := hqZ16a.put eZ17
  have hqZ17a := hqZ17.arr fz (show WF[271]? = some (20, 4, 271) from rfl) (by decide)
  obtain ⟨Z18, eZ18⟩ : ∃ Z18, Z18 = uZ Z17 253 28 := ⟨_, rfl⟩
  have hqZ18 := hqZ17a.put eZ18
  have hqZ18a := hqZ18.arr fz (show WF[272]? = some (20, 4, 272) from rfl) (by decide)
  obtain ⟨Z19, eZ19⟩ : ∃ Z19, Z19 = uZ Z18 253 29 := ⟨_, rfl⟩
  have hqZ19 := hqZ18a.put eZ19
  have hqZ19a := hqZ19.arr fz (show WF[273]? = some (20, 4, 273) from rfl) (by decide)
  obtain ⟨Z20, eZ20⟩ : ∃ Z20, Z20 = uZ Z19 253 30 := ⟨_, rfl⟩
  have hqZ20 := hqZ19a.put eZ20
  have hqZ20a := hqZ20.arr fz (show WF[274]? = some (20, 36, 274) from rfl) (by decide)
  obtain ⟨Z21, eZ21⟩ : ∃ Z21, Z21 = uZ Z20 253 33 := ⟨_, rfl⟩
  have hqZ21 := hqZ20a.put eZ21
  have hqZ21a := hqZ21.arr fz (show WF[275]? = some (20, 6, 275) from rfl) (by decide)
  obtain ⟨Z22, eZ22⟩ : ∃ Z22, Z22 = uZ Z21 253 34 := ⟨_, rfl⟩
  have hqZ22 := hqZ21a.put eZ22
  have hqZ22a := hqZ22.arr fz (show WF[276]? = some (20, 6, 276) from rfl) (by decide)
  obtain ⟨Z23, eZ23⟩ : ∃ Z23, Z23 = uZ Z22 253 35 := ⟨_, rfl⟩
  have hqZ23 := hqZ22a.put eZ23
  have hqZ23a := hqZ23.arr fz (show WF[277]? = some (20, 21, 277) from rfl) (by decide)
  obtain ⟨Z24, eZ24⟩ : ∃ Z24, Z24 = uZ Z23 253 38 := ⟨_, rfl⟩
  have hqZ24 := hqZ23a.put eZ24
  have pz := hqZ24.fin fz (show WF[253]? = some (12, 0, 253) from rfl) (by decide)
  obtain ⟨a1, MA, ev1, ha1, fr1, w1⟩ := sp194 (d := 0) (M := M33) (b := 0) (B := Int32.ofNat 0) rfl (by omega)
  subst ha1
  have yr := hX.yr (M' := MA) (fun j hj => by have := w1 j hj; rw [Nat.zero_add] at this; exact this)
  obtain ⟨a2, MB, ev2, ha2, sr, h266, h253, h270, fr2⟩ := sp195 (d := 0) (Y := M.1) (M := MA) yr (hX.yd.ok D0_1 D0_2).1
  subst ha2
  have fM : Fr (fun c _ => 253 ≤ c ∧ c ≤ 277) M MB := ((wj33.2.up (fun c j z => by omega)).tr (fr1.up (fun c j z => by omega))).tr (fr2.up (fun c j z => by unfold BGr at z; omega))
  refine ⟨MB, Z24, CNt_of (own := "IceParliamentModel") (by decide) rfl rfl (Nat.le_of_ble_eq_true rfl) (fun B => Nat.le_add_right B _) ?_, pz, fM, inv_of hX fM (ri_of (P := fun _ _ _ => 0) (K := fun _ _ _ => 0) (ln := fun _ _ => 0) (tp := fun _ => 0) hX hm wj33 fr1 yr sr h266 h253 h270 fr2)⟩
  intro p l e s m args below meth c dC dI cA ρ B ls cx sx hsz hl
  have hls : ls.size = 1 := by obtain ⟨l0, h0, -⟩ := hl; exact h0.1
  refine n_ald cx hl (i := 0) (k3 := 0) (t := 12) (k := 253) (pc := 0) rfl rfl (by omega) (by decide +kernel) ?_
  refine n_obj (k := 253) (index := 18) cx hl (in_t7 (List.mem_of_getElem? (i := 54) rfl) rfl) (in_t1 (List.mem_of_getElem? (i := 33) rfl) rfl) (in_t1 (List.mem_of_getElem? (i := 34) rfl) rfl) ⟨Nat.le_of_ble_eq_true rfl, Nat.le_of_ble_eq_true rfl⟩ (by decide) (pc := 1) (by decide +kernel) ?_
  refine n_ald cx hl (i := 0) (k3 := 0) (t := 12) (k := 253) (pc := 4) rfl rfl (by omega) (by decide +kernel) ?_
  refine lv_sipush cx.1.1 cx.1.2.1 (n := 1000) (v := Int32.ofNat 1000) (pc := 5) (by decide +kernel) (by decide) ?_
  refine n_newa (t := 20) (N := 1000) (n := 254) (aty := .int) (ty := .int) (index := 0) rfl (by omega) rfl (.inl ⟨rfl, rfl⟩) cx sx (hq.fz fz hm) (show WF[254]? = some (20, 1000, 254) from rfl) (in_t1 (List.mem_of_getElem? (i := 124) rfl) rfl) (Nat.le_of_ble_eq_true rfl) (Nat.le_of_ble_eq_true rfl) (pc := 8) (by decide +kernel) (fun H1 sx => ?_)
  refine n_putF (t := 12) (k := 253) (j := 1) (index := 14) cx sx (by omega) (by decide) (show WF[253]? = some (12, 0, 253) from rfl) (by decide) rfl (by rw [show (fp 12 1 253).2.2 = 254 from rfl, cx.2.2.2.2.2.2.2.2.1 254 (by omega)]) rfl (in_t7 (List.mem_of_getElem? (i := 109) rfl) rfl) rfl rfl (fun _ => rfl) (fun _ => rfl) (pc := 10) (by decide +kernel) (fun H1 locs1 sx => ?_)
  rw [← eZ1] at sx
  refine n_ald cx hl (i := 0) (k3 := 0) (t := 12) (k := 253) (pc := 13) rfl rfl (by omega) (by decide +kernel) ?_
  refine lv_sipush cx.1.1 cx.1.2.1 (n := 1002) (v := Int32.ofNat 1002) (pc := 14) (by decide +kernel) (by decide) ?_
  refine n_newa (t := 20) (N := 1002) (n := 255) (aty := .int) (ty := .int) (index := 0) rfl (by omega) rfl (.inl ⟨rfl, rfl⟩) cx sx (hqZ1.fz fz hm) (show WF[255]? = some (20, 1002, 255) from rfl) (in_t1 (List.mem_of_getElem? (i := 124) rfl) rfl) (Nat.le_of_ble_eq_true rfl) (Nat.le_of_ble_eq_true rfl) (pc := 17) (by decide +kernel) (fun H1 sx => ?_)
  refine n_putF (t := 12) (k := 253) (j := 4) (index := 24) cx sx (by omega) (by decide) (show WF[253]? = some (12, 0, 253) from rfl) (by decide) rfl (by rw [show (fp 12 4 253).2.2 = 255 from rfl, cx.2.2.2.2.2.2.2.2.1 255 (by omega)]) rfl (in_t7 (List.mem_of_getElem? (i := 112) rfl) rfl) rfl rfl (fun _ => rfl) (fun _ => rfl) (pc := 19) (by decide +kernel) (fun H1 locs1 sx => ?_)
  rw [← eZ2] at sx
  refine n_ald cx hl (i := 0) (k3 := 0) (t := 12) (k := 253) (pc := 22) rfl rfl (by omega) (by decide +kernel) ?_
  refine lv_sipush cx.1.1 cx.1.2.1 (n := 1002) (v := Int32.ofNat 1002) (pc := 23) (by decide +kernel) (by decide) ?_
  refine n_newa (t := 20) (N := 1002) (n := 256) (aty := .int) (ty := .int) (index := 0) rfl (by omega) rfl (.inl ⟨rfl, rfl⟩) cx sx (hqZ2.fz fz hm) (show WF[256]? = some (20, 1002, 256) from rfl) (in_t1 (List.mem_of_getElem? (i := 124) rfl) rfl) (Nat.le_of_ble_eq_true rfl) (Nat.le_of_ble_eq_true rfl) (pc := 26) (by decide +kernel) (fun H1 sx => ?_)
  refine n_putF (t := 12) (k := 253) (j := 5) (index := 27) cx sx (by omega) (by decide) (show WF[253]? = some (12, 0, 253) from rfl) (by decide) rfl (by rw [show (fp 12 5 253).2.2 = 256 from rfl, cx.2.2.2.2.2.2.2.2.1 256 (by omega)]) rfl (in_t7 (List.mem_of_getElem? (i := 113) rfl) rfl) rfl rfl (fun _ => rfl) (fun _ => rfl) (pc := 28) (by decide +kernel) (fun H1 locs1 sx => ?_)
  rw [← eZ3] at sx
  refine n_ald cx hl (i := 0) (k3 := 0) (t := 12) (k := 253) (pc := 31) rfl rfl (by omega) (by decide +kernel) ?_
  refine lv_sipush cx.1.1 cx.1.2.1 (n := 1002) (v := Int32.ofNat 1002) (pc := 32) (by decide +kernel) (by decide) ?_
  refine n_newa (t := 23) (N := 1002) (n := 257) (aty := .long) (ty := .long) (index := 0) rfl (by omega) rfl (.inr (.inr (.inr ⟨rfl, rfl⟩))) cx sx (hqZ3.fz fz hm) (show WF[257]? = some (23, 1002, 257) from rfl) (in_t1 (List.mem_of_getElem? (i := 103) rfl) rfl) (Nat.le_of_ble_eq_true rfl) (Nat.le_of_ble_eq_true rfl) (pc := 35) (by decide +kernel) (fun H1 sx => ?_)
  refine n_putF (t := 12) (k := 253) (j := 6) (index := 30) cx sx (by omega) (by decide) (show WF[253]? = some (12, 0, 253) from rfl) (by decide) rfl (by rw [show (fp 12 6 253).2.2 = 257 from rfl, cx.2.2.2.2.2.2.2.2.1 257 (by omega)]) rfl (in_t7 (List.mem_of_getElem? (i := 114) rfl) rfl) rfl rfl (fun _ => rfl) (fun _ => rfl) (pc := 37) (by decide +kernel) (fun H1 locs1 sx => ?_)
  rw [← eZ4] at sx
  refine n_ald cx hl (i := 0) (k3 := 0) (t := 12) (k := 253) (pc := 40) rfl rfl (by omega) (by decide +kernel) ?_
  refine lv_bipush cx.1.1 cx.1.2.1 (n := 33) (v := Int32.ofNat 33) (pc := 41) (by decide +kernel) (by decide) ?_
  refine n_newa (t := 23) (N := 33) (n := 258) (aty := .long) (ty := .long) (index := 0) rfl (by omega) rfl (.inr (.inr (.inr ⟨rfl, rfl⟩))) cx sx (hqZ4.fz fz hm) (show WF[258]? = some (23, 33, 258) from rfl) (in_t1 (List.mem_of_getElem? (i := 103) rfl) rfl) (Nat.le_of_ble_eq_true rfl) (Nat.le_of_ble_eq_true rfl) (pc := 43) (by decide +kernel) (fun H1 sx => ?_)
  refine lv_dup cx.1.1 cx.1.2.1 (pc := 45) (by decide +kernel) rfl ?_
  refine lv_iconst cx.1.1 cx.1.2.1 (n := 0) (v := Int32.ofNat 0) (pc := 46) (by decide +kernel) (by decide) ?_
  refine lv_ldc2 cx.1.1 cx.1.2.1 (own := "IceParliamentModel") (index := 34) (v := 984886) cx.1.2.2.2.1 (cx.1.2.2.2.2 _ (in_t7 (List.mem_of_getElem? (i := 55) rfl) rfl)) (pc := 47) (by decide +kernel) ?_
  refine n_last (k := 258) (N := 33) (i := 0) (x := 984886) rfl (by decide) (by decide) cx sx (by decide) (show WF[258]? = some (23, 33, 258) from rfl) (pc := 50) (by decide +kernel) (fun H1 locs1 sx => ?_)
  rw [← eM1] at sx
  refine lv_dup cx.1.1 cx.1.2.1 (pc := 51) (by decide +kernel) rfl ?_
  refine lv_iconst cx.1.1 cx.1.2.1 (n := 1) (v := Int32.ofNat 1) (pc := 52) (by decide +kernel) (by decide) ?_
  refine lv_ldc2 cx.1.1 cx.1.2.1 (own := "IceParliamentModel") (index := 36) (v := 36015805) cx.1.2.2.2.1 (cx.1.2.2.2.2 _ (in_t7 (List.mem_of_getElem? (i := 56) rfl) rfl)) (pc := 53) (by decide +kernel) ?_
  refine n_last (k := 258) (N := 33) (i := 1) (x := 36015805) rfl (by decide) (by decide) cx sx (by decide) (show WF[258]? = some (23, 33, 258) from rfl) (pc := 56) (by decide +kernel) (fun H1 locs1 sx => ?_)
  rw [← eM2] at sx
  refine lv_dup cx.1.1 cx.1.2.1 (pc := 57) (by decide +kernel) rfl ?_
  refine lv_iconst cx.1.1 cx.1.2.1 (n := 2) (v := Int32.ofNat 2) (pc := 58) (by decide +kernel) (by decide) ?_
  refine lv_ldc2 cx.1.1 cx.1.2.1 (own := "IceParliamentModel") (index := 38) (v := 210848107) cx.1.2.2.2.1 (cx.1.2.2.2.2 _ (in_t7 (List.mem_of_getElem? (i := 57) rfl) rfl)) (pc := 59) (by decide +kernel) ?_
  refine n_last (k := 258) (N := 33) (i := 2) (x := 210848107) rfl (by decide) (by decide) cx sx (by decide) (show WF[258]? = some (23, 33, 258) from rfl) (pc := 62) (by decide +kernel) (fun H1 locs1 sx => ?_)
  rw [← eM3] at sx
  refine lv_dup cx.1.1 cx.1.2.1 (pc := 63) (by decide +kernel) rfl ?_
  refine lv_iconst cx.1.1 cx.1.2.1 (n := 3) (v := Int32.ofNat 3) (pc := 64) (by decide +kernel) (by decide) ?_
  refine lv_ldc2 cx.1.1 cx.1.2.1 (own := "IceParliamentModel") (index := 40) (v := 36179019) cx.1.2.2.2.1 (cx.1.2.2.2.2 _ (in_t7 (List.mem_of_getElem? (i := 58) rfl) rfl)) (pc := 65) (by decide +kernel) ?_
  refine n_last (k := 258) (N := 33) (i := 3) (x := 36179019) rfl (by decide) (by decide) cx sx (by decide) (show WF[258]? = some (23, 33, 258) from rfl) (pc := 68) (by decide +kernel) (fun H1 locs1 sx => ?_)
  rw [← eM4] at sx
  refine lv_dup cx.1.1 cx.1.2.1 (pc := 69) (by decide +kernel) rfl ?_
  refine lv_iconst cx.1.1 cx.1.2.1 (n := 4) (v := Int32.ofNat 4) (pc := 70) (by decide +kernel) (by decide) ?_
  refine lv_ldc2 cx.1.1 cx.1.2.1 (own := "IceParliamentModel") (index := 42) (v := 1500) cx.1.2.2.2.1 (cx.1.2.2.2.2 _ (in_t7 (List.mem_of_getElem? (i := 59) rfl) rfl)) (pc := 71) (by decide +kernel) ?_
  refine n_last (k := 258) (N := 33) (i := 4) (x := 1500) rfl (by decide) (by decide) cx sx (by decide) (show WF[258]? = some (23, 33, 258) from rfl) (pc := 74) (by decide +kernel) (fun H1 locs1 sx => ?_)
  rw [← eM5] at sx
  refine lv_dup cx.1.1 cx.1.2.1 (pc := 75) (by decide +kernel) rfl ?_
  refine lv_iconst cx.1.1 cx.1.2.1 (n := 5) (v := Int32.ofNat 5) (pc := 76) (by decide +kernel) (by decide) ?_
  refine lv_ldc2 cx.1.1 cx.1.2.1 (own := "IceParliamentModel") (index := 44) (v := 310968) cx.1.2.2.2.1 (cx.1.2.2.2.2 _ (in_t7 (List.mem_of_getElem? (i := 60) rfl) rfl)) (pc := 77) (by decide +kernel) ?_
  refine n_last (k := 258) (N := 33) (i := 5) (x := 310968) rfl (by decide) (by decide) cx sx (by decide) (show WF[258]? = some (23, 33, 258) from rfl) (pc := 80) (by decide +kernel) (fun H1 locs1 sx => ?_)
  rw [← eM6] at sx
  refine lv_dup cx.1.1 cx.1.2.1 (pc := 81) (by decide +kernel) rfl ?_
  refine lv_bipush cx.1.1 cx.1.2.1 (n := 6) (v := Int32.ofNat 6) (pc := 82) (by decide +kernel) (by decide) ?_
  refine lv_ldc2 cx.1.1 cx.1.2.1 (own := "IceParliamentModel") (index := 46) (v := 6040639) cx.1.2.2.2.1 (cx.1.2.2.2.2 _ (in_t7 (List.mem_of_getElem? (i := 61) rfl) rfl)) (pc := 84) (by decide +kernel) ?_
  refine n_last (k := 258) (N := 33) (i := 6) (x := 6040639) rfl (by decide) (by decide) cx sx (by decide) (show WF[258]? = some (23, 33, 258) from rfl) (pc := 87) (by decide +kernel) (fun H1 locs1 sx => ?_)
  rw [← eM7] at sx
  refine lv_dup cx.1.1 cx.1.2.1 (pc := 88) (by decide +kernel) rfl ?_
  refine lv_bipush cx.1.1 cx.1.2.1 (n := 7) (v := Int32.ofNat 7) (pc := 89) (by decide +kernel) (by decide) ?_
  refine lv_ldc2 cx.1.1 cx.1.2.1 (own := "IceParliamentModel") (index := 48) (v := 43890888) cx.1.2.2.2.1 (cx.1.2.2.2.2 _ (in_t7 (List.mem_of_getElem? (i := 62) rfl) rfl)) (pc := 91) (by decide +kernel) ?_
  refine n_last (k := 258) (N := 33) (i := 7) (x := 43890888) rfl (by decide) (by decide) cx sx (by decide) (show WF[258]? = some (23, 33, 258) from rfl) (pc := 94) (by decide +kernel) (fun H1 locs1 sx => ?_)
  rw [← eM8] at sx
  refine lv_dup cx.1.1 cx.1.2.1 (pc := 95) (by decide +kernel) rfl ?_
  refine lv_bipush cx.1.1 cx.1.2.1 (n := 8) (v := Int32.ofNat 8) (pc := 96) (by decide +kernel) (by decide) ?_
  refine lv_ldc2 cx.1.1 cx.1.2.1 (own := "IceParliamentModel") (index := 50) (v := 99) cx.1.2.2.2.1 (cx.1.2.2.2.2 _ (in_t7 (List.mem_of_getElem? (i := 63) rfl) rfl)) (pc := 98) (by decide +kernel) ?_
  refine n_last (k := 258) (N := 33) (i := 8) (x := 99) rfl (by decide) (by decide) cx sx (by decide) (show WF[258]? = some (23, 33, 258) from rfl) (pc := 101) (by decide +kernel) (fun H1 locs1 sx => ?_)
  rw [← eM9] at sx
  refine lv_dup cx.1.1 cx.1.2.1 (pc := 102) (by decide +kernel) rfl ?_
  refine lv_bipush cx.1.1 cx.1.2.1 (n := 9) (v := Int32.ofNat 9) (pc := 103) (by decide +kernel) (by decide) ?_
  refine lv_ldc2 cx.1.1 cx.1.2.1 (own := "IceParliamentModel") (index := 52) (v := 6232399) cx.1.2.2.2.1 (cx.1.2.2.2.2 _ (in_t7 (List.mem_of_getElem? (i := 64) rfl) rfl)) (pc := 105) (by decide +kernel) ?_
  refine n_last (k := 258) (N := 33) (i := 9) (x := 6232399) rfl (by decide) (by decide) cx sx (by decide) (show WF[258]? = some (23, 33, 258) from rfl) (pc := 108) (by decide +kernel) (fun H1 locs1 sx => ?_)
  rw [← eM10] at sx
  refine lv_dup cx.1.1 cx.1.2.1 (pc := 109) (by decide +kernel) rfl ?_
  refine lv_bipush cx.1.1 cx.1.2.1 (n := 10) (v := Int32.ofNat 10) (pc := 110) (by decide +kernel) (by decide) ?_
  refine lv_ldc2 cx.1.1 cx.1.2.1 (own := "IceParliamentModel") (index := 54) (v := 988049129) cx.1.2.2.2.1 (cx.1.2.2.2.2 _ (in_t7 (List.mem_of_getElem? (i := 65) rfl) rfl)) (pc := 112) (by decide +kernel) ?_
  refine n_last (k := 258) (N := 33) (i := 10) (x := 988049129) rfl (by decide) (by decide) cx sx (by decide) (show WF[258]? = some (23, 33, 258) from rfl) (pc := 115) (by decide +kernel) (fun H1 locs1 sx => ?_)
  rw [← eM11] at sx
  refine lv_dup cx.1.1 cx.1.2.1 (pc := 116) (by decide +kernel) rfl ?_
  refine lv_bipush cx.1.1 cx.1.2.1 (n := 11) (v := Int32.ofNat 11) (pc := 117) (by decide +kernel) (by decide) ?_
  refine lv_ldc2 cx.1.1 cx.1.2.1 (own := "IceParliamentModel") (index := 56) (v := 671258) cx.1.2.2.2.1 (cx.1.2.2.2.2 _ (in_t7 (List.mem_of_getElem? (i := 66) rfl) rfl)) (pc := 119) (by decide +kernel) ?_
  refine n_last (k := 258) (N := 33) (i := 11) (x := 671258) rfl (by decide) (by decide) cx sx (by decide) (show WF[258]? = some (23, 33, 258) from rfl) (pc := 122) (by decide +kernel) (fun H1 locs1 sx => ?_)
  rw [← eM12] at sx
  refine lv_dup cx.1.1 cx.1.2.1 (pc := 123) (by decide +kernel) rfl ?_
  refine lv_bipush cx.1.1 cx.1.2.1 (n := 12) (v := Int32.ofNat 12) (pc := 124) (by decide +kernel) (by decide) ?_
  refine lv_ldc2 cx.1.1 cx.1.2.1 (own := "IceParliamentModel") (index := 58) (v := 24634545) cx.1.2.2.2.1 (cx.1.2.2.2.2 _ (in_t7 (List.mem_of_getElem? (i := 67) rfl) rfl)) (pc := 126) (by decide +kernel) ?_
  refine n_last (k := 258) (N := 33) (i := 12) (x := 24634545) rfl (by decide) (by decide) cx sx (by decide) (show WF[258]? = some (23, 33, 258) from rfl) (pc := 129) (by decide +kernel) (fun H1 locs1 sx => ?_)
  rw [← eM13] at sx
  refine lv_dup cx.1.1 cx.1.2.1 (pc := 130) (by decide +kernel) rfl ?_
  refine lv_bipush cx.1.1 cx.1.2.1 (n := 13) (v := Int32.ofNat 13) (pc := 131) (by decide +kernel) (by decide) ?_
  refine lv_ldc2 cx.1.1 cx.1.2.1 (own := "IceParliamentModel") (index := 60) (v := 210848108) cx.1.2.2.2.1 (cx.1.2.2.2.2 _ (in_t7 (List.mem_of_getElem? (i := 68) rfl) rfl)) (pc := 133) (by decide +kernel) ?_
  refine n_last (k := 258) (N := 33) (i := 13) (x := 210848108) rfl (by decide) (by decide) cx sx (by decide) (show WF[258]? = some (23, 33, 258) from rfl) (pc := 136) (by decide +kernel) (fun H1 locs1 sx => ?_)
  rw [← eM14] at sx
  refine lv_dup cx.1.1 cx.1.2.1 (pc := 137) (by decide +kernel) rfl ?_
  refine lv_bipush cx.1.1 cx.1.2.1 (n := 14) (v := Int32.ofNat 14) (pc := 138) (by decide +kernel) (by decide) ?_
  refine lv_ldc2 cx.1.1 cx.1.2.1 (own := "IceParliamentModel") (index := 62) (v := 4011517) cx.1.2.2.2.1 (cx.1.2.2.2.2 _ (in_t7 (List.mem_of_getElem? (i := 69) rfl) rfl)) (pc := 140) (by decide +kernel) ?_
  refine n_last (k := 258) (N := 33) (i := 14) (x := 4011517) rfl (by decide) (by decide) cx sx (by decide) (show WF[258]? = some (23, 33, 258) from rfl) (pc := 143) (by decide +kernel) (fun H1 locs1 sx => ?_)
  rw [← eM15] at sx
  refine lv_dup cx.1.1 cx.1.2.1 (pc := 144) (by decide +kernel) rfl ?_
  refine lv_bipush cx.1.1 cx.1.2.1 (n := 15) (v := Int32.ofNat 15) (pc := 145) (by decide +kernel) (by decide) ?_
  refine lv_ldc2 cx.1.1 cx.1.2.1 (own := "IceParliamentModel") (index := 64) (v := 5698597) cx.1.2.2.2.1 (cx.1.2.2.2.2 _ (in_t7 (List.mem_of_getElem? (i := 70) rfl) rfl)) (pc := 147) (by decide +kernel) ?_
  refine n_last (k := 258) (N := 33) (i := 15) (x := 5698597) rfl (by decide) (by decide) cx sx (by decide) (show WF[258]? = some (23, 33, 258) from rfl) (pc := 150) (by decide +kernel) (fun H1 locs1 sx => ?_)
  rw [← eM16] at sx
  refine lv_dup cx.1.1 cx.1.2.1 (pc := 151) (by decide +kernel) rfl ?_
  refine lv_bipush cx.1.1 cx.1.2.1 (n := 16) (v := Int32.ofNat 16) (pc := 152) (by decide +kernel) (by decide) ?_
  refine lv_ldc2 cx.1.1 cx.1.2.1 (own := "IceParliamentModel") (index := 66) (v := 835661) cx.1.2.2.2.1 (cx.1.2.2.2.2 _ (in_t7 (List.mem_of_getElem? (i := 71) rfl) rfl)) (pc := 154) (by decide +kernel) ?_
  refine n_last (k := 258) (N := 33) (i := 16) (x := 835661) rfl (by decide) (by decide) cx sx (by decide) (show WF[258]? = some (23, 33, 258) from rfl) (pc := 157) (by decide +kernel) (fun H1 locs1 sx => ?_)
  rw [← eM17] at sx
  refine lv_dup cx.1.1 cx.1.2.1 (pc := 158) (by decide +kernel) rfl ?_
  refine lv_bipush cx.1.1 cx.1.2.1 (n := 17) (v := Int32.ofNat 17) (pc := 159) (by decide +kernel) (by decide) ?_
  refine lv_ldc2 cx.1.1 cx.1.2.1 (own := "IceParliamentModel") (index := 68) (v := 38267776) cx.1.2.2.2.1 (cx.1.2.2.2.2 _ (in_t7 (List.mem_of_getElem? (i := 72) rfl) rfl)) (pc := 161) (by decide +kernel) ?_
  refine n_last (k := 258) (N := 33) (i := 17) (x := 38267776) rfl (by decide) (by decide) cx sx (by decide) (show WF[258]? = some (23, 33, 258) from rfl) (pc := 164) (by decide +kernel) (fun H1 locs1 sx => ?_)
  rw [← eM18] at sx
  refine lv_dup cx.1.1 cx.1.2.1 (pc := 165) (by decide +kernel) rfl ?_
  refine lv_bipush cx.1.1 cx.1.2.1 (n := 18) (v := Int32.ofNat 18) (pc := 166) (by decide +kernel) (by decide) ?_
  refine lv_ldc2 cx.1.1 cx.1.2.1 (own := "IceParliamentModel") (index := 70) (v := 26704030) cx.1.2.2.2.1 (cx.1.2.2.2.2 _ (in_t7 (List.mem_of_getElem? (i := 73) rfl) rfl)) (pc := 168) (by decide +kernel) ?_
  refine n_last (k := 258) (N := 33) (i := 18) (x := 26704030) rfl (by decide) (by decide) cx sx (by decide) (show WF[258]? = some (23, 33, 258) from rfl) (pc := 171) (by decide +kernel) (fun H1 locs1 sx => ?_)
  rw [← eM19] at sx
  refine lv_dup cx.1.1 cx.1.2.1 (pc := 172) (by decide +kernel) rfl ?_
  refine lv_bipush cx.1.1 cx.1.2.1 (n := 19) (v := Int32.ofNat 19) (pc := 173) (by decide +kernel) (by decide) ?_
  refine lv_ldc2 cx.1.1 cx.1.2.1 (own := "IceParliamentModel") (index := 72) (v := 85082) cx.1.2.2.2.1 (cx.1.2.2.2.2 _ (in_t7 (List.mem_of_getElem? (i := 74) rfl) rfl)) (pc := 175) (by decide +kernel) ?_
  refine n_last (k := 258) (N := 33) (i := 19) (x := 85082) rfl (by decide) (by decide) cx sx (by decide) (show WF[258]? = some (23, 33, 258) from rfl) (pc := 178) (by decide +kernel) (fun H1 locs1 sx => ?_)
  rw [← eM20] at sx
  refine lv_dup cx.1.1 cx.1.2.1 (pc := 179) (by decide +kernel) rfl ?_
  refine lv_bipush cx.1.1 cx.1.2.1 (n := 20) (v := Int32.ofNat 20) (pc := 180) (by decide +kernel) (by decide) ?_
  refine lv_ldc2 cx.1.1 cx.1.2.1 (own := "IceParliamentModel") (index := 74) (v := 729881) cx.1.2.2.2.1 (cx.1.2.2.2.2 _ (in_t7 (List.mem_of_getElem? (i := 75) rfl) rfl)) (pc := 182) (by decide +kernel) ?_
  refine n_last (k := 258) (N := 33) (i := 20) (x := 729881) rfl (by decide) (by decide) cx sx (by decide) (show WF[258]? = some (23, 33, 258) from rfl) (pc := 185) (by decide +kernel) (fun H1 locs1 sx => ?_)
  rw [← eM21] at sx
  refine lv_dup cx.1.1 cx.1.2.1 (pc := 186) (by decide +kernel) rfl ?_
  refine lv_bipush cx.1.1 cx.1.2.1 (n := 21) (v := Int32.ofNat 21) (pc := 187) (by decide +kernel) (by decide) ?_
  refine lv_ldc2 cx.1.1 cx.1.2.1 (own := "IceParliamentModel") (index := 76) (v := 30596128) cx.1.2.2.2.1 (cx.1.2.2.2.2 _ (in_t7 (List.mem_of_getElem? (i := 76) rfl) rfl)) (pc := 189) (by decide +kernel) ?_
  refine n_last (k := 258) (N := 33) (i := 21) (x := 30596128) rfl (by decide) (by decide) cx sx (by decide) (show WF[258]? = some (23, 33, 258) from rfl) (pc := 192) (by decide +kernel) (fun H1 locs1 sx => ?_)
  rw [← eM22] at sx
  refine lv_dup cx.1.1 cx.1.2.1 (pc := 193) (by decide +kernel) rfl ?_
  refine lv_bipush cx.1.1 cx.1.2.1 (n := 22) (v := Int32.ofNat 22) (pc := 194) (by decide +kernel) (by decide) ?_
  refine lv_ldc2 cx.1.1 cx.1.2.1 (own := "IceParliamentModel") (index := 78) (v := 583488913) cx.1.2.2.2.1 (cx.1.2.2.2.2 _ (in_t7 (List.mem_of_getElem? (i := 77) rfl) rfl)) (pc := 196) (by decide +kernel) ?_
  refine n_last (k := 258) (N := 33) (i := 22) (x := 583488913) rfl (by decide) (by decide) cx sx (by decide) (show WF[258]? = some (23, 33, 258) from rfl) (pc := 199) (by decide +kernel) (fun H1 locs1 sx => ?_)
  rw [← eM23] at sx
  refine lv_dup cx.1.1 cx.1.2.1 (pc := 200) (by decide +kernel) rfl ?_
  refine lv_bipush cx.1.1 cx.1.2.1 (n := 23) (v := Int32.ofNat 23) (pc := 201) (by decide +kernel) (by decide) ?_
  refine lv_ldc2 cx.1.1 cx.1.2.1 (own := "IceParliamentModel") (index := 80) (v := 1024359) cx.1.2.2.2.1 (cx.1.2.2.2.2 _ (in_t7 (List.mem_of_getElem? (i := 78) rfl) rfl)) (pc := 203) (by decide +kernel) ?_
  refine n_last (k := 258) (N := 33) (i := 23) (x := 1024359) rfl (by decide) (by decide) cx sx (by decide) (show WF[258]? = some (23, 33, 258) from rfl) (pc := 206) (by decide +kernel) (fun H1 locs1 sx => ?_)
  rw [← eM24] at sx
  refine lv_dup cx.1.1 cx.1.2.1 (pc := 207) (by decide +kernel) rfl ?_
  refine lv_bipush cx.1.1 cx.1.2.1 (n := 24) (v := Int32.ofNat 24) (pc := 208) (by decide +kernel) (by decide) ?_
  refine lv_ldc2 cx.1.1 cx.1.2.1 (own := "IceParliamentModel") (index := 82) (v := 20983) cx.1.2.2.2.1 (cx.1.2.2.2.2 _ (in_t7 (List.mem_of_getElem? (i := 79) rfl) rfl)) (pc := 210) (by decide +kernel) ?_
  refine n_last (k := 258) (N := 33) (i := 24) (x := 20983) rfl (by decide) (by decide) cx sx (by decide) (show WF[258]? = some (23, 33, 258) from rfl) (pc := 213) (by decide +kernel) (fun H1 locs1 sx => ?_)
  rw [← eM25] at sx
  refine lv_dup cx.1.1 cx.1.2.1 (pc := 214) (by decide +kernel) rfl ?_
  refine lv_bipush cx.1.1 cx.1.2.1 (n := 25) (v := Int32.ofNat 25) (pc := 215) (by decide +kernel) (by decide) ?_
  refine lv_ldc2 cx.1.1 cx.1.2.1 (own := "IceParliamentModel") (index := 84) (v := 19741) cx.1.2.2.2.1 (cx.1.2.2.2.2 _ (in_t7 (List.mem_of_getElem? (i := 80) rfl) rfl)) (pc := 217) (by decide +kernel) ?_
  refine n_last (k := 258) (N := 33) (i := 25) (x := 19741) rfl (by decide) (by decide) cx sx (by decide) (show WF[258]? = some (23, 33, 258) from rfl) (pc := 220) (by decide +kernel) (fun H1 locs1 sx => ?_)
  rw [← eM26] at sx
  refine lv_dup cx.1.1 cx.1.2.1 (pc := 221) (by decide +kernel) rfl ?_
  refine lv_bipush cx.1.1 cx.1.2.1 (n := 26) (v := Int32.ofNat 26) (pc := 222) (by decide +kernel) (by decide) ?_
  refine lv_ldc2 cx.1.1 cx.1.2.1 (own := "IceParliamentModel") (index := 86) (v := 1891) cx.1.2.2.2.1 (cx.1.2.2.2.2 _ (in_t7 (List.mem_of_getElem? (i := 81) rfl) rfl)) (pc := 224) (by decide +kernel) ?_
  refine n_last (k := 258) (N := 33) (i := 26) (x := 1891) rfl (by decide) (by decide) cx sx (by decide) (show WF[258]? = some (23, 33, 258) from rfl) (pc := 227) (by decide +kernel) (fun H1 locs1 sx => ?_)
  rw [← eM27] at sx
  refine lv_dup cx.1.1 cx.1.2.1 (pc := 228) (by decide +kernel) rfl ?_
  refine lv_bipush cx.1.1 cx.1.2.1 (n := 27) (v := Int32.ofNat 27) (pc := 229) (by decide +kernel) (by decide) ?_
  refine lv_ldc2 cx.1.1 cx.1.2.1 (own := "IceParliamentModel") (index := 88) (v := 573) cx.1.2.2.2.1 (cx.1.2.2.2.2 _ (in_t7 (List.mem_of_getElem? (i := 82) rfl) rfl)) (pc := 231) (by decide +kernel) ?_
  refine n_last (k := 258) (N := 33) (i := 27) (x := 573) rfl (by decide) (by decide) cx sx (by decide) (show WF[258]? = some (23, 33, 258) from rfl) (pc := 234) (by decide +kernel) (fun H1 locs1 sx => ?_)
  rw [← eM28] at sx
  refine lv_dup cx.1.1 cx.1.2.1 (pc := 235) (by decide +kernel) rfl ?_
  refine lv_bipush cx.1.1 cx.1.2.1 (n := 28) (v := Int32.ofNat 28) (pc := 236) (by decide +kernel) (by decide) ?_
  refine lv_ldc2 cx.1.1 cx.1.2.1 (own := "IceParliamentModel") (index := 90) (v := 1597715471) cx.1.2.2.2.1 (cx.1.2.2.2.2 _ (in_t7 (List.mem_of_getElem? (i := 83) rfl) rfl)) (pc := 238) (by decide +kernel) ?_
  refine n_last (k := 258) (N := 33) (i := 28) (x := 1597715471) rfl (by decide) (by decide) cx sx (by decide) (show WF[258]? = some (23, 33, 258) from rfl) (pc := 241) (by decide +kernel) (fun H1 locs1 sx => ?_)
  rw [← eM29] at sx
  refine lv_dup cx.1.1 cx.1.2.1 (pc := 242) (by decide +kernel) rfl ?_
  refine lv_bipush cx.1.1 cx.1.2.1 (n := 29) (v := Int32.ofNat 29) (pc := 243) (by decide +kernel) (by decide) ?_
  refine lv_ldc2 cx.1.1 cx.1.2.1 (own := "IceParliamentModel") (index := 92) (v := 204658) cx.1.2.2.2.1 (cx.1.2.2.2.2 _ (in_t7 (List.mem_of_getElem? (i := 84) rfl) rfl)) (pc := 245) (by decide +kernel) ?_
  refine n_last (k := 258) (N := 33) (i := 29) (x := 204658) rfl (by decide) (by decide) cx sx (by decide) (show WF[258]? = some (23, 33, 258) from rfl) (pc := 248) (by decide +kernel) (fun H1 locs1 sx => ?_)
  rw [← eM30] at sx
  refine lv_dup cx.1.1 cx.1.2.1 (pc := 249) (by decide +kernel) rfl ?_
  refine lv_bipush cx.1.1 cx.1.2.1 (n := 30) (v := Int32.ofNat 30) (pc := 250) (by decide +kernel) (by decide) ?_
  refine lv_ldc2 cx.1.1 cx.1.2.1 (own := "IceParliamentModel") (index := 94) (v := 1014885) cx.1.2.2.2.1 (cx.1.2.2.2.2 _ (in_t7 (List.mem_of_getElem? (i := 85) rfl) rfl)) (pc := 252) (by decide +kernel) ?_
  refine n_last (k := 258) (N := 33) (i := 30) (x := 1014885) rfl (by decide) (by decide) cx sx (by decide) (show WF[258]? = some (23, 33, 258) from rfl) (pc := 255) (by decide +kernel) (fun H1 locs1 sx => ?_)
  rw [← eM31] at sx
  refine lv_dup cx.1.1 cx.1.2.1 (pc := 256) (by decide +kernel) rfl ?_
  refine lv_bipush cx.1.1 cx.1.2.1 (n := 31) (v := Int32.ofNat 31) (pc := 257) (by decide +kernel) (by decide) ?_
  refine lv_ldc2 cx.1.1 cx.1.2.1 (own := "IceParliamentModel") (index := 96) (v := 53840) cx.1.2.2.2.1 (cx.1.2.2.2.2 _ (in_t7 (List.mem_of_getElem? (i := 86) rfl) rfl)) (pc := 259) (by decide +kernel) ?_
  refine n_last (k := 258) (N := 33) (i := 31) (x := 53840) rfl (by decide) (by decide) cx sx (by decide) (show WF[258]? = some (23, 33, 258) from rfl) (pc := 262) (by decide +kernel) (fun H1 locs1 sx => ?_)
  rw [← eM32] at sx
  refine lv_dup cx.1.1 cx.1.2.1 (pc := 263) (by decide +kernel) rfl ?_
  refine lv_bipush cx.1.1 cx.1.2.1 (n := 32) (v := Int32.ofNat 32) (pc := 264) (by decide +kernel) (by decide) ?_
  refine lv_ldc2 cx.1.1 cx.1.2.1 (own := "IceParliamentModel") (index := 98) (v := 223670) cx.1.2.2.2.1 (cx.1.2.2.2.2 _ (in_t7 (List.mem_of_getElem? (i := 87) rfl) rfl)) (pc := 266) (by decide +kernel) ?_
  refine n_last (k := 258) (N := 33) (i := 32) (x := 223670) rfl (by decide) (by decide) cx sx (by decide) (show WF[258]? = some (23, 33, 258) from rfl) (pc := 269) (by decide +kernel) (fun H1 locs1 sx => ?_)
  rw [← eM33] at sx
  refine n_putF (t := 12) (k := 253) (j := 9) (index := 100) cx sx (by omega) (by decide) (show WF[253]? = some (12, 0, 253) from rfl) (by decide) rfl (by rw [show (fp 12 9 253).2.2 = 258 from rfl, cx.2.2.2.2.2.2.2.2.1 258 (by omega)]) rfl (in_t7 (List.mem_of_getElem? (i := 117) rfl) rfl) rfl rfl (fun _ => rfl) (fun _ => rfl) (pc := 270) (by decide +kernel) (fun H1 locs1 sx => ?_)
  rw [← eZ5] at sx
  refine n_ald cx hl (i := 0) (k3 := 0) (t := 12) (k := 253) (pc := 273) rfl rfl (by omega) (by decide +kernel) ?_
  refine lv_sipush cx.1.1 cx.1.2.1 (n := 220) (v := Int32.ofNat 220) (pc := 274) (by decide +kernel) (by decide) ?_
  refine n_newa (t := 20) (N := 220) (n := 259) (aty := .int) (ty := .int) (index := 0) rfl (by omega) rfl (.inl ⟨rfl, rfl⟩) cx sx ((hqZ5.fz fz hm).wj wj33 (by decide)) (show WF[259]? = some (20, 220, 259) from rfl) (in_t1 (List.mem_of_getElem? (i := 124) rfl) rfl) (Nat.le_of_ble_eq_true rfl) (Nat.le_of_ble_eq_true rfl) (pc := 277) (by decide +kernel) (fun H1 sx => ?_)
  refine n_putF (t := 12) (k := 253) (j := 10) (index := 103) cx sx (by omega) (by decide) (show WF[253]? = some (12, 0, 253) from rfl) (by decide) rfl (by rw [show (fp 12 10 253).2.2 = 259 from rfl, cx.2.2.2.2.2.2.2.2.1 259 (by omega)]) rfl (in_t7 (List.mem_of_getElem? (i := 118) rfl) rfl) rfl rfl (fun _ => rfl) (fun _ => rfl) (pc := 279) (by decide +kernel) (fun H1 locs1 sx => ?_)
  rw [← eZ6] at sx
  refine n_ald cx hl (i := 0) (k3 := 0) (t := 12) (k := 253) (pc := 282) rfl rfl (by omega) (by decide +kernel) ?_
  refine lv_sipush cx.1.1 cx.1.2.1 (n := 2200) (v := Int32.ofNat 2200) (pc := 283) (by decide +kernel) (by decide) ?_
  refine n_newa (t := 20) (N := 2200) (n := 260) (aty := .int) (ty := .int) (index := 0) rfl (by omega) rfl (.inl ⟨rfl, rfl⟩) cx sx ((hqZ6.fz fz hm).wj wj33 (by decide)) (show WF[260]? = some (20, 2200, 260) from rfl) (in_t1 (List.mem_of_getElem? (i := 124) rfl) rfl) (Nat.le_of_ble_eq_true rfl) (Nat.le_of_ble_eq_true rfl) (pc := 286) (by decide +kernel) (fun H1 sx => ?_)
  refine n_putF (t := 12) (k := 253) (j := 11) (index := 106) cx sx (by omega) (by decide) (show WF[253]? = some (12, 0, 253) from rfl) (by decide) rfl (by rw [show (fp 12 11 253).2.2 = 260 from rfl, cx.2.2.2.2.2.2.2.2.1 260 (by omega)]) rfl (in_t7 (List.mem_of_getElem? (i := 119) rfl) rfl) rfl rfl (fun _ => rfl) (fun _ => rfl) (pc := 288) (by decide +kernel) (fun H1 locs1 sx => ?_)
  rw [← eZ7] at sx
  refine n_ald cx hl (i := 0) (k3 := 0) (t := 12) (k := 253) (pc := 291) rfl rfl (by omega) (by decide +kernel) ?_
  refine lv_sipush cx.1.1 cx.1.2.1 (n := 2200) (v := Int32.ofNat 2200) (pc := 292) (by decide +kernel) (by decide) ?_
  refine n_newa (t := 20) (N := 2200) (n := 261) (aty := .int) (ty := .int) (index := 0) rfl (by omega) rfl (.inl ⟨rfl, rfl⟩) cx sx ((hqZ7.fz fz hm).wj wj33 (by decide)) (show WF[261]? = some (20, 2200, 261) from rfl) (in_t1 (List.mem_of_getElem? (i := 124) rfl) rfl) (Nat.le_of_ble_eq_true rfl) (Nat.le_of_ble_eq_true rfl) (pc := 295) (by decide +kernel) (fun H1 sx => ?_)
  refine n_putF (t := 12) (k := 253) (j := 12) (index := 109) cx sx (by omega) (by decide) (show WF[253]? = some (12, 0, 253) from rfl) (by decide) rfl (by rw [show (fp 12 12 253).2.2 = 261 from rfl, cx.2.2.2.2.2.2.2.2.1 261 (by omega)]) rfl (in_t7 (List.mem_of_getElem? (i := 120) rfl) rfl) rfl rfl (fun _ => rfl) (fun _ => rfl) (pc := 297) (by decide +kernel) (fun H1 locs1 sx => ?_)
  rw [← eZ8] at sx
  refine n_ald cx hl (i := 0) (k3 := 0) (t := 12) (k := 253) (pc := 300) rfl rfl (by omega) (by decide +kernel) ?_
  refine lv_bipush cx.1.1 cx.1.2.1 (n := 18) (v := Int32.ofNat 18) (pc := 301) (by decide +kernel) (by decide) ?_
  refine n_newa (t := 23) (N := 18) (n := 262) (aty := .long) (ty := .long) (index := 0) rfl (by omega) rfl (.inr (.inr (.inr ⟨rfl, rfl⟩))) cx sx ((hqZ8.fz fz hm).wj wj33 (by decide)) (show WF[262]? = some (23, 18, 262) from rfl) (in_t1 (List.mem_of_getElem? (i := 103) rfl) rfl) (Nat.le_of_ble_eq_true rfl) (Nat.le_of_ble_eq_true rfl) (pc := 303) (by decide +kernel) (fun H1 sx => ?_)
  refine n_putF (t := 12) (k := 253) (j := 14) (index := 112) cx sx (by omega) (by decide) (show WF[253]? = some (12, 0, 253) from rfl) (by decide) rfl (by rw [show (fp 12 14 253).2.2 = 262 from rfl, cx.2.2.2.2.2.2.2.2.1 262 (by omega)]) rfl (in_t7 (List.mem_of_getElem? (i := 122) rfl) rfl) rfl rfl (fun _ => rfl) (fun _ => rfl) (pc := 305) (by decide +kernel) (fun H1 locs1 sx => ?_)
  rw [← eZ9] at sx
  refine n_ald cx hl (i := 0) (k3 := 0) (t := 12) (k := 253) (pc := 308) rfl rfl (by omega) (by decide +kernel) ?_
  refine lv_bipush cx.1.1 cx.1.2.1 (n := 18) (v := Int32.ofNat 18) (pc := 309) (by decide +kernel) (by decide) ?_
  refine n_newa (t := 23) (N := 18) (n := 263) (aty := .long) (ty := .long) (index := 0) rfl (by omega) rfl (.inr (.inr (.inr ⟨rfl, rfl⟩))) cx sx ((hqZ9.fz fz hm).wj wj33 (by decide)) (show WF[263]? = some (23, 18, 263) from rfl) (in_t1 (List.mem_of_getElem? (i := 103) rfl) rfl) (Nat.le_of_ble_eq_true rfl) (Nat.le_of_ble_eq_true rfl) (pc := 311) (by decide +kernel) (fun H1 sx => ?_)
  refine n_putF (t := 12) (k := 253) (j := 15) (index := 115) cx sx (by omega) (by decide) (show WF[253]? = some (12, 0, 253) from rfl) (by decide) rfl (by rw [show (fp 12 15 253).2.2 = 263 from rfl, cx.2.2.2.2.2.2.2.2.1 263 (by omega)]) rfl (in_t7 (List.mem_of_getElem? (i := 123) rfl) rfl) rfl rfl (fun _ => rfl) (fun _ => rfl) (pc := 313) (by decide +kernel) (fun H1 locs1 sx => ?_)
  rw [← eZ10] at sx
  refine n_ald cx hl (i := 0) (k3 := 0) (t := 12) (k := 253) (pc := 316) rfl rfl (by omega) (by decide +kernel) ?_
  refine lv_bipush cx.1.1 cx.1.2.1 (n := 18) (v := Int32.ofNat 18) (pc := 317) (by decide +kernel) (by decide) ?_
  refine n_newa (t := 20) (N := 18) (n := 264) (aty := .int) (ty := .int) (index := 0) rfl (by omega) rfl (.inl ⟨rfl, rfl⟩) cx sx ((hqZ10.fz fz hm).wj wj33 (by decide)) (show WF[264]? = some (20, 18, 264) from rfl) (in_t1 (List.mem_of_getElem? (i := 124) rfl) rfl) (Nat.le_of_ble_eq_true rfl) (Nat.le_of_ble_eq_true rfl) (pc := 319) (by decide +kernel) (fun H1 sx => ?_)
  refine n_putF (t := 12) (k := 253) (j := 16) (index := 118) cx sx (by omega) (by decide) (show WF[253]? = some (12, 0, 253) from rfl) (by decide) rfl (by rw [show (fp 12 16 253).2.2 = 264 from rfl, cx.2.2.2.2.2.2.2.2.1 264 (by omega)]) rfl (in_t7 (List.mem_of_getElem? (i := 124) rfl) rfl) rfl rfl (fun _ => rfl) (fun _ => rfl) (pc := 321) (by decide +kernel) (fun H1 locs1 sx => ?_)
  rw [← eZ11] at sx
  refine n_ald cx hl (i := 0) (k3 := 0) (t := 12) (k := 253) (pc := 324) rfl rfl (by omega) (by decide +kernel) ?_
  refine lv_bipush cx.1.1 cx.1.2.1 (n := 18) (v := Int32.ofNat 18) (pc := 325) (by decide +kernel) (by decide) ?_
  refine n_newa (t := 20) (N := 18) (n := 265) (aty := .int) (ty := .int) (index := 0) rfl (by omega) rfl (.inl ⟨rfl, rfl⟩) cx sx ((hqZ11.fz fz hm).wj wj33 (by decide)) (show WF[265]? = some (20, 18, 265) from rfl) (in_t1 (List.mem_of_getElem? (i := 124) rfl) rfl) (Nat.le_of_ble_eq_true rfl) (Nat.le_of_ble_eq_true rfl) (pc := 327) (by decide +kernel) (fun H1 sx => ?_)
  refine n_putF (t := 12) (k := 253) (j := 17) (index := 121) cx sx (by omega) (by decide) (show WF[253]? = some (12, 0, 253) from rfl) (by decide) rfl (by rw [show (fp 12 17 253).2.2 = 265 from rfl, cx.2.2.2.2.2.2.2.2.1 265 (by omega)]) rfl (in_t7 (List.mem_of_getElem? (i := 125) rfl) rfl) rfl rfl (fun _ => rfl) (fun _ => rfl) (pc := 329) (by decide +kernel) (fun H1 locs1 sx => ?_)
  rw [← eZ12] at sx
  refine n_ald cx hl (i := 0) (k3 := 0) (t := 12) (k := 253) (pc := 332) rfl rfl (by omega) (by decide +kernel) ?_
  refine lv_sipush cx.1.1 cx.1.2.1 (n := 250) (v := Int32.ofNat 250) (pc := 333) (by decide +kernel) (by decide) ?_
  refine n_newa (t := 20) (N := 250) (n := 266) (aty := .int) (ty := .int) (index := 0) rfl (by omega) rfl (.inl ⟨rfl, rfl⟩) cx sx ((hqZ12.fz fz hm).wj wj33 (by decide)) (show WF[266]? = some (20, 250, 266) from rfl) (in_t1 (List.mem_of_getElem? (i := 124) rfl) rfl) (Nat.le_of_ble_eq_true rfl) (Nat.le_of_ble_eq_true rfl) (pc := 336) (by decide +kernel) (fun H1 sx => ?_)
  refine n_putF (t := 12) (k := 253) (j := 22) (index := 124) cx sx (by omega) (by decide) (show WF[253]? = some (12, 0, 253) from rfl) (by decide) rfl (by rw [show (fp 12 22 253).2.2 = 266 from rfl, cx.2.2.2.2.2.2.2.2.1 266 (by omega)]) rfl (in_t7 (List.mem_of_getElem? (i := 130) rfl) rfl) rfl rfl (fun _ => rfl) (fun _ => rfl) (pc := 338) (by decide +kernel) (fun H1 locs1 sx => ?_)
  rw [← eZ13] at sx
  refine n_ald cx hl (i := 0) (k3 := 0) (t := 12) (k := 253) (pc := 341) rfl rfl (by omega) (by decide +kernel) ?_
  refine lv_iconst cx.1.1 cx.1.2.1 (n := 5) (v := Int32.ofNat 5) (pc := 342) (by decide +kernel) (by decide) ?_
  refine n_newa (t := 20) (N := 5) (n := 267) (aty := .int) (ty := .int) (index := 0) rfl (by omega) rfl (.inl ⟨rfl, rfl⟩) cx sx ((hqZ13.fz fz hm).wj wj33 (by decide)) (show WF[267]? = some (20, 5, 267) from rfl) (in_t1 (List.mem_of_getElem? (i := 124) rfl) rfl) (Nat.le_of_ble_eq_true rfl) (Nat.le_of_ble_eq_true rfl) (pc := 343) (by decide +kernel) (fun H1 sx => ?_)
  refine n_putF (t := 12) (k := 253) (j := 23) (index := 127) cx sx (by omega) (by decide) (show WF[253]? = some (12, 0, 253) from rfl) (by decide) rfl (by rw [show (fp 12 23 253).2.2 = 267 from rfl, cx.2.2.2.2.2.2.2.2.1 267 (by omega)]) rfl (in_t7 (List.mem_of_getElem? (i := 131) rfl) rfl) rfl rfl (fun _ => rfl) (fun _ => rfl) (pc := 345) (by decide +kernel) (fun H1 locs1 sx => ?_)
  rw [← eZ14] at sx
  refine n_ald cx hl (i := 0) (k3 := 0) (t := 12) (k := 253) (pc := 348) rfl rfl (by omega) (by decide +kernel) ?_
  refine lv_sipush cx.1.1 cx.1.2.1 (n := 1100) (v := Int32.ofNat 1100) (pc := 349) (by decide +kernel) (by decide) ?_
  refine n_newa (t := 20) (N := 1100) (n := 268) (aty := .int) (ty := .int) (index := 0) rfl (by omega) rfl (.inl ⟨rfl, rfl⟩) cx sx ((hqZ14.fz fz hm).wj wj33 (by decide)) (show WF[268]? = some (20, 1100, 268) from rfl) (in_t1 (List.mem_of_getElem? (i := 124) rfl) rfl) (Nat.le_of_ble_eq_true rfl) (Nat.le_of_ble_eq_true rfl) (pc := 352) (by decide +kernel) (fun H1 sx => ?_)
  refine n_putF (t := 12) (k := 253) (j := 24) (index := 130) cx sx (by omega) (by decide) (show WF[253]? = some (12, 0, 253) from rfl) (by decide) rfl (by rw [show (fp 12 24 253).2.2 = 268 from rfl, cx.2.2.2.2.2.2.2.2.1 268 (by omega)]) rfl (in_t7 (List.mem_of_getElem? (i := 132) rfl) rfl) rfl rfl (fun _ => rfl) (fun _ => rfl) (pc := 354) (by decide +kernel) (fun H1 locs1 sx => ?_)
  rw [← eZ15] at sx
  refine n_ald cx hl (i := 0) (k3 := 0) (t := 12) (k := 253) (pc := 357) rfl rfl (by omega) (by decide +kernel) ?_
  refine lv_sipush cx.1.1 cx.1.2.1 (n := 1127) (v := Int32.ofNat 1127) (pc := 358) (by decide +kernel) (by decide) ?_
  refine n_newa (t := 20) (N := 1127) (n := 269) (aty := .int) (ty := .int) (index := 0) rfl (by omega) rfl (.inl ⟨rfl, rfl⟩) cx sx ((hqZ15.fz fz hm).wj wj33 (by decide)) (show WF[269]? = some (20, 1127, 269) from rfl) (in_t1 (List.mem_of_getElem? (i := 124) rfl) rfl) (Nat.le_of_ble_eq_true rfl) (Nat.le_of_ble_eq_true rfl) (pc := 361) (by decide +kernel) (fun H1 sx => ?_)
  refine n_putF (t := 12) (k := 253) (j := 25) (index := 133) cx sx (by omega) (by decide) (show WF[253]? = some (12, 0, 253) from rfl) (by decide) rfl (by rw [show (fp 12 25 253).2.2 = 269 from rfl, cx.2.2.2.2.2.2.2.2.1 269 (by omega)]) rfl (in_t7 (List.mem_of_getElem? (i := 133) rfl) rfl) rfl rfl (fun _ => rfl) (fun _ => rfl) (pc := 363) (by decide +kernel) (fun H1 locs1 sx => ?_)
  rw [← eZ16] at sx
  refine n_ald cx hl (i := 0) (k3 := 0) (t := 12) (k := 253) (pc := 366) rfl rfl (by omega) (by decide +kernel) ?_
  refine lv_iconst cx.1.1 cx.1.2.1 (n := 4) (v := Int32.ofNat 4) (pc := 367) (by decide +kernel) (by decide) ?_
  refine n_newa (t := 22) (N := 4) (n := 270) (aty := .boolean) (ty := .boolean) (index := 0) rfl (by omega) rfl (.inr (.inr (.inl ⟨rfl, rfl⟩))) cx sx ((hqZ16.fz fz hm).wj wj33 (by decide)) (show WF[270]? = some (22, 4, 270) from rfl) (in_t7 (List.mem_of_getElem? (i := 229) rfl) rfl) (Nat.le_of_ble_eq_true rfl) (Nat.le_of_ble_eq_true rfl) (pc := 368) (by decide +kernel) (fun H1 sx => ?_)
  refine n_putF (t := 12) (k := 253) (j := 27) (index := 136) cx sx (by omega) (by decide) (show WF[253]? = some (12, 0, 253) from rfl) (by decide) rfl (by rw [show (fp 12 27 253).2.2 = 270 from rfl, cx.2.2.2.2.2.2.2.2.1 270 (by omega)]) rfl (in_t7 (List.mem_of_getElem? (i := 135) rfl) rfl) rfl rfl (fun _ => rfl) (fun _ => rfl) (pc := 370) (by decide +kernel) (fun H1 locs1 sx => ?_)
  rw [← eZ17] at sx
  refine n_ald cx hl (i := 0) (k3 := 0) (t := 12) (k := 253) (pc := 373) rfl rfl (by omega) (by decide +kernel) ?_
  refine lv_iconst cx.1.1 cx.1.2.1 (n := 4) (v := Int32.ofNat 4) (pc := 374) (by decide +kernel) (by decide) ?_
  refine n_newa (t := 20) (N := 4) (n := 271) (aty := .int) (ty := .int) (index := 0) rfl (by omega) rfl (.inl ⟨rfl, rfl⟩) cx sx ((hqZ17.fz fz hm).wj wj33 (by decide)) (show WF[271]? = some (20, 4, 271) from rfl) (in_t1 (List.mem_of_getElem? (i := 124) rfl) rfl) (Nat.le_of_ble_eq_true rfl) (Nat.le_of_ble_eq_true rfl) (pc := 375) (by decide +kernel) (fun H1 sx => ?_)
  refine n_putF (t := 12) (k := 253) (j := 28) (index := 140) cx sx (by omega) (by decide) (show WF[253]? = some (12, 0, 253) from rfl) (by decide) rfl (by rw [show (fp 12 28 253).2.2 = 271 from rfl, cx.2.2.2.2.2.2.2.2.1 271 (by omega)]) rfl (in_t7 (List.mem_of_getElem? (i := 136) rfl) rfl) rfl rfl (fun _ => rfl) (fun _ => rfl) (pc := 377) (by decide +kernel) (fun H1 locs1 sx => ?_)
  rw [← eZ18] at sx
  refine n_ald cx hl (i := 0) (k3 := 0) (t := 12) (k := 253) (pc := 380) rfl rfl (by omega) (by decide +kernel) ?_
  refine lv_iconst cx.1.1 cx.1.2.1 (n := 4) (v := Int32.ofNat 4) (pc := 381) (by decide +kernel) (by decide) ?_
  refine n_newa (t := 20) (N := 4) (n := 272) (aty := .int) (ty := .int) (index := 0) rfl (by omega) rfl (.inl ⟨rfl, rfl⟩) cx sx ((hqZ18.fz fz hm).wj wj33 (by decide)) (show WF[272]? = some (20, 4, 272) from rfl) (in_t1 (List.mem_of_getElem? (i := 124) rfl) rfl) (Nat.le_of_ble_eq_true rfl) (Nat.le_of_ble_eq_true rfl) (pc := 382) (by decide +kernel) (fun H1 sx => ?_)
  refine n_putF (t := 12) (k := 253) (j := 29) (index := 143) cx sx (by omega) (by decide) (show WF[253]? = some (12, 0, 253) from rfl) (by decide) rfl (by rw [show (fp 12 29 253).2.2 = 272 from rfl, cx.2.2.2.2.2.2.2.2.1 272 (by omega)]) rfl (in_t7 (List.mem_of_getElem? (i := 137) rfl) rfl) rfl rfl (fun _ => rfl) (fun _ => rfl) (pc := 384) (by decide +kernel) (fun H1 locs1 sx => ?_)
  rw [← eZ19] at sx
  refine n_ald cx hl (i := 0) (k3 := 0) (t := 12) (k := 253) (pc := 387) rfl rfl (by omega) (by decide +kernel) ?_
  refine lv_iconst cx.1.1 cx.1.2.1 (n := 4) (v := Int32.ofNat 4) (pc := 388) (by decide +kernel) (by decide) ?_
  refine n_newa (t := 20) (N := 4) (n := 273) (aty := .int) (ty := .int) (index := 0) rfl (by omega) rfl (.inl ⟨rfl, rfl⟩) cx sx ((hqZ19.fz fz hm).wj wj33 (by decide)) (show WF[273]? = some (20, 4, 273) from rfl) (in_t1 (List.mem_of_getElem? (i := 124) rfl) rfl) (Nat.le_of_ble_eq_true rfl) (Nat.le_of_ble_eq_true rfl) (pc := 389) (by decide +kernel) (fun H1 sx => ?_)
  refine n_putF (t := 12) (k := 253) (j := 30) (index := 146) cx sx (by omega) (by decide) (show WF[253]? = some (12, 0, 253) from rfl) (by decide) rfl (by rw [show (fp 12 30 253).2.2 = 273 from rfl, cx.2.2.2.2.2.2.2.2.1 273 (by omega)]) rfl (in_t7 (List.mem_of_getElem? (i := 138) rfl) rfl) rfl rfl (fun _ => rfl) (fun _ => rfl) (pc := 391) (by decide +kernel) (fun H1 locs1 sx => ?_)
  rw [← eZ20] at sx
  refine n_ald cx hl (i := 0) (k3 := 0) (t := 12) (k := 253) (pc := 394) rfl rfl (by omega) (by decide +kernel) ?_
  refine lv_bipush cx.1.1 cx.1.2.1 (n := 36) (v := Int32.ofNat 36) (pc := 395) (by decide +kernel) (by decide) ?_
  refine n_newa (t := 20) (N := 36) (n := 274) (aty := .int) (ty := .int) (index := 0) rfl (by omega) rfl (.inl ⟨rfl, rfl⟩) cx sx ((hqZ20.fz fz hm).wj wj33 (by decide)) (show WF[274]? = some (20, 36, 274) from rfl) (in_t1 (List.mem_of_getElem? (i := 124) rfl) rfl) (Nat.le_of_ble_eq_true rfl) (Nat.le_of_ble_eq_true rfl) (pc := 397) (by decide +kernel) (fun H1 sx => ?_)
  refine n_putF (t := 12) (k := 253) (j := 33) (index := 149) cx sx (by omega) (by decide) (show WF[253]? = some (12, 0, 253) from rfl) (by decide) rfl (by rw [show (fp 12 33 253).2.2 = 274 from rfl, cx.2.2.2.2.2.2.2.2.1 274 (by omega)]) rfl (in_t7 (List.mem_of_getElem? (i := 141) rfl) rfl) rfl rfl (fun _ => rfl) (fun _ => rfl) (pc := 399) (by decide +kernel) (fun H1 locs1 sx => ?_)
  rw [← eZ21] at sx
  refine n_ald cx hl (i := 0) (k3 := 0) (t := 12) (k := 253) (pc := 402) rfl rfl (by omega) (by decide +kernel) ?_
  refine lv_bipush cx.1.1 cx.1.2.1 (n := 6) (v := Int32.ofNat 6) (pc := 403) (by decide +kernel) (by decide) ?_
  refine n_newa (t := 20) (N := 6) (n := 275) (aty := .int) (ty := .int) (index := 0) rfl (by omega) rfl (.inl ⟨rfl, rfl⟩) cx sx ((hqZ21.fz fz hm).wj wj33 (by decide)) (show WF[275]? = some (20, 6, 275) from rfl) (in_t1 (List.mem_of_getElem? (i := 124) rfl) rfl) (Nat.le_of_ble_eq_true rfl) (Nat.le_of_ble_eq_true rfl) (pc := 405) (by decide +kernel) (fun H1 sx => ?_)
  refine n_putF (t := 12) (k := 253) (j := 34) (index := 152) cx sx (by omega) (by decide) (show WF[253]? = some (12, 0, 253) from rfl) (by decide) rfl (by rw [show (fp 12 34 253).2.2 = 275 from rfl, cx.2.2.2.2.2.2.2.2.1 275 (by omega)]) rfl (in_t7 (List.mem_of_getElem? (i := 142) rfl) rfl) rfl rfl (fun _ => rfl) (fun _ => rfl) (pc := 407) (by decide +kernel) (fun H1 locs1 sx => ?_)
  rw [← eZ22] at sx
  refine n_ald cx hl (i := 0) (k3 := 0) (t := 12) (k := 253) (pc := 410) rfl rfl (by omega) (by decide +kernel) ?_
  refine lv_bipush cx.1.1 cx.1.2.1 (n := 6) (v := Int32.ofNat 6) (pc := 411) (by decide +kernel) (by decide) ?_
  refine n_newa (t := 20) (N := 6) (n := 276) (aty := .int) (ty := .int) (index := 0) rfl (by omega) rfl (.inl ⟨rfl, rfl⟩) cx sx ((hqZ22.fz fz hm).wj wj33 (by decide)) (show WF[276]? = some (20, 6, 276) from rfl) (in_t1 (List.mem_of_getElem? (i := 124) rfl) rfl) (Nat.le_of_ble_eq_true rfl) (Nat.le_of_ble_eq_true rfl) (pc := 413) (by decide +kernel) (fun H1 sx => ?_)
  refine n_putF (t := 12) (k := 253) (j := 35) (index := 155) cx sx (by omega) (by decide) (show WF[253]? = some (12, 0, 253) from rfl) (by decide) rfl (by rw [show (fp 12 35 253).2.2 = 276 from rfl, cx.2.2.2.2.2.2.2.2.1 276 (by omega)]) rfl (in_t7 (List.mem_of_getElem? (i := 143) rfl) rfl) rfl rfl (fun _ => rfl) (fun _ => rfl) (pc := 415) (by decide +kernel) (fun H1 locs1 sx => ?_)
  rw [← eZ23] at sx
  refine n_ald cx hl (i := 0) (k3 := 0) (t := 12) (k := 253) (pc := 418) rfl rfl (by omega) (by decide +kernel) ?_
  refine lv_bipush cx.1.1 cx.1.2.1 (n := 21) (v := Int32.ofNat 21) (pc := 419) (by decide +kernel) (by decide) ?_
  refine n_newa (t := 20) (N := 21) (n := 277) (aty := .int) (ty := .int) (index := 0) rfl (by omega) rfl (.inl ⟨rfl, rfl⟩) cx sx ((hqZ23.fz fz hm).wj wj33 (by decide)) (show WF[277]? = some (20, 21, 277) from rfl) (in_t1 (List.mem_of_getElem? (i := 124) rfl) rfl) (Nat.le_of_ble_eq_true rfl) (Nat.le_of_ble_eq_true rfl) (pc := 421) (by decide +kernel) (fun H1 sx => ?_)
  refine n_putF (t := 12) (k := 253) (j := 38) (index := 158) cx sx (by omega) (by decide) (show WF[253]? = some (12, 0, 253) from rfl) (by decide) rfl (by rw [show (fp 12 38 253).2.2 = 277 from rfl, cx.2.2.2.2.2.2.2.2.1 277 (by omega)]) rfl (in_t7 (List.mem_of_getElem? (i := 146) rfl) rfl) rfl rfl (fun _ => rfl) (fun _ => rfl) (pc := 423) (by decide +kernel) (fun H1 locs1 sx => ?_)
  rw [← eZ24] at sx
  refine n_ald cx hl (i := 0) (k3 := 0) (t := 12) (k := 253) (pc := 426) rfl rfl (by omega) (by decide +kernel) ?_
  refine lv_iconst cx.1.1 cx.1.2.1 (n := 0) (v := Int32.ofNat 0) (pc := 427) (by decide +kernel) (by decide) ?_
  refine n_evI (x := 194) (t := 12) (k := 253) (index := 161) (as := [vI (Int32.ofNat 0)]) (ks := (List.range 25).map (· + 253)) rfl ev1 rfl (by decide +kernel) (by decide) rfl (by decide +kernel) (by decide +kernel) (Clo_of (by decide +kernel)) (WT_of (by decide +kernel)) (by decide +kernel)
    (fun i hi b => by
      have z := (show ∀ i ∈ (List.range 25).map (· + 253), 253 ≤ i ∧ i < 278 from by decide +kernel) i hi
      exact pz.2 i z.1 z.2 b) (fr1.up (fun c j z => m_in (by omega) (by omega))) (fun v hv => by
      rcases List.mem_cons.mp hv with rfl | hv
      · exact .inl (show ((12, 0, 253) : Ref3) ∈ wI ((List.range 25).map (· + 253)) from by decide +kernel)
      · rcases List.mem_singleton.mp hv with rfl; exact trivial) cx sx (by rw [hsz]) (by decide) hls (in_t7 (List.mem_of_getElem? (i := 88) rfl) rfl) (md_sel (x := 194) rfl (by decide)).1 (md_sel (x := 194) rfl (by decide)).2 rfl ⟨Nat.le_of_ble_eq_true rfl, Nat.le_of_ble_eq_true rfl⟩ ⟨Nat.le_of_ble_eq_true rfl, Nat.le_of_ble_eq_true rfl⟩ (Nat.le_of_ble_eq_true rfl) (pc := 428) (by decide +kernel) (fun H1 locs1 sx => ?_)
  refine n_ald cx hl (i := 0) (k3 := 0) (t := 12) (k := 253) (pc := 431) rfl rfl (by omega) (by decide +kernel) ?_
  refine n_evI (x := 195) (t := 12) (k := 253) (index := 165) (as := []) (ks := (List.range 25).map (· + 253)) rfl ev2 rfl (by decide +kernel) (by decide) rfl (by decide +kernel) (by decide +kernel) (Clo_of (by decide +kernel)) (WT_of (by decide +kernel)) (by decide +kernel)
    (fun i hi b => by
      have z := (show ∀ i ∈ (List.range 25).map (· + 253), 253 ≤ i ∧ i < 278 from by decide +kernel) i hi
      exact pz.2 i z.1 z.2 b) (fr2.up (fun c j z => m_in (by unfold BGr at z; omega) (by unfold BGr at z; omega))) (fun v hv => by rcases List.mem_singleton.mp hv with rfl; exact .inl (show ((12, 0, 253) : Ref3) ∈ wI ((List.range 25).map (· + 253)) from by decide +kernel)) cx sx (by rw [hsz]) (by decide) hls (in_t7 (List.mem_of_getElem? (i := 92) rfl) rfl) (md_sel (x := 195) rfl (by decide)).1 (md_sel (x := 195) rfl (by decide)).2 rfl ⟨Nat.le_of_ble_eq_true rfl, Nat.le_of_ble_eq_true rfl⟩ ⟨Nat.le_of_ble_eq_true rfl, Nat.le_of_ble_eq_true rfl⟩ (Nat.le_of_ble_eq_true rfl) (pc := 432) (by decide +kernel) (fun H1 locs1 sx => ?_)
  exact n_ret cx sx (Nat.le_of_ble_eq_true rfl) (Nat.le_of_ble_eq_true rfl) (pc := 435) (by decide +kernel)
end NMOD
