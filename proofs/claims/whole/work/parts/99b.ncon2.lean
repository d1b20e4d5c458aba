/-! CONSTRUCTORS with what they call, by a program (gen98c.py) -/
section NCON2
variable {M M' : Mem} {Z Z' : Zs}
set_option maxRecDepth 20000 in
set_option maxHeartbeats 1000000 in
theorem c_Yard3 (fz : Fz 3 M Z) (hm : Mz 3 M) : ∃ M' Z', CNt ⟨"IceParliament$Yard", "<init>", "()V"⟩ prog_11_method_1_code 1 3 22 2164 [vR 9 0 3] 4 M Z 26 M' Z' ∧ PZ 3 26 Z Z' ∧ Fr (fun c _ => 3 ≤ c ∧ c ≤ 25) M M' ∧ M'.1 4 0 = 0 ∧ M'.1 6 0 = 0 ∧ M'.1 8 0 = 0 ∧ (∀ a, a < 6 → M'.1 18 a = 0) ∧ M'.1 3 12 = 0 ∧ M'.1 3 14 = 0 ∧ M'.1 3 15 = 0 ∧ LCd 20 dM none M' ∧ LCd 23 dK none M' := by
  have hq : QZ 3 [] 4 Z Z := QZ.start
  obtain ⟨Z1, cc1, p1⟩ := c_Roll (M := M) (Z := Z) (k := 4) (by omega) (show WF[4]? = some (4, 0, 4) from rfl) (show WF[5]? = some (23, 6, 5) from rfl) ((hq.fz fz hm).le (Nat.le_refl _)) ((hq.fz fz hm).mz)
  have hqZ1 := hq.sub p1 (by omega)
  obtain ⟨Z2, eZ2⟩ : ∃ Z2, Z2 = uZ Z1 3 0 := ⟨_, rfl⟩
  have hqZ2 := hqZ1.put eZ2
  obtain ⟨Z3, cc2, p2⟩ := c_Roll (M := M) (Z := Z2) (k := 6) (by omega) (show WF[6]? = some (4, 0, 6) from rfl) (show WF[7]? = some (23, 6, 7) from rfl) ((hqZ2.fz fz hm).le (Nat.le_refl _)) ((hqZ2.fz fz hm).mz)
  have hqZ3 := hqZ2.sub p2 (by omega)
  obtain ⟨Z4, eZ4⟩ : ∃ Z4, Z4 = uZ Z3 3 1 := ⟨_, rfl⟩
  have hqZ4 := hqZ3.put eZ4
  obtain ⟨Z5, cc3, p3⟩ := c_Roll (M := M) (Z := Z4) (k := 8) (by omega) (show WF[8]? = some (4, 0, 8) from rfl) (show WF[9]? = some (23, 6, 9) from rfl) ((hqZ4.fz fz hm).le (Nat.le_refl _)) ((hqZ4.fz fz hm).mz)
  have hqZ5 := hqZ4.sub p3 (by omega)
  obtain ⟨Z6, eZ6⟩ : ∃ Z6, Z6 = uZ Z5 3 2 := ⟨_, rfl⟩
  have hqZ6 := hqZ5.put eZ6
  have hqZ6a := hqZ6.arr fz (show WF[10]? = some (20, 6, 10) from rfl) (by decide)
  obtain ⟨Z7, eZ7⟩ : ∃ Z7, Z7 = uZ Z6 3 3 := ⟨_, rfl⟩
  have hqZ7 := hqZ6a.put eZ7
  have hqZ7a := hqZ7.arr fz (show WF[11]? = some (20, 6, 11) from rfl) (by decide)
  obtain ⟨Z8, eZ8⟩ : ∃ Z8, Z8 = uZ Z7 3 4 := ⟨_, rfl⟩
  have hqZ8 := hqZ7a.put eZ8
  have hqZ8a := hqZ8.arr fz (show WF[12]? = some (20, 6, 12) from rfl) (by decide)
  obtain ⟨Z9, eZ9⟩ : ∃ Z9, Z9 = uZ Z8 3 5 := ⟨_, rfl⟩
  have hqZ9 := hqZ8a.put eZ9
  have hqZ9a := hqZ9.arr fz (show WF[13]? = some (20, 6, 13) from rfl) (by decide)
  obtain ⟨Z10, eZ10⟩ : ∃ Z10, Z10 = uZ Z9 3 6 := ⟨_, rfl⟩
  have hqZ10 := hqZ9a.put eZ10
  have hqZ10a := hqZ10.arr fz (show WF[14]? = some (20, 6, 14) from rfl) (by decide)
  obtain ⟨Z11, eZ11⟩ : ∃ Z11, Z11 = uZ Z10 3 7 := ⟨_, rfl⟩
  have hqZ11 := hqZ10a.put eZ11
  have hqZ11a := hqZ11.arr fz (show WF[15]? = some (20, 6, 15) from rfl) (by decide)
  obtain ⟨Z12, eZ12⟩ : ∃ Z12, Z12 = uZ Z11 3 8 := ⟨_, rfl⟩
  have hqZ12 := hqZ11a.put eZ12
  have hqZ12a := hqZ12.arr fz (show WF[16]? = some (20, 6, 16) from rfl) (by decide)
  obtain ⟨Z13, eZ13⟩ : ∃ Z13, Z13 = uZ Z12 3 9 := ⟨_, rfl⟩
  have hqZ13 := hqZ12a.put eZ13
  have hqZ13a := hqZ13.arr fz (show WF[17]? = some (20, 6, 17) from rfl) (by decide)
  obtain ⟨Z14, eZ14⟩ : ∃ Z14, Z14 = uZ Z13 3 10 := ⟨_, rfl⟩
  have hqZ14 := hqZ13a.put eZ14
  have hqZ14a := hqZ14.arr fz (show WF[18]? = some (20, 6, 18) from rfl) (by decide)
  obtain ⟨Z15, eZ15⟩ : ∃ Z15, Z15 = uZ Z14 3 11 := ⟨_, rfl⟩
  have hqZ15 := hqZ14a.put eZ15
  have hqZ15a := hqZ15.arr fz (show WF[19]? = some (20, 14, 19) from rfl) (by decide)
  obtain ⟨Z16, eZ16⟩ : ∃ Z16, Z16 = uZ Z15 3 13 := ⟨_, rfl⟩
  have hqZ16 := hqZ15a.put eZ16
  obtain ⟨Z17, cc4, p4⟩ := c_Law (M := M) (Z := Z16) (k := 20) (by omega) (show WF[20]? = some (1, 0, 20) from rfl) (show WF[21]? = some (20, 1000, 21) from rfl) (show WF[22]? = some (20, 32, 22) from rfl) ((hqZ16.fz fz hm).le (Nat.le_refl _)) ((hqZ16.fz fz hm).mz)
  have hqZ17 := hqZ16.sub p4 (by omega)
  obtain ⟨Z18, eZ18⟩ : ∃ Z18, Z18 = uZ Z17 3 16 := ⟨_, rfl⟩
  have hqZ18 := hqZ17.put eZ18
  obtain ⟨Z19, cc5, p5⟩ := c_Law (M := M) (Z := Z18) (k := 23) (by omega) (show WF[23]? = some (1, 0, 23) from rfl) (show WF[24]? = some (20, 1000, 24) from rfl) (show WF[25]? = some (20, 32, 25) from rfl) ((hqZ18.fz fz hm).le (Nat.le_refl _)) ((hqZ18.fz fz hm).mz)
  have hqZ19 := hqZ18.sub p5 (by omega)
  obtain ⟨Z20, eZ20⟩ : ∃ Z20, Z20 = uZ Z19 3 17 := ⟨_, rfl⟩
  have hqZ20 := hqZ19.put eZ20
  obtain ⟨a1, M1, ev1, ha1, fr1, fa1⟩ := sp0e (d := 0) (M := M)
  subst ha1
  have pz := hqZ20.fin fz (show WF[3]? = some (9, 0, 3) from rfl) (by decide)
  have hfr : Fr (fun c _ => c ∈ (List.range 23).map (· + 3)) M M1 := fr1.up (fun c j z => (show ∀ c, 3 ≤ c → c < 26 → c ∈ (List.range 23).map (· + 3) from fun c h1 h2 => by rcases (show c = 3 ∨ c = 4 ∨ c = 5 ∨ c = 6 ∨ c = 7 ∨ c = 8 ∨ c = 9 ∨ c = 10 ∨ c = 11 ∨ c = 12 ∨ c = 13 ∨ c = 14 ∨ c = 15 ∨ c = 16 ∨ c = 17 ∨ c = 18 ∨ c = 19 ∨ c = 20 ∨ c = 21 ∨ c = 22 ∨ c = 23 ∨ c = 24 ∨ c = 25 by omega) with rfl | rfl | rfl | rfl | rfl | rfl | rfl | rfl | rfl | rfl | rfl | rfl | rfl | rfl | rfl | rfl | rfl | rfl | rfl | rfl | rfl | rfl | rfl <;> decide) c z.1 (by omega))
  refine ⟨M1, Z20, CNt_of (own := "IceParliament$Yard") (by decide) rfl rfl (Nat.le_of_ble_eq_true rfl) (fun B => Nat.le_add_right B _) ?_, hqZ20.fin fz (show WF[3]? = some (9, 0, 3) from rfl) (by decide), fr1, fa1⟩
  intro p l e s m args below meth c dC dI cA ρ B ls cx sx hsz hl
  have hls : ls.size = 1 := by obtain ⟨l0, h0, -⟩ := hl; exact h0.1
  refine n_ald cx hl (i := 0) (k3 := 0) (t := 9) (k := 3) (pc := 0) rfl rfl (by omega) (by decide +kernel) ?_
  refine n_obj (k := 3) (index := 3) cx hl (in_t1 (List.mem_of_getElem? (i := 82) rfl) rfl) (in_t1 (List.mem_of_getElem? (i := 33) rfl) rfl) (in_t1 (List.mem_of_getElem? (i := 34) rfl) rfl) ⟨Nat.le_of_ble_eq_true rfl, Nat.le_of_ble_eq_true rfl⟩ (by decide) (pc := 1) (by decide +kernel) ?_
  refine n_ald cx hl (i := 0) (k3 := 0) (t := 9) (k := 3) (pc := 4) rfl rfl (by omega) (by decide +kernel) ?_
  refine n_new (t := 4) (n := 4) (index := 9) cx sx (hq.fz fz hm) (by decide) (show WF[4]? = some (4, 0, 4) from rfl) (in_t1 (List.mem_of_getElem? (i := 83) rfl) rfl) (in_t1 (List.mem_of_getElem? (i := 84) rfl) rfl) (in_t1 (List.mem_of_getElem? (i := 4) rfl) rfl) (Nat.le_of_ble_eq_true rfl) (Nat.le_of_ble_eq_true rfl) (pc := 5) (by decide +kernel) (fun H1 sx => ?_)
  refine lv_dup cx.1.1 cx.1.2.1 (pc := 8) (by decide +kernel) rfl ?_
  refine n_init (t := 4) (k := 4) (index := 11) (as := []) cc1 cx sx (by omega) hls (in_t1 (List.mem_of_getElem? (i := 87) rfl) rfl) (in_t1 (List.mem_of_getElem? (i := 4) rfl) rfl) (.inr ⟨"IceParliament$Roll", by decide, rfl⟩) (in_t1 (List.mem_of_getElem? (i := 86) rfl) rfl) rfl ⟨by decide, by decide, rfl⟩ ⟨Nat.le_of_ble_eq_true rfl, Nat.le_of_ble_eq_true rfl⟩ ⟨Nat.le_of_ble_eq_true rfl, Nat.le_of_ble_eq_true rfl⟩ (Nat.le_of_ble_eq_true rfl) (pc := 9) (by decide +kernel) (fun H1 locs1 sx => ?_)
  refine n_putF (t := 9) (k := 3) (j := 0) (index := 12) cx sx (by omega) (by decide) (show WF[3]? = some (9, 0, 3) from rfl) (by decide) rfl (by rw [show (fp 9 0 3).2.2 = 4 from rfl, cx.2.2.2.2.2.2.2.2.1 4 (by omega)]) rfl (in_t1 (List.mem_of_getElem? (i := 144) rfl) rfl) rfl rfl (fun _ => rfl) (fun _ => rfl) (pc := 12) (by decide +kernel) (fun H1 locs1 sx => ?_)
  rw [← eZ2] at sx
  refine n_ald cx hl (i := 0) (k3 := 0) (t := 9) (k := 3) (pc := 15) rfl rfl (by omega) (by decide +kernel) ?_
  refine n_new (t := 4) (n := 6) (index := 9) cx sx (hqZ2.fz fz hm) (by decide) (show WF[6]? = some (4, 0, 6) from rfl) (in_t1 (List.mem_of_getElem? (i := 83) rfl) rfl) (in_t1 (List.mem_of_getElem? (i := 84) rfl) rfl) (in_t1 (List.mem_of_getElem? (i := 4) rfl) rfl) (Nat.le_of_ble_eq_true rfl) (Nat.le_of_ble_eq_true rfl) (pc := 16) (by decide +kernel) (fun H1 sx => ?_)
  refine lv_dup cx.1.1 cx.1.2.1 (pc := 19) (by decide +kernel) rfl ?_
  refine n_init (t := 4) (k := 6) (index := 11) (as := []) cc2 cx sx (by omega) hls (in_t1 (List.mem_of_getElem? (i := 87) rfl) rfl) (in_t1 (List.mem_of_getElem? (i := 4) rfl) rfl) (.inr ⟨"IceParliament$Roll", by decide, rfl⟩) (in_t1 (List.mem_of_getElem? (i := 86) rfl) rfl) rfl ⟨by decide, by decide, rfl⟩ ⟨Nat.le_of_ble_eq_true rfl, Nat.le_of_ble_eq_true rfl⟩ ⟨Nat.le_of_ble_eq_true rfl, Nat.le_of_ble_eq_true rfl⟩ (Nat.le_of_ble_eq_true rfl) (pc := 20) (by decide +kernel) (fun H1 locs1 sx => ?_)
  refine n_putF (t := 9) (k := 3) (j := 1) (index := 18) cx sx (by omega) (by decide) (show WF[3]? = some (9, 0, 3) from rfl) (by decide) rfl (by rw [show (fp 9 1 3).2.2 = 6 from rfl, cx.2.2.2.2.2.2.2.2.1 6 (by omega)]) rfl (in_t1 (List.mem_of_getElem? (i := 150) rfl) rfl) rfl rfl (fun _ => rfl) (fun _ => rfl) (pc := 23) (by decide +kernel) (fun H1 locs1 sx => ?_)
  rw [← eZ4] at sx
  refine n_ald cx hl (i := 0) (k3 := 0) (t := 9) (k := 3) (pc := 26) rfl rfl (by omega) (by decide +kernel) ?_
  refine n_new (t := 4) (n := 8) (index := 9) cx sx (hqZ4.fz fz hm) (by decide) (show WF[8]? = some (4, 0, 8) from rfl) (in_t1 (List.mem_of_getElem? (i := 83) rfl) rfl) (in_t1 (List.mem_of_getElem? (i := 84) rfl) rfl) (in_t1 (List.mem_of_getElem? (i := 4) rfl) rfl) (Nat.le_of_ble_eq_true rfl) (Nat.le_of_ble_eq_true rfl) (pc := 27) (by decide +kernel) (fun H1 sx => ?_)
  refine lv_dup cx.1.1 cx.1.2.1 (pc := 30) (by decide +kernel) rfl ?_
  refine n_init (t := 4) (k := 8) (index := 11) (as := []) cc3 cx sx (by omega) hls (in_t1 (List.mem_of_getElem? (i := 87) rfl) rfl) (in_t1 (List.mem_of_getElem? (i := 4) rfl) rfl) (.inr ⟨"IceParliament$Roll", by decide, rfl⟩) (in_t1 (List.mem_of_getElem? (i := 86) rfl) rfl) rfl ⟨by decide, by decide, rfl⟩ ⟨Nat.le_of_ble_eq_true rfl, Nat.le_of_ble_eq_true rfl⟩ ⟨Nat.le_of_ble_eq_true rfl, Nat.le_of_ble_eq_true rfl⟩ (Nat.le_of_ble_eq_true rfl) (pc := 31) (by decide +kernel) (fun H1 locs1 sx => ?_)
  refine n_putF (t := 9) (k := 3) (j := 2) (index := 21) cx sx (by omega) (by decide) (show WF[3]? = some (9, 0, 3) from rfl) (by decide) rfl (by rw [show (fp 9 2 3).2.2 = 8 from rfl, cx.2.2.2.2.2.2.2.2.1 8 (by omega)]) rfl (in_t1 (List.mem_of_getElem? (i := 157) rfl) rfl) rfl rfl (fun _ => rfl) (fun _ => rfl) (pc := 34) (by decide +kernel) (fun H1 locs1 sx => ?_)
  rw [← eZ6] at sx
  refine n_ald cx hl (i := 0) (k3 := 0) (t := 9) (k := 3) (pc := 37) rfl rfl (by omega) (by decide +kernel) ?_
  refine lv_bipush cx.1.1 cx.1.2.1 (n := 6) (v := Int32.ofNat 6) (pc := 38) (by decide +kernel) (by decide) ?_
  refine n_newa (t := 20) (N := 6) (n := 10) (aty := .int) (ty := .int) (index := 0) rfl (by omega) rfl (.inl ⟨rfl, rfl⟩) cx sx (hqZ6.fz fz hm) (show WF[10]? = some (20, 6, 10) from rfl) (in_t1 (List.mem_of_getElem? (i := 124) rfl) rfl) (Nat.le_of_ble_eq_true rfl) (Nat.le_of_ble_eq_true rfl) (pc := 40) (by decide +kernel) (fun H1 sx => ?_)
  refine n_putF (t := 9) (k := 3) (j := 3) (index := 24) cx sx (by omega) (by decide) (show WF[3]? = some (9, 0, 3) from rfl) (by decide) rfl (by rw [show (fp 9 3 3).2.2 = 10 from rfl, cx.2.2.2.2.2.2.2.2.1 10 (by omega)]) rfl (in_t1 (List.mem_of_getElem? (i := 165) rfl) rfl) rfl rfl (fun _ => rfl) (fun _ => rfl) (pc := 42) (by decide +kernel) (fun H1 locs1 sx => ?_)
  rw [← eZ7] at sx
  refine n_ald cx hl (i := 0) (k3 := 0) (t := 9) (k := 3) (pc := 45) rfl rfl (by omega) (by decide +kernel) ?_
  refine lv_bipush cx.1.1 cx.1.2.1 (n := 6) (v := Int32.ofNat 6) (pc := 46) (by decide +kernel) (by decide) ?_
  refine n_newa (t := 20) (N := 6) (n := 11) (aty := .int) (ty := .int) (index := 0) rfl (by omega) rfl (.inl ⟨rfl, rfl⟩) cx sx (hqZ7.fz fz hm) (show WF[11]? = some (20, 6, 11) from rfl) (in_t1 (List.mem_of_getElem? (i := 124) rfl) rfl) (Nat.le_of_ble_eq_true rfl) (Nat.le_of_ble_eq_true rfl) (pc := 48) (by decide +kernel) (fun H1 sx => ?_)
  refine n_putF (t := 9) (k := 3) (j := 4) (index := 28) cx sx (by omega) (by decide) (show WF[3]? = some (9, 0, 3) from rfl) (by decide) rfl (by rw [show (fp 9 4 3).2.2 = 11 from rfl, cx.2.2.2.2.2.2.2.2.1 11 (by omega)]) rfl (in_t1 (List.mem_of_getElem? (i := 167) rfl) rfl) rfl rfl (fun _ => rfl) (fun _ => rfl) (pc := 50) (by decide +kernel) (fun H1 locs1 sx => ?_)
  rw [← eZ8] at sx
  refine n_ald cx hl (i := 0) (k3 := 0) (t := 9) (k := 3) (pc := 53) rfl rfl (by omega) (by decide +kernel) ?_
  refine lv_bipush cx.1.1 cx.1.2.1 (n := 6) (v := Int32.ofNat 6) (pc := 54) (by decide +kernel) (by decide) ?_
  refine n_newa (t := 20) (N := 6) (n := 12) (aty := .int) (ty := .int) (index := 0) rfl (by omega) rfl (.inl ⟨rfl, rfl⟩) cx sx (hqZ8.fz fz hm) (show WF[12]? = some (20, 6, 12) from rfl) (in_t1 (List.mem_of_getElem? (i := 124) rfl) rfl) (Nat.le_of_ble_eq_true rfl) (Nat.le_of_ble_eq_true rfl) (pc := 56) (by decide +kernel) (fun H1 sx => ?_)
  refine n_putF (t := 9) (k := 3) (j := 5) (index := 31) cx sx (by omega) (by decide) (show WF[3]? = some (9, 0, 3) from rfl) (by decide) rfl (by rw [show (fp 9 5 3).2.2 = 12 from rfl, cx.2.2.2.2.2.2.2.2.1 12 (by omega)]) rfl (in_t1 (List.mem_of_getElem? (i := 170) rfl) rfl) rfl rfl (fun _ => rfl) (fun _ => rfl) (pc := 58) (by decide +kernel) (fun H1 locs1 sx => ?_)
  rw [← eZ9] at sx
  refine n_ald cx hl (i := 0) (k3 := 0) (t := 9) (k := 3) (pc := 61) rfl rfl (by omega) (by decide +kernel) ?_
  refine lv_bipush cx.1.1 cx.1.2.1 (n := 6) (v := Int32.ofNat 6) (pc := 62) (by decide +kernel) (by decide) ?_
  refine n_newa (t := 20) (N := 6) (n := 13) (aty := .int) (ty := .int) (index := 0) rfl (by omega) rfl (.inl ⟨rfl, rfl⟩) cx sx (hqZ9.fz fz hm) (show WF[13]? = some (20, 6, 13) from rfl) (in_t1 (List.mem_of_getElem? (i := 124) rfl) rfl) (Nat.le_of_ble_eq_true rfl) (Nat.le_of_ble_eq_true rfl) (pc := 64) (by decide +kernel) (fun H1 sx => ?_)
  refine n_putF (t := 9) (k := 3) (j := 6) (index := 34) cx sx (by omega) (by decide) (show WF[3]? = some (9, 0, 3) from rfl) (by decide) rfl (by rw [show (fp 9 6 3).2.2 = 13 from rfl, cx.2.2.2.2.2.2.2.2.1 13 (by omega)]) rfl (in_t1 (List.mem_of_getElem? (i := 173) rfl) rfl) rfl rfl (fun _ => rfl) (fun _ => rfl) (pc := 66) (by decide +kernel) (fun H1 locs1 sx => ?_)
  rw [← eZ10] at sx
  refine n_ald cx hl (i := 0) (k3 := 0) (t := 9) (k := 3) (pc := 69) rfl rfl (by omega) (by decide +kernel) ?_
  refine lv_bipush cx.1.1 cx.1.2.1 (n := 6) (v := Int32.ofNat 6) (pc := 70) (by decide +kernel) (by decide) ?_
  refine n_newa (t := 20) (N := 6) (n := 14) (aty := .int) (ty := .int) (index := 0) rfl (by omega) rfl (.inl ⟨rfl, rfl⟩) cx sx (hqZ10.fz fz hm) (show WF[14]? = some (20, 6, 14) from rfl) (in_t1 (List.mem_of_getElem? (i := 124) rfl) rfl) (Nat.le_of_ble_eq_true rfl) (Nat.le_of_ble_eq_true rfl) (pc := 72) (by decide +kernel) (fun H1 sx => ?_)
  refine n_putF (t := 9) (k := 3) (j := 7) (index := 37) cx sx (by omega) (by decide) (show WF[3]? = some (9, 0, 3) from rfl) (by decide) rfl (by rw [show (fp 9 7 3).2.2 = 14 from rfl, cx.2.2.2.2.2.2.2.2.1 14 (by omega)]) rfl (in_t1 (List.mem_of_getElem? (i := 176) rfl) rfl) rfl rfl (fun _ => rfl) (fun _ => rfl) (pc := 74) (by decide +kernel) (fun H1 locs1 sx => ?_)
  rw [← eZ11] at sx
  refine n_ald cx hl (i := 0) (k3 := 0) (t := 9) (k := 3) (pc := 77) rfl rfl (by omega) (by decide +kernel) ?_
  refine lv_bipush cx.1.1 cx.1.2.1 (n := 6) (v := Int32.ofNat 6) (pc := 78) (by decide +kernel) (by decide) ?_
  refine n_newa (t := 20) (N := 6) (n := 15) (aty := .int) (ty := .int) (index := 0) rfl (by omega) rfl (.inl ⟨rfl, rfl⟩) cx sx (hqZ11.fz fz hm) (show WF[15]? = some (20, 6, 15) from rfl) (in_t1 (List.mem_of_getElem? (i := 124) rfl) rfl) (Nat.le_of_ble_eq_true rfl) (Nat.le_of_ble_eq_true rfl) (pc := 80) (by decide +kernel) (fun H1 sx => ?_)
  refine n_putF (t := 9) (k := 3) (j := 8) (index := 40) cx sx (by omega) (by decide) (show WF[3]? = some (9, 0, 3) from rfl) (by decide) rfl (by rw [show (fp 9 8 3).2.2 = 15 from rfl, cx.2.2.2.2.2.2.2.2.1 15 (by omega)]) rfl (in_t1 (List.mem_of_getElem? (i := 180) rfl) rfl) rfl rfl (fun _ => rfl) (fun _ => rfl) (pc := 82) (by decide +kernel) (fun H1 locs1 sx => ?_)
  rw [← eZ12] at sx
  refine n_ald cx hl (i := 0) (k3 := 0) (t := 9) (k := 3) (pc := 85) rfl rfl (by omega) (by decide +kernel) ?_
  refine lv_bipush cx.1.1 cx.1.2.1 (n := 6) (v := Int32.ofNat 6) (pc := 86) (by decide +kernel) (by decide) ?_
  refine n_newa (t := 20) (N := 6) (n := 16) (aty := .int) (ty := .int) (index := 0) rfl (by omega) rfl (.inl ⟨rfl, rfl⟩) cx sx (hqZ12.fz fz hm) (show WF[16]? = some (20, 6, 16) from rfl) (in_t1 (List.mem_of_getElem? (i := 124) rfl) rfl) (Nat.le_of_ble_eq_true rfl) (Nat.le_of_ble_eq_true rfl) (pc := 88) (by decide +kernel) (fun H1 sx => ?_)
  refine n_putF (t := 9) (k := 3) (j := 9) (index := 43) cx sx (by omega) (by decide) (show WF[3]? = some (9, 0, 3) from rfl) (by decide) rfl (by rw [show (fp 9 9 3).2.2 = 16 from rfl, cx.2.2.2.2.2.2.2.2.1 16 (by omega)]) rfl (in_t1 (List.mem_of_getElem? (i := 182) rfl) rfl) rfl rfl (fun _ => rfl) (fun _ => rfl) (pc := 90) (by decide +kernel) (fun H1 locs1 sx => ?_)
  rw [← eZ13] at sx
  refine n_ald cx hl (i := 0) (k3 := 0) (t := 9) (k := 3) (pc := 93) rfl rfl (by omega) (by decide +kernel) ?_
  refine lv_bipush cx.1.1 cx.1.2.1 (n := 6) (v := Int32.ofNat 6) (pc := 94) (by decide +kernel) (by decide) ?_
  refine n_newa (t := 20) (N := 6) (n := 17) (aty := .int) (ty := .int) (index := 0) rfl (by omega) rfl (.inl ⟨rfl, rfl⟩) cx sx (hqZ13.fz fz hm) (show WF[17]? = some (20, 6, 17) from rfl) (in_t1 (List.mem_of_getElem? (i := 124) rfl) rfl) (Nat.le_of_ble_eq_true rfl) (Nat.le_of_ble_eq_true rfl) (pc := 96) (by decide +kernel) (fun H1 sx => ?_)
  refine n_putF (t := 9) (k := 3) (j := 10) (index := 46) cx sx (by omega) (by decide) (show WF[3]? = some (9, 0, 3) from rfl) (by decide) rfl (by rw [show (fp 9 10 3).2.2 = 17 from rfl, cx.2.2.2.2.2.2.2.2.1 17 (by omega)]) rfl (in_t1 (List.mem_of_getElem? (i := 186) rfl) rfl) rfl rfl (fun _ => rfl) (fun _ => rfl) (pc := 98) (by decide +kernel) (fun H1 locs1 sx => ?_)
  rw [← eZ14] at sx
  refine n_ald cx hl (i := 0) (k3 := 0) (t := 9) (k := 3) (pc := 101) rfl rfl (by omega) (by decide +kernel) ?_
  refine lv_bipush cx.1.1 cx.1.2.1 (n := 6) (v := Int32.ofNat 6) (pc := 102) (by decide +kernel) (by decide) ?_
  refine n_newa (t := 20) (N := 6) (n := 18) (aty := .int) (ty := .int) (index := 0) rfl (by omega) rfl (.inl ⟨rfl, rfl⟩) cx sx (hqZ14.fz fz hm) (show WF[18]? = some (20, 6, 18) from rfl) (in_t1 (List.mem_of_getElem? (i := 124) rfl) rfl) (Nat.le_of_ble_eq_true rfl) (Nat.le_of_ble_eq_true rfl) (pc := 104) (by decide +kernel) (fun H1 sx => ?_)
  refine n_putF (t := 9) (k := 3) (j := 11) (index := 49) cx sx (by omega) (by decide) (show WF[3]? = some (9, 0, 3) from rfl) (by decide) rfl (by rw [show (fp 9 11 3).2.2 = 18 from rfl, cx.2.2.2.2.2.2.2.2.1 18 (by omega)]) rfl (in_t1 (List.mem_of_getElem? (i := 191) rfl) rfl) rfl rfl (fun _ => rfl) (fun _ => rfl) (pc := 106) (by decide +kernel) (fun H1 locs1 sx => ?_)
  rw [← eZ15] at sx
  refine n_ald cx hl (i := 0) (k3 := 0) (t := 9) (k := 3) (pc := 109) rfl rfl (by omega) (by decide +kernel) ?_
  refine lv_bipush cx.1.1 cx.1.2.1 (n := 14) (v := Int32.ofNat 14) (pc := 110) (by decide +kernel) (by decide) ?_
  refine n_newa (t := 20) (N := 14) (n := 19) (aty := .int) (ty := .int) (index := 0) rfl (by omega) rfl (.inl ⟨rfl, rfl⟩) cx sx (hqZ15.fz fz hm) (show WF[19]? = some (20, 14, 19) from rfl) (in_t1 (List.mem_of_getElem? (i := 124) rfl) rfl) (Nat.le_of_ble_eq_true rfl) (Nat.le_of_ble_eq_true rfl) (pc := 112) (by decide +kernel) (fun H1 sx => ?_)
  refine n_putF (t := 9) (k := 3) (j := 13) (index := 52) cx sx (by omega) (by decide) (show WF[3]? = some (9, 0, 3) from rfl) (by decide) rfl (by rw [show (fp 9 13 3).2.2 = 19 from rfl, cx.2.2.2.2.2.2.2.2.1 19 (by omega)]) rfl (in_t1 (List.mem_of_getElem? (i := 195) rfl) rfl) rfl rfl (fun _ => rfl) (fun _ => rfl) (pc := 114) (by decide +kernel) (fun H1 locs1 sx => ?_)
  rw [← eZ16] at sx
  refine n_ald cx hl (i := 0) (k3 := 0) (t := 9) (k := 3) (pc := 117) rfl rfl (by omega) (by decide +kernel) ?_
  refine n_new (t := 1) (n := 20) (index := 55) cx sx (hqZ16.fz fz hm) (by decide) (show WF[20]? = some (1, 0, 20) from rfl) (in_t1 (List.mem_of_getElem? (i := 104) rfl) rfl) (in_t1 (List.mem_of_getElem? (i := 105) rfl) rfl) (in_t1 (List.mem_of_getElem? (i := 5) rfl) rfl) (Nat.le_of_ble_eq_true rfl) (Nat.le_of_ble_eq_true rfl) (pc := 118) (by decide +kernel) (fun H1 sx => ?_)
  refine lv_dup cx.1.1 cx.1.2.1 (pc := 121) (by decide +kernel) rfl ?_
  refine n_init (t := 1) (k := 20) (index := 57) (as := []) cc4 cx sx (by omega) hls (in_t1 (List.mem_of_getElem? (i := 108) rfl) rfl) (in_t1 (List.mem_of_getElem? (i := 5) rfl) rfl) (.inr ⟨"IceParliament$Law", by decide, rfl⟩) (in_t1 (List.mem_of_getElem? (i := 107) rfl) rfl) rfl ⟨by decide, by decide, rfl⟩ ⟨Nat.le_of_ble_eq_true rfl, Nat.le_of_ble_eq_true rfl⟩ ⟨Nat.le_of_ble_eq_true rfl, Nat.le_of_ble_eq_true rfl⟩ (Nat.le_of_ble_eq_true rfl) (pc := 122) (by decide +kernel) (fun H1 locs1 sx => ?_)
  refine n_putF (t := 9) (k := 3) (j := 16) (index := 58) cx sx (by omega) (by decide) (show WF[3]? = some (9, 0, 3) from rfl) (by decide) rfl (by rw [show (fp 9 16 3).2.2 = 20 from rfl, cx.2.2.2.2.2.2.2.2.1 20 (by omega)]) rfl (in_t1 (List.mem_of_getElem? (i := 203) rfl) rfl) rfl rfl (fun _ => rfl) (fun _ => rfl) (pc := 125) (by decide +kernel) (fun H1 locs1 sx => ?_)
  rw [← eZ18] at sx
  refine n_ald cx hl (i := 0) (k3 := 0) (t := 9) (k := 3) (pc := 128) rfl rfl (by omega) (by decide +kernel) ?_
  refine n_new (t := 1) (n := 23) (index := 55) cx sx (hqZ18.fz fz hm) (by decide) (show WF[23]? = some (1, 0, 23) from rfl) (in_t1 (List.mem_of_getElem? (i := 104) rfl) rfl) (in_t1 (List.mem_of_getElem? (i := 105) rfl) rfl) (in_t1 (List.mem_of_getElem? (i := 5) rfl) rfl) (Nat.le_of_ble_eq_true rfl) (Nat.le_of_ble_eq_true rfl) (pc := 129) (by decide +kernel) (fun H1 sx => ?_)
  refine lv_dup cx.1.1 cx.1.2.1 (pc := 132) (by decide +kernel) rfl ?_
  refine n_init (t := 1) (k := 23) (index := 57) (as := []) cc5 cx sx (by omega) hls (in_t1 (List.mem_of_getElem? (i := 108) rfl) rfl) (in_t1 (List.mem_of_getElem? (i := 5) rfl) rfl) (.inr ⟨"IceParliament$Law", by decide, rfl⟩) (in_t1 (List.mem_of_getElem? (i := 107) rfl) rfl) rfl ⟨by decide, by decide, rfl⟩ ⟨Nat.le_of_ble_eq_true rfl, Nat.le_of_ble_eq_true rfl⟩ ⟨Nat.le_of_ble_eq_true rfl, Nat.le_of_ble_eq_true rfl⟩ (Nat.le_of_ble_eq_true rfl) (pc := 133) (by decide +kernel) (fun H1 locs1 sx => ?_)
  refine n_putF (t := 9) (k := 3) (j := 17) (index := 62) cx sx (by omega) (by decide) (show WF[3]? = some (9, 0, 3) from rfl) (by decide) rfl (by rw [show (fp 9 17 3).2.2 = 23 from rfl, cx.2.2.2.2.2.2.2.2.1 23 (by omega)]) rfl (in_t1 (List.mem_of_getElem? (i := 204) rfl) rfl) rfl rfl (fun _ => rfl) (fun _ => rfl) (pc := 136) (by decide +kernel) (fun H1 locs1 sx => ?_)
  rw [← eZ20] at sx
  refine n_ald cx hl (i := 0) (k3 := 0) (t := 9) (k := 3) (pc := 139) rfl rfl (by omega) (by decide +kernel) ?_
  refine n_evI (x := 0) (t := 9) (k := 3) (index := 65) (as := []) (ks := (List.range 23).map (· + 3)) rfl ev1 rfl (by decide +kernel) (by decide) rfl (by decide +kernel) (by decide +kernel) (Clo_of (by decide +kernel)) (WT_of (by decide +kernel)) (by decide +kernel)
    (fun i hi b => by
      have z := (show ∀ i ∈ (List.range 23).map (· + 3), 3 ≤ i ∧ i < 26 from by decide +kernel) i hi
      exact pz.2 i z.1 z.2 b) hfr (fun v hv => by rcases List.mem_singleton.mp hv with rfl; exact .inl (show ((9, 0, 3) : Ref3) ∈ wI ((List.range 23).map (· + 3)) from by decide +kernel)) cx sx (by rw [hsz]) (by decide) hls (in_t1 (List.mem_of_getElem? (i := 125) rfl) rfl) (in_t1 (List.mem_of_getElem? (i := 126) rfl) rfl) (in_t1 (List.mem_of_getElem? (i := 127) rfl) rfl) rfl ⟨Nat.le_of_ble_eq_true rfl, Nat.le_of_ble_eq_true rfl⟩ ⟨Nat.le_of_ble_eq_true rfl, Nat.le_of_ble_eq_true rfl⟩ (Nat.le_of_ble_eq_true rfl) (pc := 140) (by decide +kernel) (fun H1 locs1 sx => ?_)
  exact n_ret cx sx (Nat.le_of_ble_eq_true rfl) (Nat.le_of_ble_eq_true rfl) (pc := 143) (by decide +kernel)
set_option maxRecDepth 20000 in
set_option maxHeartbeats 1000000 in
theorem c_Yard26 (fz : Fz 26 M Z) (hm : Mz 26 M) : ∃ M' Z', CNt ⟨"IceParliament$Yard", "<init>", "()V"⟩ prog_11_method_1_code 1 3 22 2164 [vR 9 0 26] 27 M Z 49 M' Z' ∧ PZ 26 49 Z Z' ∧ Fr (fun c _ => 26 ≤ c ∧ c ≤ 48) M M' := by
  have hq : QZ 26 [] 27 Z Z := QZ.start
  obtain ⟨Z1, cc1, p1⟩ := c_Roll (M := M) (Z := Z) (k := 27) (by omega) (show WF[27]? = some (4, 0, 27) from rfl) (show WF[28]? = some (23, 6, 28) from rfl) ((hq.fz fz hm).le (Nat.le_refl _)) ((hq.fz fz hm).mz)
  have hqZ1 := hq.sub p1 (by omega)
  obtain ⟨Z2, eZ2⟩ : ∃ Z2, Z2 = uZ Z1 26 0 := ⟨_, rfl⟩
  have hqZ2 := hqZ1.put eZ2
  obtain ⟨Z3, cc2, p2⟩ := c_Roll (M := M) (Z := Z2) (k := 29) (by omega) (show WF[29]? = some (4, 0, 29) from rfl) (show WF[30]? = some (23, 6, 30) from rfl) ((hqZ2.fz fz hm).le (Nat.le_refl _)) ((hqZ2.fz fz hm).mz)
  have hqZ3 := hqZ2.sub p2 (by omega)
  obtain ⟨Z4, eZ4⟩ : ∃ Z4, Z4 = uZ Z3 26 1 := ⟨_, rfl⟩
  have hqZ4 := hqZ3.put eZ4
  obtain ⟨Z5, cc3, p3⟩ := c_Roll (M := M) (Z := Z4) (k := 31) (by omega) (show WF[31]? = some (4, 0, 31) from rfl) (show WF[32]? = some (23, 6, 32) from rfl) ((hqZ4.fz fz hm).le (Nat.le_refl _)) ((hqZ4.fz fz hm).mz)
  have hqZ5 := hqZ4.sub p3 (by omega)
  obtain ⟨Z6, eZ6⟩ : ∃ Z6, Z6 = uZ Z5 26 2 := ⟨_, rfl⟩
  have hqZ6 := hqZ5.put eZ6
  have hqZ6a := hqZ6.arr fz (show WF[33]? = some (20, 6, 33) from rfl) (by decide)
  obtain ⟨Z7, eZ7⟩ : ∃ Z7, Z7 = uZ Z6 26 3 := ⟨_, rfl⟩
  have hqZ7 := hqZ6a.put eZ7
  have hqZ7a := hqZ7.arr fz (show WF[34]? = some (20, 6, 34) from rfl) (by decide)
  obtain ⟨Z8, eZ8⟩ : ∃ Z8, Z8 = uZ Z7 26 4 := ⟨_, rfl⟩
  have hqZ8 := hqZ7a.put eZ8
  have hqZ8a := hqZ8.arr fz (show WF[35]? = some (20, 6, 35) from rfl) (by decide)
  obtain ⟨Z9, eZ9⟩ : ∃ Z9, Z9 = uZ Z8 26 5 := ⟨_, rfl⟩
  have hqZ9 := hqZ8a.put eZ9
  have hqZ9a := hqZ9.arr fz (show WF[36]? = some (20, 6, 36) from rfl) (by decide)
  obtain ⟨Z10, eZ10⟩ : ∃ Z10, Z10 = uZ Z9 26 6 := ⟨_, rfl⟩
  have hqZ10 := hqZ9a.put eZ10
  have hqZ10a := hqZ10.arr fz (show WF[37]? = some (20, 6, 37) from rfl) (by decide)
  obtain ⟨Z11, eZ11⟩ : ∃ Z11, Z11 = uZ Z10 26 7 := ⟨_, rfl⟩
  have hqZ11 := hqZ10a.put eZ11
  have hqZ11a := hqZ11.arr fz (show WF[38]? = some (20, 6, 38) from rfl) (by decide)
  obtain ⟨Z12, eZ12⟩ : ∃ Z12, Z12 = uZ Z11 26 8 := ⟨_, rfl⟩
  have hqZ12 := hqZ11a.put eZ12
  have hqZ12a := hqZ12.arr fz (show WF[39]? = some (20, 6, 39) from rfl) (by decide)
  obtain ⟨Z13, eZ13⟩ : ∃ Z13, Z13 = uZ Z12 26 9 := ⟨_, rfl⟩
  have hqZ13 := hqZ12a.put eZ13
  have hqZ13a := hqZ13.arr fz (show WF[40]? = some (20, 6, 40) from rfl) (by decide)
  obtain ⟨Z14, eZ14⟩ : ∃ Z14, Z14 = uZ Z13 26 10 := ⟨_, rfl⟩
  have hqZ14 := hqZ13a.put eZ14
  have hqZ14a := hqZ14.arr fz (show WF[41]? = some (20, 6, 41) from rfl) (by decide)
  obtain ⟨Z15, eZ15⟩ : ∃ Z15, Z15 = uZ Z14 26 11 := ⟨_, rfl⟩
  have hqZ15 := hqZ14a.put eZ15
  have hqZ15a := hqZ15.arr fz (show WF[42]? = some (20, 14, 42) from rfl) (by decide)
  obtain ⟨Z16, eZ16⟩ : ∃ Z16, Z16 = uZ Z15 26 13 := ⟨_, rfl⟩
  have hqZ16 := hqZ15a.put eZ16
  obtain ⟨Z17, cc4, p4⟩ := c_Law (M := M) (Z := Z16) (k := 43) (by omega) (show WF[43]? = some (1, 0, 43) from rfl) (show WF[44]? = some (20, 1000, 44) from rfl) (show WF[45]? = some (20, 32, 45) from rfl) ((hqZ16.fz fz hm).le (Nat.le_refl _)) ((hqZ16.fz fz hm).mz)
  have hqZ17 := hqZ16.sub p4 (by omega)
  obtain ⟨Z18, eZ18⟩ : ∃ Z18, Z18 = uZ Z17 26 16 := ⟨_, rfl⟩
  have hqZ18 := hqZ17.put eZ18
  obtain ⟨Z19, cc5, p5⟩ := c_Law (M := M) (Z := Z18) (k := 46) (by omega) (show WF[46]? = some (1, 0, 46) from rfl) (show WF[47]? = some (20, 1000, 47) from rfl) (show WF[48]? = some (20, 32, 48) from rfl) ((hqZ18.fz fz hm).le (Nat.le_refl _)) ((hqZ18.fz fz hm).mz)
  have hqZ19 := hqZ18.sub p5 (by omega)
  obtain ⟨Z20, eZ20⟩ : ∃ Z20, Z20 = uZ Z19 26 17 := ⟨_, rfl⟩
  have hqZ20 := hqZ19.put eZ20
  obtain ⟨a1, M1, ev1, ha1, fr1, fa1⟩ := sp0d (d := 0) (M := M)
  subst ha1
  have pz := hqZ20.fin fz (show WF[26]? = some (9, 0, 26) from rfl) (by decide)
  have hfr : Fr (fun c _ => c ∈ (List.range 23).map (· + 26)) M M1 := fr1.up (fun c j z => (show ∀ c, 26 ≤ c → c < 49 → c ∈ (List.range 23).map (· + 26) from fun c h1 h2 => by rcases (show c = 26 ∨ c = 27 ∨ c = 28 ∨ c = 29 ∨ c = 30 ∨ c = 31 ∨ c = 32 ∨ c = 33 ∨ c = 34 ∨ c = 35 ∨ c = 36 ∨ c = 37 ∨ c = 38 ∨ c = 39 ∨ c = 40 ∨ c = 41 ∨ c = 42 ∨ c = 43 ∨ c = 44 ∨ c = 45 ∨ c = 46 ∨ c = 47 ∨ c = 48 by omega) with rfl | rfl | rfl | rfl | rfl | rfl | rfl | rfl | rfl | rfl | rfl | rfl | rfl | rfl | rfl | rfl | rfl | rfl | rfl | rfl | rfl | rfl | rfl <;> decide) c z.1 (by omega))
  refine ⟨M1, Z20, CNt_of (own := "IceParliament$Yard") (by decide) rfl rfl (Nat.le_of_ble_eq_true rfl) (fun B => Nat.le_add_right B _) ?_, hqZ20.fin fz (show WF[26]? = some (9, 0, 26) from rfl) (by decide), fr1⟩
  intro p l e s m args below meth c dC dI cA ρ B ls cx sx hsz hl
  have hls : ls.size = 1 := by obtain ⟨l0, h0, -⟩ := hl; exact h0.1
  refine n_ald cx hl (i := 0) (k3 := 0) (t := 9) (k := 26) (pc := 0) rfl rfl (by omega) (by decide +kernel) ?_
  refine n_obj (k := 26) (index := 3) cx hl (in_t1 (List.mem_of_getElem? (i := 82) rfl) rfl) (in_t1 (List.mem_of_getElem? (i := 33) rfl) rfl) (in_t1 (List.mem_of_getElem? (i := 34) rfl) rfl) ⟨Nat.le_of_ble_eq_true rfl, Nat.le_of_ble_eq_true rfl⟩ (by decide) (pc := 1) (by decide +kernel) ?_
  refine n_ald cx hl (i := 0) (k3 := 0) (t := 9) (k := 26) (pc := 4) rfl rfl (by omega) (by decide +kernel) ?_
  refine n_new (t := 4) (n := 27) (index := 9) cx sx (hq.fz fz hm) (by decide) (show WF[27]? = some (4, 0, 27) from rfl) (in_t1 (List.mem_of_getElem? (i := 83) rfl) rfl) (in_t1 (List.mem_of_getElem? (i := 84) rfl) rfl) (in_t1 (List.mem_of_getElem? (i := 4) rfl) rfl) (Nat.le_of_ble_eq_true rfl) (Nat.le_of_ble_eq_true rfl) (pc := 5) (by decide +kernel) (fun H1 sx => ?_)
  refine lv_dup cx.1.1 cx.1.2.1 (pc := 8) (by decide +kernel) rfl ?_
  refine n_init (t := 4) (k := 27) (index := 11) (as := []) cc1 cx sx (by omega) hls (in_t1 (List.mem_of_getElem? (i := 87) rfl) rfl) (in_t1 (List.mem_of_getElem? (i := 4) rfl) rfl) (.inr ⟨"IceParliament$Roll", by decide, rfl⟩) (in_t1 (List.mem_of_getElem? (i := 86) rfl) rfl) rfl ⟨by decide, by decide, rfl⟩ ⟨Nat.le_of_ble_eq_true rfl, Nat.le_of_ble_eq_true rfl⟩ ⟨Nat.le_of_ble_eq_true rfl, Nat.le_of_ble_eq_true rfl⟩ (Nat.le_of_ble_eq_true rfl) (pc := 9) (by decide +kernel) (fun H1 locs1 sx => ?_)
  refine n_putF (t := 9) (k := 26) (j := 0) (index := 12) cx sx (by omega) (by decide) (show WF[26]? = some (9, 0, 26) from rfl) (by decide) rfl (by rw [show (fp 9 0 26).2.2 = 27 from rfl, cx.2.2.2.2.2.2.2.2.1 27 (by omega)]) rfl (in_t1 (List.mem_of_getElem? (i := 144) rfl) rfl) rfl rfl (fun _ => rfl) (fun _ => rfl) (pc := 12) (by decide +kernel) (fun H1 locs1 sx => ?_)
  rw [← eZ2] at sx
  refine n_ald cx hl (i := 0) (k3 := 0) (t := 9) (k := 26) (pc := 15) rfl rfl (by omega) (by decide +kernel) ?_
  refine n_new (t := 4) (n := 29) (index := 9) cx sx (hqZ2.fz fz hm) (by decide) (show WF[29]? = some (4, 0, 29) from rfl) (in_t1 (List.mem_of_getElem? (i := 83) rfl) rfl) (in_t1 (List.mem_of_getElem? (i := 84) rfl) rfl) (in_t1 (List.mem_of_getElem? (i := 4) rfl) rfl) (Nat.le_of_ble_eq_true rfl) (Nat.le_of_ble_eq_true rfl) (pc := 16) (by decide +kernel) (fun H1 sx => ?_)
  refine lv_dup cx.1.1 cx.1.2.1 (pc := 19) (by decide +kernel) rfl ?_
  refine n_init (t := 4) (k := 29) (index := 11) (as := []) cc2 cx sx (by omega) hls (in_t1 (List.mem_of_getElem? (i := 87) rfl) rfl) (in_t1 (List.mem_of_getElem? (i := 4) rfl) rfl) (.inr ⟨"IceParliament$Roll", by decide, rfl⟩) (in_t1 (List.mem_of_getElem? (i := 86) rfl) rfl) rfl ⟨by decide, by decide, rfl⟩ ⟨Nat.le_of_ble_eq_true rfl, Nat.le_of_ble_eq_true rfl⟩ ⟨Nat.le_of_ble_eq_true rfl, Nat.le_of_ble_eq_true rfl⟩ (Nat.le_of_ble_eq_true rfl) (pc := 20) (by decide +kernel) (fun H1 locs1 sx => ?_)
  refine n_putF (t := 9) (k := 26) (j := 1) (index := 18) cx sx (by omega) (by decide) (show WF[26]? = some (9, 0, 26) from rfl) (by decide) rfl (by rw [show (fp 9 1 26).2.2 = 29 from rfl, cx.2.2.2.2.2.2.2.2.1 29 (by omega)]) rfl (in_t1 (List.mem_of_getElem? (i := 150) rfl) rfl) rfl rfl (fun _ => rfl) (fun _ => rfl) (pc := 23) (by decide +kernel) (fun H1 locs1 sx => ?_)
  rw [← eZ4] at sx
  refine n_ald cx hl (i := 0) (k3 := 0) (t := 9) (k := 26) (pc := 26) rfl rfl (by omega) (by decide +kernel) ?_
  refine n_new (t := 4) (n := 31) (index := 9) cx sx (hqZ4.fz fz hm) (by decide) (show WF[31]? = some (4, 0, 31) from rfl) (in_t1 (List.mem_of_getElem? (i := 83) rfl) rfl) (in_t1 (List.mem_of_getElem? (i := 84) rfl) rfl) (in_t1 (List.mem_of_getElem? (i := 4) rfl) rfl) (Nat.le_of_ble_eq_true rfl) (Nat.le_of_ble_eq_true rfl) (pc := 27) (by decide +kernel) (fun H1 sx => ?_)
  refine lv_dup cx.1.1 cx.1.2.1 (pc := 30) (by decide +kernel) rfl ?_
  refine n_init (t := 4) (k := 31) (index := 11) (as := []) cc3 cx sx (by omega) hls (in_t1 (List.mem_of_getElem? (i := 87) rfl) rfl) (in_t1 (List.mem_of_getElem? (i := 4) rfl) rfl) (.inr ⟨"IceParliament$Roll", by decide, rfl⟩) (in_t1 (List.mem_of_getElem? (i := 86) rfl) rfl) rfl ⟨by decide, by decide, rfl⟩ ⟨Nat.le_of_ble_eq_true rfl, Nat.le_of_ble_eq_true rfl⟩ ⟨Nat.le_of_ble_eq_true rfl, Nat.le_of_ble_eq_true rfl⟩ (Nat.le_of_ble_eq_true rfl) (pc := 31) (by decide +kernel) (fun H1 locs1 sx => ?_)
  refine n_putF (t := 9) (k := 26) (j := 2) (index := 21) cx sx (by omega) (by decide) (show WF[26]? = some (9, 0, 26) from rfl) (by decide) rfl (by rw [show (fp 9 2 26).2.2 = 31 from rfl, cx.2.2.2.2.2.2.2.2.1 31 (by omega)]) rfl (in_t1 (List.mem_of_getElem? (i := 157) rfl) rfl) rfl rfl (fun _ => rfl) (fun _ => rfl) (pc := 34) (by decide +kernel) (fun H1 locs1 sx => ?_)
  rw [← eZ6] at sx
  refine n_ald cx hl (i := 0) (k3 := 0) (t := 9) (k := 26) (pc := 37) rfl rfl (by omega) (by decide +kernel) ?_
  refine lv_bipush cx.1.1 cx.1.2.1 (n := 6) (v := Int32.ofNat 6) (pc := 38) (by decide +kernel) (by decide) ?_
  refine n_newa (t := 20) (N := 6) (n := 33) (aty := .int) (ty := .int) (index := 0) rfl (by omega) rfl (.inl ⟨rfl, rfl⟩) cx sx (hqZ6.fz fz hm) (show WF[33]? = some (20, 6, 33) from rfl) (in_t1 (List.mem_of_getElem? (i := 124) rfl) rfl) (Nat.le_of_ble_eq_true rfl) (Nat.le_of_ble_eq_true rfl) (pc := 40) (by decide +kernel) (fun H1 sx => ?_)
  refine n_putF (t := 9) (k := 26) (j := 3) (index := 24) cx sx (by omega) (by decide) (show WF[26]? = some (9, 0, 26) from rfl) (by decide) rfl (by rw [show (fp 9 3 26).2.2 = 33 from rfl, cx.2.2.2.2.2.2.2.2.1 33 (by omega)]) rfl (in_t1 (List.mem_of_getElem? (i := 165) rfl) rfl) rfl rfl (fun _ => rfl) (fun _ => rfl) (pc := 42) (by decide +kernel) (fun H1 locs1 sx => ?_)
  rw [← eZ7] at sx
  refine n_ald cx hl (i := 0) (k3 := 0) (t := 9) (k := 26) (pc := 45) rfl rfl (by omega) (by decide +kernel) ?_
  refine lv_bipush cx.1.1 cx.1.2.1 (n := 6) (v := Int32.ofNat 6) (pc := 46) (by decide +kernel) (by decide) ?_
  refine n_newa (t := 20) (N := 6) (n := 34) (aty := .int) (ty := .int) (index := 0) rfl (by omega) rfl (.inl ⟨rfl, rfl⟩) cx sx (hqZ7.fz fz hm) (show WF[34]? = some (20, 6, 34) from rfl) (in_t1 (List.mem_of_getElem? (i := 124) rfl) rfl) (Nat.le_of_ble_eq_true rfl) (Nat.le_of_ble_eq_true rfl) (pc := 48) (by decide +kernel) (fun H1 sx => ?_)
  refine n_putF (t := 9) (k := 26) (j := 4) (index := 28) cx sx (by omega) (by decide) (show WF[26]? = some (9, 0, 26) from rfl) (by decide) rfl (by rw [show (fp 9 4 26).2.2 = 34 from rfl, cx.2.2.2.2.2.2.2.2.1 34 (by omega)]) rfl (in_t1 (List.mem_of_getElem? (i := 167) rfl) rfl) rfl rfl (fun _ => rfl) (fun _ => rfl) (pc := 50) (by decide +kernel) (fun H1 locs1 sx => ?_)
  rw [← eZ8] at sx
  refine n_ald cx hl (i := 0) (k3 := 0) (t := 9) (k := 26) (pc := 53) rfl rfl (by omega) (by decide +kernel) ?_
  refine lv_bipush cx.1.1 cx.1.2.1 (n := 6) (v := Int32.ofNat 6) (pc := 54) (by decide +kernel) (by decide) ?_
  refine n_newa (t := 20) (N := 6) (n := 35) (aty := .int) (ty := .int) (index := 0) rfl (by omega) rfl (.inl ⟨rfl, rfl⟩) cx sx (hqZ8.fz fz hm) (show WF[35]? = some (20, 6, 35) from rfl) (in_t1 (List.mem_of_getElem? (i := 124) rfl) rfl) (Nat.le_of_ble_eq_true rfl) (Nat.le_of_ble_eq_true rfl) (pc := 56) (by decide +kernel) (fun H1 sx => ?_)
  refine n_putF (t := 9) (k := 26) (j := 5) (index := 31) cx sx (by omega) (by decide) (show WF[26]? = some (9, 0, 26) from rfl) (by decide) rfl (by rw [show (fp 9 5 26).2.2 = 35 from rfl, cx.2.2.2.2.2.2.2.2.1 35 (by omega)]) rfl (in_t1 (List.mem_of_getElem? (i := 170) rfl) rfl) rfl rfl (fun _ => rfl) (fun _ => rfl) (pc := 58) (by decide +kernel) (fun H1 locs1 sx => ?_)
  rw [← eZ9] at sx
  refine n_ald cx hl (i := 0) (k3 := 0) (t := 9) (k := 26) (pc := 61) rfl rfl (by omega) (by decide +kernel) ?_
  refine lv_bipush cx.1.1 cx.1.2.1 (n := 6) (v := Int32.ofNat 6) (pc := 62) (by decide +kernel) (by decide) ?_
  refine n_newa (t := 20) (N := 6) (n := 36) (aty := .int) (ty := .int) (index := 0) rfl (by omega) rfl (.inl ⟨rfl, rfl⟩) cx sx (hqZ9.fz fz hm) (show WF[36]? = some (20, 6, 36) from rfl) (in_t1 (List.mem_of_getElem? (i := 124) rfl) rfl) (Nat.le_of_ble_eq_true rfl) (Nat.le_of_ble_eq_true rfl) (pc := 64) (by decide +kernel) (fun H1 sx => ?_)
  refine n_putF (t := 9) (k := 26) (j := 6) (index := 34) cx sx (by omega) (by decide) (show WF[26]? = some (9, 0, 26) from rfl) (by decide) rfl (by rw [show (fp 9 6 26).2.2 = 36 from rfl, cx.2.2.2.2.2.2.2.2.1 36 (by omega)]) rfl (in_t1 (List.mem_of_getElem? (i := 173) rfl) rfl) rfl rfl (fun _ => rfl) (fun _ => rfl) (pc := 66) (by decide +kernel) (fun H1 locs1 sx => ?_)
  rw [← eZ10] at sx
  refine n_ald cx hl (i := 0) (k3 := 0) (t := 9) (k := 26) (pc := 69) rfl rfl (by omega) (by decide +kernel) ?_
  refine lv_bipush cx.1.1 cx.1.2.1 (n := 6) (v := Int32.ofNat 6) (pc := 70) (by decide +kernel) (by decide) ?_
  refine n_newa (t := 20) (N := 6) (n := 37) (aty := .int) (ty := .int) (index := 0) rfl (by omega) rfl (.inl ⟨rfl, rfl⟩) cx sx (hqZ10.fz fz hm) (show WF[37]? = some (20, 6, 37) from rfl) (in_t1 (List.mem_of_getElem? (i := 124) rfl) rfl) (Nat.le_of_ble_eq_true rfl) (Nat.le_of_ble_eq_true rfl) (pc := 72) (by decide +kernel) (fun H1 sx => ?_)
  refine n_putF (t := 9) (k := 26) (j := 7) (index := 37) cx sx (by omega) (by decide) (show WF[26]? = some (9, 0, 26) from rfl) (by decide) rfl (by rw [show (fp 9 7 26).2.2 = 37 from rfl, cx.2.2.2.2.2.2.2.2.1 37 (by omega)]) rfl (in_t1 (List.mem_of_getElem? (i := 176) rfl) rfl) rfl rfl (fun _ => rfl) (fun _ => rfl) (pc := 74) (by decide +kernel) (fun H1 locs1 sx => ?_)
  rw [← eZ11] at sx
  refine n_ald cx hl (i := 0) (k3 := 0) (t := 9) (k := 26) (pc := 77) rfl rfl (by omega) (by decide +kernel) ?_
  refine lv_bipush cx.1.1 cx.1.2.1 (n := 6) (v := Int32.ofNat 6) (pc := 78) (by decide +kernel) (by decide) ?_
  refine n_newa (t := 20) (N := 6) (n := 38) (aty := .int) (ty := .int) (index := 0) rfl (by omega) rfl (.inl ⟨rfl, rfl⟩) cx sx (hqZ11.fz fz hm) (show WF[38]? = some (20, 6, 38) from rfl) (in_t1 (List.mem_of_getElem? (i := 124) rfl) rfl) (Nat.le_of_ble_eq_true rfl) (Nat.le_of_ble_eq_true rfl) (pc := 80) (by decide +kernel) (fun H1 sx => ?_)
  refine n_putF (t := 9) (k := 26) (j := 8) (index := 40) cx sx (by omega) (by decide) (show WF[26]? = some (9, 0, 26) from rfl) (by decide) rfl (by rw [show (fp 9 8 26).2.2 = 38 from rfl, cx.2.2.2.2.2.2.2.2.1 38 (by omega)]) rfl (in_t1 (List.mem_of_getElem? (i := 180) rfl) rfl) rfl rfl (fun _ => rfl) (fun _ => rfl) (pc := 82) (by decide +kernel) (fun H1 locs1 sx => ?_)
  rw [← eZ12] at sx
  refine n_ald cx hl (i := 0) (k3 := 0) (t := 9) (k := 26) (pc := 85) rfl rfl (by omega) (by decide +kernel) ?_
  refine lv_bipush cx.1.1 cx.1.2.1 (n := 6) (v := Int32.ofNat 6) (pc := 86) (by decide +kernel) (by decide) ?_
  refine n_newa (t := 20) (N := 6) (n := 39) (aty := .int) (ty := .int) (index := 0) rfl (by omega) rfl (.inl ⟨rfl, rfl⟩) cx sx (hqZ12.fz fz hm) (show WF[39]? = some (20, 6, 39) from rfl) (in_t1 (List.mem_of_getElem? (i := 124) rfl) rfl) (Nat.le_of_ble_eq_true rfl) (Nat.le_of_ble_eq_true rfl) (pc := 88) (by decide +kernel) (fun H1 sx => ?_)
  refine n_putF (t := 9) (k := 26) (j := 9) (index := 43) cx sx (by omega) (by decide) (show WF[26]? = some (9, 0, 26) from rfl) (by decide) rfl (by rw [show (fp 9 9 26).2.2 = 39 from rfl, cx.2.2.2.2.2.2.2.2.1 39 (by omega)]) rfl (in_t1 (List.mem_of_getElem? (i := 182) rfl) rfl) rfl rfl (fun _ => rfl) (fun _ => rfl) (pc := 90) (by decide +kernel) (fun H1 locs1 sx => ?_)
  rw [← eZ13] at sx
  refine n_ald cx hl (i := 0) (k3 := 0) (t := 9) (k := 26) (pc := 93) rfl rfl (by omega) (by decide +kernel) ?_
  refine lv_bipush cx.1.1 cx.1.2.1 (n := 6) (v := Int32.ofNat 6) (pc := 94) (by decide +kernel) (by decide) ?_
  refine n_newa (t := 20) (N := 6) (n := 40) (aty := .int) (ty := .int) (index := 0) rfl (by omega) rfl (.inl ⟨rfl, rfl⟩) cx sx (hqZ13.fz fz hm) (show WF[40]? = some (20, 6, 40) from rfl) (in_t1 (List.mem_of_getElem? (i := 124) rfl) rfl) (Nat.le_of_ble_eq_true rfl) (Nat.le_of_ble_eq_true rfl) (pc := 96) (by decide +kernel) (fun H1 sx => ?_)
  refine n_putF (t := 9) (k := 26) (j := 10) (index := 46) cx sx (by omega) (by decide) (show WF[26]? = some (9, 0, 26) from rfl) (by decide) rfl (by rw [show (fp 9 10 26).2.2 = 40 from rfl, cx.2.2.2.2.2.2.2.2.1 40 (by omega)]) rfl (in_t1 (List.mem_of_getElem? (i := 186) rfl) rfl) rfl rfl (fun _ => rfl) (fun _ => rfl) (pc := 98) (by decide +kernel) (fun H1 locs1 sx => ?_)
  rw [← eZ14] at sx
  refine n_ald cx hl (i := 0) (k3 := 0) (t := 9) (k := 26) (pc := 101) rfl rfl (by omega) (by decide +kernel) ?_
  refine lv_bipush cx.1.1 cx.1.2.1 (n := 6) (v := Int32.ofNat 6) (pc := 102) (by decide +kernel) (by decide) ?_
  refine n_newa (t := 20) (N := 6) (n := 41) (aty := .int) (ty := .int) (index := 0) rfl (by omega) rfl (.inl ⟨rfl, rfl⟩) cx sx (hqZ14.fz fz hm) (show WF[41]? = some (20, 6, 41) from rfl) (in_t1 (List.mem_of_getElem? (i := 124) rfl) rfl) (Nat.le_of_ble_eq_true rfl) (Nat.le_of_ble_eq_true rfl) (pc := 104) (by decide +kernel) (fun H1 sx => ?_)
  refine n_putF (t := 9) (k := 26) (j := 11) (index := 49) cx sx (by omega) (by decide) (show WF[26]? = some (9, 0, 26) from rfl) (by decide) rfl (by rw [show (fp 9 11 26).2.2 = 41 from rfl, cx.2.2.2.2.2.2.2.2.1 41 (by omega)]) rfl (in_t1 (List.mem_of_getElem? (i := 191) rfl) rfl) rfl rfl (fun _ => rfl) (fun _ => rfl) (pc := 106) (by decide +kernel) (fun H1 locs1 sx => ?_)
  rw [← eZ15] at sx
  refine n_ald cx hl (i := 0) (k3 := 0) (t := 9) (k := 26) (pc := 109) rfl rfl (by omega) (by decide +kernel) ?_
  refine lv_bipush cx.1.1 cx.1.2.1 (n := 14) (v := Int32.ofNat 14) (pc := 110) (by decide +kernel) (by decide) ?_
  refine n_newa (t := 20) (N := 14) (n := 42) (aty := .int) (ty := .int) (index := 0) rfl (by omega) rfl (.inl ⟨rfl, rfl⟩) cx sx (hqZ15.fz fz hm) (show WF[42]? = some (20, 14, 42) from rfl) (in_t1 (List.mem_of_getElem? (i := 124) rfl) rfl) (Nat.le_of_ble_eq_true rfl) (Nat.le_of_ble_eq_true rfl) (pc := 112) (by decide +kernel) (fun H1 sx => ?_)
  refine n_putF (t := 9) (k := 26) (j := 13) (index := 52) cx sx (by omega) (by decide) (show WF[26]? = some (9, 0, 26) from rfl) (by decide) rfl (by rw [show (fp 9 13 26).2.2 = 42 from rfl, cx.2.2.2.2.2.2.2.2.1 42 (by omega)]) rfl (in_t1 (List.mem_of_getElem? (i := 195) rfl) rfl) rfl rfl (fun _ => rfl) (fun _ => rfl) (pc := 114) (by decide +kernel) (fun H1 locs1 sx => ?_)
  rw [← eZ16] at sx
  refine n_ald cx hl (i := 0) (k3 := 0) (t := 9) (k := 26) (pc := 117) rfl rfl (by omega) (by decide +kernel) ?_
  refine n_new (t := 1) (n := 43) (index := 55) cx sx (hqZ16.fz fz hm) (by decide) (show WF[43]? = some (1, 0, 43) from rfl) (in_t1 (List.mem_of_getElem? (i := 104) rfl) rfl) (in_t1 (List.mem_of_getElem? (i := 105) rfl) rfl) (in_t1 (List.mem_of_getElem? (i := 5) rfl) rfl) (Nat.le_of_ble_eq_true rfl) (Nat.le_of_ble_eq_true rfl) (pc := 118) (by decide +kernel) (fun H1 sx => ?_)
  refine lv_dup cx.1.1 cx.1.2.1 (pc := 121) (by decide +kernel) rfl ?_
  refine n_init (t := 1) (k := 43) (index := 57) (as := []) cc4 cx sx (by omega) hls (in_t1 (List.mem_of_getElem? (i := 108) rfl) rfl) (in_t1 (List.mem_of_getElem? (i := 5) rfl) rfl) (.inr ⟨"IceParliament$Law", by decide, rfl⟩) (in_t1 (List.mem_of_getElem? (i := 107) rfl) rfl) rfl ⟨by decide, by decide, rfl⟩ ⟨Nat.le_of_ble_eq_true rfl, Nat.le_of_ble_eq_true rfl⟩ ⟨Nat.le_of_ble_eq_true rfl, Nat.le_of_ble_eq_true rfl⟩ (Nat.le_of_ble_eq_true rfl) (pc := 122) (by decide +kernel) (fun H1 locs1 sx => ?_)
  refine n_putF (t := 9) (k := 26) (j := 16) (index := 58) cx sx (by omega) (by decide) (show WF[26]? = some (9, 0, 26) from rfl) (by decide) rfl (by rw [show (fp 9 16 26).2.2 = 43 from rfl, cx.2.2.2.2.2.2.2.2.1 43 (by omega)]) rfl (in_t1 (List.mem_of_getElem? (i := 203) rfl) rfl) rfl rfl (fun _ => rfl) (fun _ => rfl) (pc := 125) (by decide +kernel) (fun H1 locs1 sx => ?_)
  rw [← eZ18] at sx
  refine n_ald cx hl (i := 0) (k3 := 0) (t := 9) (k := 26) (pc := 128) rfl rfl (by omega) (by decide +kernel) ?_
  refine n_new (t := 1) (n := 46) (index := 55) cx sx (hqZ18.fz fz hm) (by decide) (show WF[46]? = some (1, 0, 46) from rfl) (in_t1 (List.mem_of_getElem? (i := 104) rfl) rfl) (in_t1 (List.mem_of_getElem? (i := 105) rfl) rfl) (in_t1 (List.mem_of_getElem? (i := 5) rfl) rfl) (Nat.le_of_ble_eq_true rfl) (Nat.le_of_ble_eq_true rfl) (pc := 129) (by decide +kernel) (fun H1 sx => ?_)
  refine lv_dup cx.1.1 cx.1.2.1 (pc := 132) (by decide +kernel) rfl ?_
  refine n_init (t := 1) (k := 46) (index := 57) (as := []) cc5 cx sx (by omega) hls (in_t1 (List.mem_of_getElem? (i := 108) rfl) rfl) (in_t1 (List.mem_of_getElem? (i := 5) rfl) rfl) (.inr ⟨"IceParliament$Law", by decide, rfl⟩) (in_t1 (List.mem_of_getElem? (i := 107) rfl) rfl) rfl ⟨by decide, by decide, rfl⟩ ⟨Nat.le_of_ble_eq_true rfl, Nat.le_of_ble_eq_true rfl⟩ ⟨Nat.le_of_ble_eq_true rfl, Nat.le_of_ble_eq_true rfl⟩ (Nat.le_of_ble_eq_true rfl) (pc := 133) (by decide +kernel) (fun H1 locs1 sx => ?_)
  refine n_putF (t := 9) (k := 26) (j := 17) (index := 62) cx sx (by omega) (by decide) (show WF[26]? = some (9, 0, 26) from rfl) (by decide) rfl (by rw [show (fp 9 17 26).2.2 = 46 from rfl, cx.2.2.2.2.2.2.2.2.1 46 (by omega)]) rfl (in_t1 (List.mem_of_getElem? (i := 204) rfl) rfl) rfl rfl (fun _ => rfl) (fun _ => rfl) (pc := 136) (by decide +kernel) (fun H1 locs1 sx => ?_)
  rw [← eZ20] at sx
  refine n_ald cx hl (i := 0) (k3 := 0) (t := 9) (k := 26) (pc := 139) rfl rfl (by omega) (by decide +kernel) ?_
  refine n_evI (x := 0) (t := 9) (k := 26) (index := 65) (as := []) (ks := (List.range 23).map (· + 26)) rfl ev1 rfl (by decide +kernel) (by decide) rfl (by decide +kernel) (by decide +kernel) (Clo_of (by decide +kernel)) (WT_of (by decide +kernel)) (by decide +kernel)
    (fun i hi b => by
      have z := (show ∀ i ∈ (List.range 23).map (· + 26), 26 ≤ i ∧ i < 49 from by decide +kernel) i hi
      exact pz.2 i z.1 z.2 b) hfr (fun v hv => by rcases List.mem_singleton.mp hv with rfl; exact .inl (show ((9, 0, 26) : Ref3) ∈ wI ((List.range 23).map (· + 26)) from by decide +kernel)) cx sx (by rw [hsz]) (by decide) hls (in_t1 (List.mem_of_getElem? (i := 125) rfl) rfl) (in_t1 (List.mem_of_getElem? (i := 126) rfl) rfl) (in_t1 (List.mem_of_getElem? (i := 127) rfl) rfl) rfl ⟨Nat.le_of_ble_eq_true rfl, Nat.le_of_ble_eq_true rfl⟩ ⟨Nat.le_of_ble_eq_true rfl, Nat.le_of_ble_eq_true rfl⟩ (Nat.le_of_ble_eq_true rfl) (pc := 140) (by decide +kernel) (fun H1 locs1 sx => ?_)
  exact n_ret cx sx (Nat.le_of_ble_eq_true rfl) (Nat.le_of_ble_eq_true rfl) (pc := 143) (by decide +kernel)
set_option maxRecDepth 20000 in
set_option maxHeartbeats 1000000 in
theorem c_State60 (fz : Fz 60 M Z) (hm : Mz 60 M) (hY : ∀ a, 3 ≤ a → a ≤ 25 → ∀ b, Z a b = false) : ∃ M' Z', CNt ⟨"IceParliament$State", "<init>", "(LIceParliament$Yard;)V"⟩ prog_8_method_1_code 2 3 6 36 [vR 6 0 60, vR 9 0 3] 61 M Z 67 M' Z' ∧ PZ 60 67 Z Z' ∧ SC (staS M.1) 60 M' ∧ Fr (fun c _ => 60 ≤ c ∧ c ≤ 60 + 6) M M' := by
  have hq : QZ 60 [] 61 Z Z := QZ.start
  have hqa := hq.arr fz (show WF[61]? = some (20, 6, 61) from rfl) (by decide)
  obtain ⟨Z1, eZ1⟩ : ∃ Z1, Z1 = uZ Z 60 1 := ⟨_, rfl⟩
  have hqZ1 := hqa.put eZ1
  have hqZ1a := hqZ1.arr fz (show WF[62]? = some (20, 6, 62) from rfl) (by decide)
  obtain ⟨Z2, eZ2⟩ : ∃ Z2, Z2 = uZ Z1 60 2 := ⟨_, rfl⟩
  have hqZ2 := hqZ1a.put eZ2
  have hqZ2a := hqZ2.arr fz (show WF[63]? = some (20, 6, 63) from rfl) (by decide)
  obtain ⟨Z3, eZ3⟩ : ∃ Z3, Z3 = uZ Z2 60 3 := ⟨_, rfl⟩
  have hqZ3 := hqZ2a.put eZ3
  have hqZ3a := hqZ3.arr fz (show WF[64]? = some (20, 6, 64) from rfl) (by decide)
  obtain ⟨Z4, eZ4⟩ : ∃ Z4, Z4 = uZ Z3 60 4 := ⟨_, rfl⟩
  have hqZ4 := hqZ3a.put eZ4
  have hqZ4a := hqZ4.arr fz (show WF[65]? = some (20, 6, 65) from rfl) (by decide)
  obtain ⟨Z5, eZ5⟩ : ∃ Z5, Z5 = uZ Z4 60 5 := ⟨_, rfl⟩
  have hqZ5 := hqZ4a.put eZ5
  have hqZ5a := hqZ5.arr fz (show WF[66]? = some (20, 6, 66) from rfl) (by decide)
  obtain ⟨Z6, eZ6⟩ : ∃ Z6, Z6 = uZ Z5 60 6 := ⟨_, rfl⟩
  have hqZ6 := hqZ5a.put eZ6
  obtain ⟨Z7, eZ7⟩ : ∃ Z7, Z7 = uZ Z6 60 10 := ⟨_, rfl⟩
  have hqZ7 := hqZ6.put eZ7
  obtain ⟨a1, M1, ev1, ha1, sc1, fr1⟩ := sp5 (d := 0) (Y := M.1) (M := M) (k := 60) ⟨rfl, rfl, rfl, rfl, rfl, rfl, rfl, rfl, rfl, rfl, rfl, rfl, rfl, rfl, rfl, rfl, rfl, rfl⟩ (by decide)
  subst ha1
  have pz := hqZ7.fin fz (show WF[60]? = some (6, 0, 60) from rfl) (by decide)
  have hfr : Fr (fun c _ => c ∈ (List.range 23).map (· + 3) ++ (List.range 7).map (· + 60)) M M1 := fr1.up (fun c j z => (show ∀ c, 60 ≤ c → c < 67 → c ∈ (List.range 23).map (· + 3) ++ (List.range 7).map (· + 60) from fun c h1 h2 => by rcases (show c = 60 ∨ c = 61 ∨ c = 62 ∨ c = 63 ∨ c = 64 ∨ c = 65 ∨ c = 66 by omega) with rfl | rfl | rfl | rfl | rfl | rfl | rfl <;> decide) c z.1 (by omega))
  refine ⟨M1, Z7, CNt_of (own := "IceParliament$State") (by decide) rfl rfl (Nat.le_of_ble_eq_true rfl) (fun B => Nat.le_add_right B _) ?_, hqZ7.fin fz (show WF[60]? = some (6, 0, 60) from rfl) (by decide), sc1, fr1⟩
  intro p l e s m args below meth c dC dI cA ρ B ls cx sx hsz hl
  have hls : ls.size = 2 := by obtain ⟨l0, h0, -⟩ := hl; exact h0.1
  refine n_ald cx hl (i := 0) (k3 := 0) (t := 6) (k := 60) (pc := 0) rfl rfl (by omega) (by decide +kernel) ?_
  refine n_obj (k := 60) (index := 3) cx hl (in_t2 (List.mem_of_getElem? (i := 76) rfl) rfl) (in_t1 (List.mem_of_getElem? (i := 33) rfl) rfl) (in_t1 (List.mem_of_getElem? (i := 34) rfl) rfl) ⟨Nat.le_of_ble_eq_true rfl, Nat.le_of_ble_eq_true rfl⟩ (by decide) (pc := 1) (by decide +kernel) ?_
  refine n_ald cx hl (i := 0) (k3 := 0) (t := 6) (k := 60) (pc := 4) rfl rfl (by omega) (by decide +kernel) ?_
  refine lv_bipush cx.1.1 cx.1.2.1 (n := 6) (v := Int32.ofNat 6) (pc := 5) (by decide +kernel) (by decide) ?_
  refine n_newa (t := 20) (N := 6) (n := 61) (aty := .int) (ty := .int) (index := 0) rfl (by omega) rfl (.inl ⟨rfl, rfl⟩) cx sx (hq.fz fz hm) (show WF[61]? = some (20, 6, 61) from rfl) (in_t1 (List.mem_of_getElem? (i := 124) rfl) rfl) (Nat.le_of_ble_eq_true rfl) (Nat.le_of_ble_eq_true rfl) (pc := 7) (by decide +kernel) (fun H1 sx => ?_)
  refine n_putF (t := 6) (k := 60) (j := 1) (index := 9) cx sx (by omega) (by decide) (show WF[60]? = some (6, 0, 60) from rfl) (by decide) rfl (by rw [show (fp 6 1 60).2.2 = 61 from rfl, cx.2.2.2.2.2.2.2.2.1 61 (by omega)]) rfl (in_t2 (List.mem_of_getElem? (i := 88) rfl) rfl) rfl rfl (fun _ => rfl) (fun _ => rfl) (pc := 9) (by decide +kernel) (fun H1 locs1 sx => ?_)
  rw [← eZ1] at sx
  refine n_ald cx hl (i := 0) (k3 := 0) (t := 6) (k := 60) (pc := 12) rfl rfl (by omega) (by decide +kernel) ?_
  refine lv_bipush cx.1.1 cx.1.2.1 (n := 6) (v := Int32.ofNat 6) (pc := 13) (by decide +kernel) (by decide) ?_
  refine n_newa (t := 20) (N := 6) (n := 62) (aty := .int) (ty := .int) (index := 0) rfl (by omega) rfl (.inl ⟨rfl, rfl⟩) cx sx (hqZ1.fz fz hm) (show WF[62]? = some (20, 6, 62) from rfl) (in_t1 (List.mem_of_getElem? (i := 124) rfl) rfl) (Nat.le_of_ble_eq_true rfl) (Nat.le_of_ble_eq_true rfl) (pc := 15) (by decide +kernel) (fun H1 sx => ?_)
  refine n_putF (t := 6) (k := 60) (j := 2) (index := 15) cx sx (by omega) (by decide) (show WF[60]? = some (6, 0, 60) from rfl) (by decide) rfl (by rw [show (fp 6 2 60).2.2 = 62 from rfl, cx.2.2.2.2.2.2.2.2.1 62 (by omega)]) rfl (in_t2 (List.mem_of_getElem? (i := 92) rfl) rfl) rfl rfl (fun _ => rfl) (fun _ => rfl) (pc := 17) (by decide +kernel) (fun H1 locs1 sx => ?_)
  rw [← eZ2] at sx
  refine n_ald cx hl (i := 0) (k3 := 0) (t := 6) (k := 60) (pc := 20) rfl rfl (by omega) (by decide +kernel) ?_
  refine lv_bipush cx.1.1 cx.1.2.1 (n := 6) (v := Int32.ofNat 6) (pc := 21) (by decide +kernel) (by decide) ?_
  refine n_newa (t := 20) (N := 6) (n := 63) (aty := .int) (ty := .int) (index := 0) rfl (by omega) rfl (.inl ⟨rfl, rfl⟩) cx sx (hqZ2.fz fz hm) (show WF[63]? = some (20, 6, 63) from rfl) (in_t1 (List.mem_of_getElem? (i := 124) rfl) rfl) (Nat.le_of_ble_eq_true rfl) (Nat.le_of_ble_eq_true rfl) (pc := 23) (by decide +kernel) (fun H1 sx => ?_)
  refine n_putF (t := 6) (k := 60) (j := 3) (index := 18) cx sx (by omega) (by decide) (show WF[60]? = some (6, 0, 60) from rfl) (by decide) rfl (by rw [show (fp 6 3 60).2.2 = 63 from rfl, cx.2.2.2.2.2.2.2.2.1 63 (by omega)]) rfl (in_t2 (List.mem_of_getElem? (i := 95) rfl) rfl) rfl rfl (fun _ => rfl) (fun _ => rfl) (pc := 25) (by decide +kernel) (fun H1 locs1 sx => ?_)
  rw [← eZ3] at sx
  refine n_ald cx hl (i := 0) (k3 := 0) (t := 6) (k := 60) (pc := 28) rfl rfl (by omega) (by decide +kernel) ?_
  refine lv_bipush cx.1.1 cx.1.2.1 (n := 6) (v := Int32.ofNat 6) (pc := 29) (by decide +kernel) (by decide) ?_
  refine n_newa (t := 20) (N := 6) (n := 64) (aty := .int) (ty := .int) (index := 0) rfl (by omega) rfl (.inl ⟨rfl, rfl⟩) cx sx (hqZ3.fz fz hm) (show WF[64]? = some (20, 6, 64) from rfl) (in_t1 (List.mem_of_getElem? (i := 124) rfl) rfl) (Nat.le_of_ble_eq_true rfl) (Nat.le_of_ble_eq_true rfl) (pc := 31) (by decide +kernel) (fun H1 sx => ?_)
  refine n_putF (t := 6) (k := 60) (j := 4) (index := 21) cx sx (by omega) (by decide) (show WF[60]? = some (6, 0, 60) from rfl) (by decide) rfl (by rw [show (fp 6 4 60).2.2 = 64 from rfl, cx.2.2.2.2.2.2.2.2.1 64 (by omega)]) rfl (in_t2 (List.mem_of_getElem? (i := 99) rfl) rfl) rfl rfl (fun _ => rfl) (fun _ => rfl) (pc := 33) (by decide +kernel) (fun H1 locs1 sx => ?_)
  rw [← eZ4] at sx
  refine n_ald cx hl (i := 0) (k3 := 0) (t := 6) (k := 60) (pc := 36) rfl rfl (by omega) (by decide +kernel) ?_
  refine lv_bipush cx.1.1 cx.1.2.1 (n := 6) (v := Int32.ofNat 6) (pc := 37) (by decide +kernel) (by decide) ?_
  refine n_newa (t := 20) (N := 6) (n := 65) (aty := .int) (ty := .int) (index := 0) rfl (by omega) rfl (.inl ⟨rfl, rfl⟩) cx sx (hqZ4.fz fz hm) (show WF[65]? = some (20, 6, 65) from rfl) (in_t1 (List.mem_of_getElem? (i := 124) rfl) rfl) (Nat.le_of_ble_eq_true rfl) (Nat.le_of_ble_eq_true rfl) (pc := 39) (by decide +kernel) (fun H1 sx => ?_)
  refine n_putF (t := 6) (k := 60) (j := 5) (index := 24) cx sx (by omega) (by decide) (show WF[60]? = some (6, 0, 60) from rfl) (by decide) rfl (by rw [show (fp 6 5 60).2.2 = 65 from rfl, cx.2.2.2.2.2.2.2.2.1 65 (by omega)]) rfl (in_t2 (List.mem_of_getElem? (i := 102) rfl) rfl) rfl rfl (fun _ => rfl) (fun _ => rfl) (pc := 41) (by decide +kernel) (fun H1 locs1 sx => ?_)
  rw [← eZ5] at sx
  refine n_ald cx hl (i := 0) (k3 := 0) (t := 6) (k := 60) (pc := 44) rfl rfl (by omega) (by decide +kernel) ?_
  refine lv_bipush cx.1.1 cx.1.2.1 (n := 6) (v := Int32.ofNat 6) (pc := 45) (by decide +kernel) (by decide) ?_
  refine n_newa (t := 20) (N := 6) (n := 66) (aty := .int) (ty := .int) (index := 0) rfl (by omega) rfl (.inl ⟨rfl, rfl⟩) cx sx (hqZ5.fz fz hm) (show WF[66]? = some (20, 6, 66) from rfl) (in_t1 (List.mem_of_getElem? (i := 124) rfl) rfl) (Nat.le_of_ble_eq_true rfl) (Nat.le_of_ble_eq_true rfl) (pc := 47) (by decide +kernel) (fun H1 sx => ?_)
  refine n_putF (t := 6) (k := 60) (j := 6) (index := 27) cx sx (by omega) (by decide) (show WF[60]? = some (6, 0, 60) from rfl) (by decide) rfl (by rw [show (fp 6 6 60).2.2 = 66 from rfl, cx.2.2.2.2.2.2.2.2.1 66 (by omega)]) rfl (in_t2 (List.mem_of_getElem? (i := 106) rfl) rfl) rfl rfl (fun _ => rfl) (fun _ => rfl) (pc := 49) (by decide +kernel) (fun H1 locs1 sx => ?_)
  rw [← eZ6] at sx
  refine n_ald cx hl (i := 0) (k3 := 0) (t := 6) (k := 60) (pc := 52) rfl rfl (by omega) (by decide +kernel) ?_
  refine n_ald cx hl (i := 1) (k3 := 1) (t := 9) (k := 3) (pc := 53) rfl rfl (by omega) (by decide +kernel) ?_
  refine n_putF (t := 6) (k := 60) (j := 10) (index := 30) cx sx (by omega) (by decide) (show WF[60]? = some (6, 0, 60) from rfl) (by decide) rfl (by rw [show (fp 6 10 60).2.2 = 3 from rfl, cx.2.2.2.2.2.2.2.2.1 3 (by omega)]) rfl (in_t2 (List.mem_of_getElem? (i := 116) rfl) rfl) rfl rfl (fun _ => rfl) (fun _ => rfl) (pc := 54) (by decide +kernel) (fun H1 locs1 sx => ?_)
  rw [← eZ7] at sx
  refine n_ald cx hl (i := 0) (k3 := 0) (t := 6) (k := 60) (pc := 57) rfl rfl (by omega) (by decide +kernel) ?_
  refine n_evI (x := 5) (t := 6) (k := 60) (index := 34) (as := []) (ks := (List.range 23).map (· + 3) ++ (List.range 7).map (· + 60)) rfl ev1 rfl (by decide +kernel) (by decide) rfl (by decide +kernel) (by decide +kernel) (Clo_of (by decide +kernel)) (WT_of (by decide +kernel)) (by decide +kernel)
    (fun i hi b => by
      rcases (show ∀ i ∈ (List.range 23).map (· + 3) ++ (List.range 7).map (· + 60), (3 ≤ i ∧ i ≤ 25) ∨ (60 ≤ i ∧ i < 67) from by decide +kernel) i hi with z | z
      · rw [pz.1 i b (.inl (by omega))]; exact hY i z.1 z.2 b
      · exact pz.2 i z.1 z.2 b) hfr (fun v hv => by rcases List.mem_singleton.mp hv with rfl; exact .inl (show ((6, 0, 60) : Ref3) ∈ wI ((List.range 23).map (· + 3) ++ (List.range 7).map (· + 60)) from by decide +kernel)) cx sx (by rw [hsz]) (by decide) hls (in_t2 (List.mem_of_getElem? (i := 77) rfl) rfl) (in_t2 (List.mem_of_getElem? (i := 78) rfl) rfl) (in_t2 (List.mem_of_getElem? (i := 79) rfl) rfl) rfl ⟨Nat.le_of_ble_eq_true rfl, Nat.le_of_ble_eq_true rfl⟩ ⟨Nat.le_of_ble_eq_true rfl, Nat.le_of_ble_eq_true rfl⟩ (Nat.le_of_ble_eq_true rfl) (pc := 58) (by decide +kernel) (fun H1 locs1 sx => ?_)
  exact n_ret cx sx (Nat.le_of_ble_eq_true rfl) (Nat.le_of_ble_eq_true rfl) (pc := 61) (by decide +kernel)
set_option maxRecDepth 20000 in
set_option maxHeartbeats 1000000 in
theorem c_State106 (fz : Fz 106 M Z) (hm : Mz 106 M) (hY : ∀ a, 3 ≤ a → a ≤ 25 → ∀ b, Z a b = false) : ∃ M' Z', CNt ⟨"IceParliament$State", "<init>", "(LIceParliament$Yard;)V"⟩ prog_8_method_1_code 2 3 6 36 [vR 6 0 106, vR 9 0 3] 107 M Z 113 M' Z' ∧ PZ 106 113 Z Z' ∧ SC (staS M.1) 106 M' ∧ Fr (fun c _ => 106 ≤ c ∧ c ≤ 106 + 6) M M' := by
  have hq : QZ 106 [] 107 Z Z := QZ.start
  have hqa := hq.arr fz (show WF[107]? = some (20, 6, 107) from rfl) (by decide)
  obtain ⟨Z1, eZ1⟩ : ∃ Z1, Z1 = uZ Z 106 1 := ⟨_, rfl⟩
  have hqZ1 := hqa.put eZ1
  have hqZ1a := hqZ1.arr fz (show WF[108]? = some (20, 6, 108) from rfl) (by decide)
  obtain ⟨Z2, eZ2⟩ : ∃ Z2, Z2 = uZ Z1 106 2 := ⟨_, rfl⟩
  have hqZ2 := hqZ1a.put eZ2
  have hqZ2a := hqZ2.arr fz (show WF[109]? = some (20, 6, 109) from rfl) (by decide)
  obtain ⟨Z3, eZ3⟩ : ∃ Z3, Z3 = uZ Z2 106 3 := ⟨_, rfl⟩
  have hqZ3 := hqZ2a.put eZ3
  have hqZ3a := hqZ3.arr fz (show WF[110]? = some (20, 6, 110) from rfl) (by decide)
  obtain ⟨Z4, eZ4⟩ : ∃ Z4, Z4 = uZ Z3 106 4 := ⟨_, rfl⟩
  have hqZ4 := hqZ3a.put eZ4
  have hqZ4a := hqZ4.arr fz (show WF[111]? = some (20, 6, 111) from rfl) (by decide)
  obtain ⟨Z5, eZ5⟩ : ∃ Z5, Z5 = uZ Z4 106 5 := ⟨_, rfl⟩
  have hqZ5 := hqZ4a.put eZ5
  have hqZ5a := hqZ5.arr fz (show WF[112]? = some (20, 6, 112) from rfl) (by decide)
  obtain ⟨Z6, eZ6⟩ : ∃ Z6, Z6 = uZ Z5 106 6 := ⟨_, rfl⟩
  have hqZ6 := hqZ5a.put eZ6
  obtain ⟨Z7, eZ7⟩ : ∃ Z7, Z7 = uZ Z6 106 10 := ⟨_, rfl⟩
  have hqZ7 := hqZ6.put eZ7
  obtain ⟨a1, M1, ev1, ha1, sc1, fr1⟩ := sp5 (d := 0) (Y := M.1) (M := M) (k := 106) ⟨rfl, rfl, rfl, rfl, rfl, rfl, rfl, rfl, rfl, rfl, rfl, rfl, rfl, rfl, rfl, rfl, rfl, rfl⟩ (by decide)
  subst ha1
  have pz := hqZ7.fin fz (show WF[106]? = some (6, 0, 106) from rfl) (by decide)
  have hfr : Fr (fun c _ => c ∈ (List.range 23).map (· + 3) ++ (List.range 7).map (· + 106)) M M1 := fr1.up (fun c j z => (show ∀ c, 106 ≤ c → c < 113 → c ∈ (List.range 23).map (· + 3) ++ (List.range 7).map (· + 106) from fun c h1 h2 => by rcases (show c = 106 ∨ c = 107 ∨ c = 108 ∨ c = 109 ∨ c = 110 ∨ c = 111 ∨ c = 112 by omega) with rfl | rfl | rfl | rfl | rfl | rfl | rfl <;> decide) c z.1 (by omega))
  refine ⟨M1, Z7, CNt_of (own := "IceParliament$State") (by decide) rfl rfl (Nat.le_of_ble_eq_true rfl) (fun B => Nat.le_add_right B _) ?_, hqZ7.fin fz (show WF[106]? = some (6, 0, 106) from rfl) (by decide), sc1, fr1⟩
  intro p l e s m args below meth c dC dI cA ρ B ls cx sx hsz hl
  have hls : ls.size = 2 := by obtain ⟨l0, h0, -⟩ := hl; exact h0.1
  refine n_ald cx hl (i := 0) (k3 := 0) (t := 6) (k := 106) (pc := 0) rfl rfl (by omega) (by decide +kernel) ?_
  refine n_obj (k := 106) (index := 3) cx hl (in_t2 (List.mem_of_getElem? (i := 76) rfl) rfl) (in_t1 (List.mem_of_getElem? (i := 33) rfl) rfl) (in_t1 (List.mem_of_getElem? (i := 34) rfl) rfl) ⟨Nat.le_of_ble_eq_true rfl, Nat.le_of_ble_eq_true rfl⟩ (by decide) (pc := 1) (by decide +kernel) ?_
  refine n_ald cx hl (i := 0) (k3 := 0) (t := 6) (k := 106) (pc := 4) rfl rfl (by omega) (by decide +kernel) ?_
  refine lv_bipush cx.1.1 cx.1.2.1 (n := 6) (v := Int32.ofNat 6) (pc := 5) (by decide +kernel) (by decide) ?_
  refine n_newa (t := 20) (N := 6) (n := 107) (aty := .int) (ty := .int) (index := 0) rfl (by omega) rfl (.inl ⟨rfl, rfl⟩) cx sx (hq.fz fz hm) (show WF[107]? = some (20, 6, 107) from rfl) (in_t1 (List.mem_of_getElem? (i := 124) rfl) rfl) (Nat.le_of_ble_eq_true rfl) (Nat.le_of_ble_eq_true rfl) (pc := 7) (by decide +kernel) (fun H1 sx => ?_)
  refine n_putF (t := 6) (k := 106) (j := 1) (index := 9) cx sx (by omega) (by decide) (show WF[106]? = some (6, 0, 106) from rfl) (by decide) rfl (by rw [show (fp 6 1 106).2.2 = 107 from rfl, cx.2.2.2.2.2.2.2.2.1 107 (by omega)]) rfl (in_t2 (List.mem_of_getElem? (i := 88) rfl) rfl) rfl rfl (fun _ => rfl) (fun _ => rfl) (pc := 9) (by decide +kernel) (fun H1 locs1 sx => ?_)
  rw [← eZ1] at sx
  refine n_ald cx hl (i := 0) (k3 := 0) (t := 6) (k := 106) (pc := 12) rfl rfl (by omega) (by decide +kernel) ?_
  refine lv_bipush cx.1.1 cx.1.2.1 (n := 6) (v := Int32.ofNat 6) (pc := 13) (by decide +kernel) (by decide) ?_
  refine n_newa (t := 20) (N := 6) (n := 108) (aty := .int) (ty := .int) (index := 0) rfl (by omega) rfl (.inl ⟨rfl, rfl⟩) cx sx (hqZ1.fz fz hm) (show WF[108]? = some (20, 6, 108) from rfl) (in_t1 (List.mem_of_getElem? (i := 124) rfl) rfl) (Nat.le_of_ble_eq_true rfl) (Nat.le_of_ble_eq_true rfl) (pc := 15) (by decide +kernel) (fun H1 sx => ?_)
  refine n_putF (t := 6) (k := 106) (j := 2) (index := 15) cx sx (by omega) (by decide) (show WF[106]? = some (6, 0, 106) from rfl) (by decide) rfl (by rw [show (fp 6 2 106).2.2 = 108 from rfl, cx.2.2.2.2.2.2.2.2.1 108 (by omega)]) rfl (in_t2 (List.mem_of_getElem? (i := 92) rfl) rfl) rfl rfl (fun _ => rfl) (fun _ => rfl) (pc := 17) (by decide +kernel) (fun H1 locs1 sx => ?_)
  rw [← eZ2] at sx
  refine n_ald cx hl (i := 0) (k3 := 0) (t := 6) (k := 106) (pc := 20) rfl rfl (by omega) (by decide +kernel) ?_
  refine lv_bipush cx.1.1 cx.1.2.1 (n := 6) (v := Int32.ofNat 6) (pc := 21) (by decide +kernel) (by decide) ?_
  refine n_newa (t := 20) (N := 6) (n := 109) (aty := .int) (ty := .int) (index := 0) rfl (by omega) rfl (.inl ⟨rfl, rfl⟩) cx sx (hqZ2.fz fz hm) (show WF[109]? = some (20, 6, 109) from rfl) (in_t1 (List.mem_of_getElem? (i := 124) rfl) rfl) (Nat.le_of_ble_eq_true rfl) (Nat.le_of_ble_eq_true rfl) (pc := 23) (by decide +kernel) (fun H1 sx => ?_)
  refine n_putF (t := 6) (k := 106) (j := 3) (index := 18) cx sx (by omega) (by decide) (show WF[106]? = some (6, 0, 106) from rfl) (by decide) rfl (by rw [show (fp 6 3 106).2.2 = 109 from rfl, cx.2.2.2.2.2.2.2.2.1 109 (by omega)]) rfl (in_t2 (List.mem_of_getElem? (i := 95) rfl) rfl) rfl rfl (fun _ => rfl) (fun _ => rfl) (pc := 25) (by decide +kernel) (fun H1 locs1 sx => ?_)
  rw [← eZ3] at sx
  refine n_ald cx hl (i := 0) (k3 := 0) (t := 6) (k := 106) (pc := 28) rfl rfl (by omega) (by decide +kernel) ?_
  refine lv_bipush cx.1.1 cx.1.2.1 (n := 6) (v := Int32.ofNat 6) (pc := 29) (by decide +kernel) (by decide) ?_
  refine n_newa (t := 20) (N := 6) (n := 110) (aty := .int) (ty := .int) (index := 0) rfl (by omega) rfl (.inl ⟨rfl, rfl⟩) cx sx (hqZ3.fz fz hm) (show WF[110]? = some (20, 6, 110) from rfl) (in_t1 (List.mem_of_getElem? (i := 124) rfl) rfl) (Nat.le_of_ble_eq_true rfl) (Nat.le_of_ble_eq_true rfl) (pc := 31) (by decide +kernel) (fun H1 sx => ?_)
  refine n_putF (t := 6) (k := 106) (j := 4) (index := 21) cx sx (by omega) (by decide) (show WF[106]? = some (6, 0, 106) from rfl) (by decide) rfl (by rw [show (fp 6 4 106).2.2 = 110 from rfl, cx.2.2.2.2.2.2.2.2.1 110 (by omega)]) rfl (in_t2 (List.mem_of_getElem? (i := 99) rfl) rfl) rfl rfl (fun _ => rfl) (fun _ => rfl) (pc := 33) (by decide +kernel) (fun H1 locs1 sx => ?_)
  rw [← eZ4] at sx
  refine n_ald cx hl (i := 0) (k3 := 0) (t := 6) (k := 106) (pc := 36) rfl rfl (by omega) (by decide +kernel) ?_
  refine lv_bipush cx.1.1 cx.1.2.1 (n := 6) (v := Int32.ofNat 6) (pc := 37) (by decide +kernel) (by decide) ?_
  refine n_newa (t := 20) (N := 6) (n := 111) (aty := .int) (ty := .int) (index := 0) rfl (by omega) rfl (.inl ⟨rfl, rfl⟩) cx sx (hqZ4.fz fz hm) (show WF[111]? = some (20, 6, 111) from rfl) (in_t1 (List.mem_of_getElem? (i := 124) rfl) rfl) (Nat.le_of_ble_eq_true rfl) (Nat.le_of_ble_eq_true rfl) (pc := 39) (by decide +kernel) (fun H1 sx => ?_)
  refine n_putF (t := 6) (k := 106) (j := 5) (index := 24) cx sx (by omega) (by decide) (show WF[106]? = some (6, 0, 106) from rfl) (by decide) rfl (by rw [show (fp 6 5 106).2.2 = 111 from rfl, cx.2.2.2.2.2.2.2.2.1 111 (by omega)]) rfl (in_t2 (List.mem_of_getElem? (i := 102) rfl) rfl) rfl rfl (fun _ => rfl) (fun _ => rfl) (pc := 41) (by decide +kernel) (fun H1 locs1 sx => ?_)
  rw [← eZ5] at sx
  refine n_ald cx hl (i := 0) (k3 := 0) (t := 6) (k := 106) (pc := 44) rfl rfl (by omega) (by decide +kernel) ?_
  refine lv_bipush cx.1.1 cx.1.2.1 (n := 6) (v := Int32.ofNat 6) (pc := 45) (by decide +kernel) (by decide) ?_
  refine n_newa (t := 20) (N := 6) (n := 112) (aty := .int) (ty := .int) (index := 0) rfl (by omega) rfl (.inl ⟨rfl, rfl⟩) cx sx (hqZ5.fz fz hm) (show WF[112]? = some (20, 6, 112) from rfl) (in_t1 (List.mem_of_getElem? (i := 124) rfl) rfl) (Nat.le_of_ble_eq_true rfl) (Nat.le_of_ble_eq_true rfl) (pc := 47) (by decide +kernel) (fun H1 sx => ?_)
  refine n_putF (t := 6) (k := 106) (j := 6) (index := 27) cx sx (by omega) (by decide) (show WF[106]? = some (6, 0, 106) from rfl) (by decide) rfl (by rw [show (fp 6 6 106).2.2 = 112 from rfl, cx.2.2.2.2.2.2.2.2.1 112 (by omega)]) rfl (in_t2 (List.mem_of_getElem? (i := 106) rfl) rfl) rfl rfl (fun _ => rfl) (fun _ => rfl) (pc := 49) (by decide +kernel) (fun H1 locs1 sx => ?_)
  rw [← eZ6] at sx
  refine n_ald cx hl (i := 0) (k3 := 0) (t := 6) (k := 106) (pc := 52) rfl rfl (by omega) (by decide +kernel) ?_
  refine n_ald cx hl (i := 1) (k3 := 1) (t := 9) (k := 3) (pc := 53) rfl rfl (by omega) (by decide +kernel) ?_
  refine n_putF (t := 6) (k := 106) (j := 10) (index := 30) cx sx (by omega) (by decide) (show WF[106]? = some (6, 0, 106) from rfl) (by decide) rfl (by rw [show (fp 6 10 106).2.2 = 3 from rfl, cx.2.2.2.2.2.2.2.2.1 3 (by omega)]) rfl (in_t2 (List.mem_of_getElem? (i := 116) rfl) rfl) rfl rfl (fun _ => rfl) (fun _ => rfl) (pc := 54) (by decide +kernel) (fun H1 locs1 sx => ?_)
  rw [← eZ7] at sx
  refine n_ald cx hl (i := 0) (k3 := 0) (t := 6) (k := 106) (pc := 57) rfl rfl (by omega) (by decide +kernel) ?_
  refine n_evI (x := 5) (t := 6) (k := 106) (index := 34) (as := []) (ks := (List.range 23).map (· + 3) ++ (List.range 7).map (· + 106)) rfl ev1 rfl (by decide +kernel) (by decide) rfl (by decide +kernel) (by decide +kernel) (Clo_of (by decide +kernel)) (WT_of (by decide +kernel)) (by decide +kernel)
    (fun i hi b => by
      rcases (show ∀ i ∈ (List.range 23).map (· + 3) ++ (List.range 7).map (· + 106), (3 ≤ i ∧ i ≤ 25) ∨ (106 ≤ i ∧ i < 113) from by decide +kernel) i hi with z | z
      · rw [pz.1 i b (.inl (by omega))]; exact hY i z.1 z.2 b
      · exact pz.2 i z.1 z.2 b) hfr (fun v hv => by rcases List.mem_singleton.mp hv with rfl; exact .inl (show ((6, 0, 106) : Ref3) ∈ wI ((List.range 23).map (· + 3) ++ (List.range 7).map (· + 106)) from by decide +kernel)) cx sx (by rw [hsz]) (by decide) hls (in_t2 (List.mem_of_getElem? (i := 77) rfl) rfl) (in_t2 (List.mem_of_getElem? (i := 78) rfl) rfl) (in_t2 (List.mem_of_getElem? (i := 79) rfl) rfl) rfl ⟨Nat.le_of_ble_eq_true rfl, Nat.le_of_ble_eq_true rfl⟩ ⟨Nat.le_of_ble_eq_true rfl, Nat.le_of_ble_eq_true rfl⟩ (Nat.le_of_ble_eq_true rfl) (pc := 58) (by decide +kernel) (fun H1 locs1 sx => ?_)
  exact n_ret cx sx (Nat.le_of_ble_eq_true rfl) (Nat.le_of_ble_eq_true rfl) (pc := 61) (by decide +kernel)
set_option maxRecDepth 20000 in
set_option maxHeartbeats 1000000 in
theorem c_State113 (fz : Fz 113 M Z) (hm : Mz 113 M) (hY : ∀ a, 3 ≤ a → a ≤ 25 → ∀ b, Z a b = false) : ∃ M' Z', CNt ⟨"IceParliament$State", "<init>", "(LIceParliament$Yard;)V"⟩ prog_8_method_1_code 2 3 6 36 [vR 6 0 113, vR 9 0 3] 114 M Z 120 M' Z' ∧ PZ 113 120 Z Z' ∧ SC (staS M.1) 113 M' ∧ Fr (fun c _ => 113 ≤ c ∧ c ≤ 113 + 6) M M' := by
  have hq : QZ 113 [] 114 Z Z := QZ.start
  have hqa := hq.arr fz (show WF[114]? = some (20, 6, 114) from rfl) (by decide)
  obtain ⟨Z1, eZ1⟩ : ∃ Z1, Z1 = uZ Z 113 1 := ⟨_, rfl⟩
  have hqZ1 := hqa.put eZ1
  have hqZ1a := hqZ1.arr fz (show WF[115]? = some (20, 6, 115) from rfl) (by decide)
  obtain ⟨Z2, eZ2⟩ : ∃ Z2, Z2 = uZ Z1 113 2 := ⟨_, rfl⟩
  have hqZ2 := hqZ1a.put eZ2
  have hqZ2a := hqZ2.arr fz (show WF[116]? = some (20, 6, 116) from rfl) (by decide)
  obtain ⟨Z3, eZ3⟩ : ∃ Z3, Z3 = uZ Z2 113 3 := ⟨_, rfl⟩
  have hqZ3 := hqZ2a.put eZ3
  have hqZ3a := hqZ3.arr fz (show WF[117]? = some (20, 6, 117) from rfl) (by decide)
  obtain ⟨Z4, eZ4⟩ : ∃ Z4, Z4 = uZ Z3 113 4 := ⟨_, rfl⟩
  have hqZ4 := hqZ3a.put eZ4
  have hqZ4a := hqZ4.arr fz (show WF[118]? = some (20, 6, 118) from rfl) (by decide)
  obtain ⟨Z5, eZ5⟩ : ∃ Z5, Z5 = uZ Z4 113 5 := ⟨_, rfl⟩
  have hqZ5 := hqZ4a.put eZ5
  have hqZ5a := hqZ5.arr fz (show WF[119]? = some (20, 6, 119) from rfl) (by decide)
  obtain ⟨Z6, eZ6⟩ : ∃ Z6, Z6 = uZ Z5 113 6 := ⟨_, rfl⟩
  have hqZ6 := hqZ5a.put eZ6
  obtain ⟨Z7, eZ7⟩ : ∃ Z7, Z7 = uZ Z6 113 10 := ⟨_, rfl⟩
  have hqZ7 := hqZ6.put eZ7
  obtain ⟨a1, M1, ev1, ha1, sc1, fr1⟩ := sp5 (d := 0) (Y := M.1) (M := M) (k := 113) ⟨rfl, rfl, rfl, rfl, rfl, rfl, rfl, rfl, rfl, rfl, rfl, rfl, rfl, rfl, rfl, rfl, rfl, rfl⟩ (by decide)
  subst ha1
  have pz := hqZ7.fin fz (show WF[113]? = some (6, 0, 113) from rfl) (by decide)
  have hfr : Fr (fun c _ => c ∈ (List.range 23).map (· + 3) ++ (List.range 7).map (· + 113)) M M1 := fr1.up (fun c j z => (show ∀ c, 113 ≤ c → c < 120 → c ∈ (List.range 23).map (· + 3) ++ (List.range 7).map (· + 113) from fun c h1 h2 => by rcases (show c = 113 ∨ c = 114 ∨ c = 115 ∨ c = 116 ∨ c = 117 ∨ c = 118 ∨ c = 119 by omega) with rfl | rfl | rfl | rfl | rfl | rfl | rfl <;> decide) c z.1 (by omega))
  refine ⟨M1, Z7, CNt_of (own := "IceParliament$State") (by decide) rfl rfl (Nat.le_of_ble_eq_true rfl) (fun B => Nat.le_add_right B _) ?_, hqZ7.fin fz (show WF[113]? = some (6, 0, 113) from rfl) (by decide), sc1, fr1⟩
  intro p l e s m args below meth c dC dI cA ρ B ls cx sx hsz hl
  have hls : ls.size = 2 := by obtain ⟨l0, h0, -⟩ := hl; exact h0.1
  refine n_ald cx hl (i := 0) (k3 := 0) (t := 6) (k := 113) (pc := 0) rfl rfl (by omega) (by decide +kernel) ?_
  refine n_obj (k := 113) (index := 3) cx hl (in_t2 (List.mem_of_getElem? (i := 76) rfl) rfl) (in_t1 (List.mem_of_getElem? (i := 33) rfl) rfl) (in_t1 (List.mem_of_getElem? (i := 34) rfl) rfl) ⟨Nat.le_of_ble_eq_true rfl, Nat.le_of_ble_eq_true rfl⟩ (by decide) (pc := 1) (by decide +kernel) ?_
  refine n_ald cx hl (i := 0) (k3 := 0) (t := 6) (k := 113) (pc := 4) rfl rfl (by omega) (by decide +kernel) ?_
  refine lv_bipush cx.1.1 cx.1.2.1 (n := 6) (v := Int32.ofNat 6) (pc := 5) (by decide +kernel) (by decide) ?_
  refine n_newa (t := 20) (N := 6) (n := 114) (aty := .int) (ty := .int) (index := 0) rfl (by omega) rfl (.inl ⟨rfl, rfl⟩) cx sx (hq.fz fz hm) (show WF[114]? = some (20, 6, 114) from rfl) (in_t1 (List.mem_of_getElem? (i := 124) rfl) rfl) (Nat.le_of_ble_eq_true rfl) (Nat.le_of_ble_eq_true rfl) (pc := 7) (by decide +kernel) (fun H1 sx => ?_)
  refine n_putF (t := 6) (k := 113) (j := 1) (index := 9) cx sx (by omega) (by decide) (show WF[113]? = some (6, 0, 113) from rfl) (by decide) rfl (by rw [show (fp 6 1 113).2.2 = 114 from rfl, cx.2.2.2.2.2.2.2.2.1 114 (by omega)]) rfl (in_t2 (List.mem_of_getElem? (i := 88) rfl) rfl) rfl rfl (fun _ => rfl) (fun _ => rfl) (pc := 9) (by decide +kernel) (fun H1 locs1 sx => ?_)
  rw [← eZ1] at sx
  refine n_ald cx hl (i := 0) (k3 := 0) (t := 6) (k := 113) (pc := 12) rfl rfl (by omega) (by decide +kernel) ?_
  refine lv_bipush cx.1.1 cx.1.2.1 (n := 6) (v := Int32.ofNat 6) (pc := 13) (by decide +kernel) (by decide) ?_
  refine n_newa (t := 20) (N := 6) (n := 115) (aty := .int) (ty := .int) (index := 0) rfl (by omega) rfl (.inl ⟨rfl, rfl⟩) cx sx (hqZ1.fz fz hm) (show WF[115]? = some (20, 6, 115) from rfl) (in_t1 (List.mem_of_getElem? (i := 124) rfl) rfl) (Nat.le_of_ble_eq_true rfl) (Nat.le_of_ble_eq_true rfl) (pc := 15) (by decide +kernel) (fun H1 sx => ?_)
  refine n_putF (t := 6) (k := 113) (j := 2) (index := 15) cx sx (by omega) (by decide) (show WF[113]? = some (6, 0, 113) from rfl) (by decide) rfl (by rw [show (fp 6 2 113).2.2 = 115 from rfl, cx.2.2.2.2.2.2.2.2.1 115 (by omega)]) rfl (in_t2 (List.mem_of_getElem? (i := 92) rfl) rfl) rfl rfl (fun _ => rfl) (fun _ => rfl) (pc := 17) (by decide +kernel) (fun H1 locs1 sx => ?_)
  rw [← eZ2] at sx
  refine n_ald cx hl (i := 0) (k3 := 0) (t := 6) (k := 113) (pc := 20) rfl rfl (by omega) (by decide +kernel) ?_
  refine lv_bipush cx.1.1 cx.1.2.1 (n := 6) (v := Int32.ofNat 6) (pc := 21) (by decide +kernel) (by decide) ?_
  refine n_newa (t := 20) (N := 6) (n := 116) (aty := .int) (ty := .int) (index := 0) rfl (by omega) rfl (.inl ⟨rfl, rfl⟩) cx sx (hqZ2.fz fz hm) (show WF[116]? = some (20, 6, 116) from rfl) (in_t1 (List.mem_of_getElem? (i := 124) rfl) rfl) (Nat.le_of_ble_eq_true rfl) (Nat.le_of_ble_eq_true rfl) (pc := 23) (by decide +kernel) (fun H1 sx => ?_)
  refine n_putF (t := 6) (k := 113) (j := 3) (index := 18) cx sx (by omega) (by decide) (show WF[113]? = some (6, 0, 113) from rfl) (by decide) rfl (by rw [show (fp 6 3 113).2.2 = 116 from rfl, cx.2.2.2.2.2.2.2.2.1 116 (by omega)]) rfl (in_t2 (List.mem_of_getElem? (i := 95) rfl) rfl) rfl rfl (fun _ => rfl) (fun _ => rfl) (pc := 25) (by decide +kernel) (fun H1 locs1 sx => ?_)
  rw [← eZ3] at sx
  refine n_ald cx hl (i := 0) (k3 := 0) (t := 6) (k := 113) (pc := 28) rfl rfl (by omega) (by decide +kernel) ?_
  refine lv_bipush cx.1.1 cx.1.2.1 (n := 6) (v := Int32.ofNat 6) (pc := 29) (by decide +kernel) (by decide) ?_
  refine n_newa (t := 20) (N := 6) (n := 117) (aty := .int) (ty := .int) (index := 0) rfl (by omega) rfl (.inl ⟨rfl, rfl⟩) cx sx (hqZ3.fz fz hm) (show WF[117]? = some (20, 6, 117) from rfl) (in_t1 (List.mem_of_getElem? (i := 124) rfl) rfl) (Nat.le_of_ble_eq_true rfl) (Nat.le_of_ble_eq_true rfl) (pc := 31) (by decide +kernel) (fun H1 sx => ?_)
  refine n_putF (t := 6) (k := 113) (j := 4) (index := 21) cx sx (by omega) (by decide) (show WF[113]? = some (6, 0, 113) from rfl) (by decide) rfl (by rw [show (fp 6 4 113).2.2 = 117 from rfl, cx.2.2.2.2.2.2.2.2.1 117 (by omega)]) rfl (in_t2 (List.mem_of_getElem? (i := 99) rfl) rfl) rfl rfl (fun _ => rfl) (fun _ => rfl) (pc := 33) (by decide +kernel) (fun H1 locs1 sx => ?_)
  rw [← eZ4] at sx
  refine n_ald cx hl (i := 0) (k3 := 0) (t := 6) (k := 113) (pc := 36) rfl rfl (by omega) (by decide +kernel) ?_
  refine lv_bipush cx.1.1 cx.1.2.1 (n := 6) (v := Int32.ofNat 6) (pc := 37) (by decide +kernel) (by decide) ?_
  refine n_newa (t := 20) (N := 6) (n := 118) (aty := .int) (ty := .int) (index := 0) rfl (by omega) rfl (.inl ⟨rfl, rfl⟩) cx sx (hqZ4.fz fz hm) (show WF[118]? = some (20, 6, 118) from rfl) (in_t1 (List.mem_of_getElem? (i := 124) rfl) rfl) (Nat.le_of_ble_eq_true rfl) (Nat.le_of_ble_eq_true rfl) (pc := 39) (by decide +kernel) (fun H1 sx => ?_)
  refine n_putF (t := 6) (k := 113) (j := 5) (index := 24) cx sx (by omega) (by decide) (show WF[113]? = some (6, 0, 113) from rfl) (by decide) rfl (by rw [show (fp 6 5 113).2.2 = 118 from rfl, cx.2.2.2.2.2.2.2.2.1 118 (by omega)]) rfl (in_t2 (List.mem_of_getElem? (i := 102) rfl) rfl) rfl rfl (fun _ => rfl) (fun _ => rfl) (pc := 41) (by decide +kernel) (fun H1 locs1 sx => ?_)
  rw [← eZ5] at sx
  refine n_ald cx hl (i := 0) (k3 := 0) (t := 6) (k := 113) (pc := 44) rfl rfl (by omega) (by decide +kernel) ?_
  refine lv_bipush cx.1.1 cx.1.2.1 (n := 6) (v := Int32.ofNat 6) (pc := 45) (by decide +kernel) (by decide) ?_
  refine n_newa (t := 20) (N := 6) (n := 119) (aty := .int) (ty := .int) (index := 0) rfl (by omega) rfl (.inl ⟨rfl, rfl⟩) cx sx (hqZ5.fz fz hm) (show WF[119]? = some (20, 6, 119) from rfl) (in_t1 (List.mem_of_getElem? (i := 124) rfl) rfl) (Nat.le_of_ble_eq_true rfl) (Nat.le_of_ble_eq_true rfl) (pc := 47) (by decide +kernel) (fun H1 sx => ?_)
  refine n_putF (t := 6) (k := 113) (j := 6) (index := 27) cx sx (by omega) (by decide) (show WF[113]? = some (6, 0, 113) from rfl) (by decide) rfl (by rw [show (fp 6 6 113).2.2 = 119 from rfl, cx.2.2.2.2.2.2.2.2.1 119 (by omega)]) rfl (in_t2 (List.mem_of_getElem? (i := 106) rfl) rfl) rfl rfl (fun _ => rfl) (fun _ => rfl) (pc := 49) (by decide +kernel) (fun H1 locs1 sx => ?_)
  rw [← eZ6] at sx
  refine n_ald cx hl (i := 0) (k3 := 0) (t := 6) (k := 113) (pc := 52) rfl rfl (by omega) (by decide +kernel) ?_
  refine n_ald cx hl (i := 1) (k3 := 1) (t := 9) (k := 3) (pc := 53) rfl rfl (by omega) (by decide +kernel) ?_
  refine n_putF (t := 6) (k := 113) (j := 10) (index := 30) cx sx (by omega) (by decide) (show WF[113]? = some (6, 0, 113) from rfl) (by decide) rfl (by rw [show (fp 6 10 113).2.2 = 3 from rfl, cx.2.2.2.2.2.2.2.2.1 3 (by omega)]) rfl (in_t2 (List.mem_of_getElem? (i := 116) rfl) rfl) rfl rfl (fun _ => rfl) (fun _ => rfl) (pc := 54) (by decide +kernel) (fun H1 locs1 sx => ?_)
  rw [← eZ7] at sx
  refine n_ald cx hl (i := 0) (k3 := 0) (t := 6) (k := 113) (pc := 57) rfl rfl (by omega) (by decide +kernel) ?_
  refine n_evI (x := 5) (t := 6) (k := 113) (index := 34) (as := []) (ks := (List.range 23).map (· + 3) ++ (List.range 7).map (· + 113)) rfl ev1 rfl (by decide +kernel) (by decide) rfl (by decide +kernel) (by decide +kernel) (Clo_of (by decide +kernel)) (WT_of (by decide +kernel)) (by decide +kernel)
    (fun i hi b => by
      rcases (show ∀ i ∈ (List.range 23).map (· + 3) ++ (List.range 7).map (· + 113), (3 ≤ i ∧ i ≤ 25) ∨ (113 ≤ i ∧ i < 120) from by decide +kernel) i hi with z | z
      · rw [pz.1 i b (.inl (by omega))]; exact hY i z.1 z.2 b
      · exact pz.2 i z.1 z.2 b) hfr (fun v hv => by rcases List.mem_singleton.mp hv with rfl; exact .inl (show ((6, 0, 113) : Ref3) ∈ wI ((List.range 23).map (· + 3) ++ (List.range 7).map (· + 113)) from by decide +kernel)) cx sx (by rw [hsz]) (by decide) hls (in_t2 (List.mem_of_getElem? (i := 77) rfl) rfl) (in_t2 (List.mem_of_getElem? (i := 78) rfl) rfl) (in_t2 (List.mem_of_getElem? (i := 79) rfl) rfl) rfl ⟨Nat.le_of_ble_eq_true rfl, Nat.le_of_ble_eq_true rfl⟩ ⟨Nat.le_of_ble_eq_true rfl, Nat.le_of_ble_eq_true rfl⟩ (Nat.le_of_ble_eq_true rfl) (pc := 58) (by decide +kernel) (fun H1 locs1 sx => ?_)
  exact n_ret cx sx (Nat.le_of_ble_eq_true rfl) (Nat.le_of_ble_eq_true rfl) (pc := 61) (by decide +kernel)
set_option maxRecDepth 20000 in
set_option maxHeartbeats 1000000 in
theorem c_State120 (fz : Fz 120 M Z) (hm : Mz 120 M) (hY : ∀ a, 3 ≤ a → a ≤ 25 → ∀ b, Z a b = false) : ∃ M' Z', CNt ⟨"IceParliament$State", "<init>", "(LIceParliament$Yard;)V"⟩ prog_8_method_1_code 2 3 6 36 [vR 6 0 120, vR 9 0 3] 121 M Z 127 M' Z' ∧ PZ 120 127 Z Z' ∧ SC (staS M.1) 120 M' ∧ Fr (fun c _ => 120 ≤ c ∧ c ≤ 120 + 6) M M' := by
  have hq : QZ 120 [] 121 Z Z := QZ.start
  have hqa := hq.arr fz (show WF[121]? = some (20, 6, 121) from rfl) (by decide)
  obtain ⟨Z1, eZ1⟩ : ∃ Z1, Z1 = uZ Z 120 1 := ⟨_, rfl⟩
  have hqZ1 := hqa.put eZ1
  have hqZ1a := hqZ1.arr fz (show WF[122]? = some (20, 6, 122) from rfl) (by decide)
  obtain ⟨Z2, eZ2⟩ : ∃ Z2, Z2 = uZ Z1 120 2 := ⟨_, rfl⟩
  have hqZ2 := hqZ1a.put eZ2
  have hqZ2a := hqZ2.arr fz (show WF[123]? = some (20, 6, 123) from rfl) (by decide)
  obtain ⟨Z3, eZ3⟩ : ∃ Z3, Z3 = uZ Z2 120 3 := ⟨_, rfl⟩
  have hqZ3 := hqZ2a.put eZ3
  have hqZ3a := hqZ3.arr fz (show WF[124]? = some (20, 6, 124) from rfl) (by decide)
  obtain ⟨Z4, eZ4⟩ : ∃ Z4, Z4 = uZ Z3 120 4 := ⟨_, rfl⟩
  have hqZ4 := hqZ3a.put eZ4
  have hqZ4a := hqZ4.arr fz (show WF[125]? = some (20, 6, 125) from rfl) (by decide)
  obtain ⟨Z5, eZ5⟩ : ∃ Z5, Z5 = uZ Z4 120 5 := ⟨_, rfl⟩
  have hqZ5 := hqZ4a.put eZ5
  have hqZ5a := hqZ5.arr fz (show WF[126]? = some (20, 6, 126) from rfl) (by decide)
  obtain ⟨Z6, eZ6⟩ : ∃ Z6, Z6 = uZ Z5 120 6 := ⟨_, rfl⟩
  have hqZ6 := hqZ5a.put eZ6
  obtain ⟨Z7, eZ7⟩ : ∃ Z7, Z7 = uZ Z6 120 10 := ⟨_, rfl⟩
  have hqZ7 := hqZ6.put eZ7
  obtain ⟨a1, M1, ev1, ha1, sc1, fr1⟩ := sp5 (d := 0) (Y := M.1) (M := M) (k := 120) ⟨rfl, rfl, rfl, rfl, rfl, rfl, rfl, rfl, rfl, rfl, rfl, rfl, rfl, rfl, rfl, rfl, rfl, rfl⟩ (by decide)
  subst ha1
  have pz := hqZ7.fin fz (show WF[120]? = some (6, 0, 120) from rfl) (by decide)
  have hfr : Fr (fun c _ => c ∈ (List.range 23).map (· + 3) ++ (List.range 7).map (· + 120)) M M1 := fr1.up (fun c j z => (show ∀ c, 120 ≤ c → c < 127 → c ∈ (List.range 23).map (· + 3) ++ (List.range 7).map (· + 120) from fun c h1 h2 => by rcases (show c = 120 ∨ c = 121 ∨ c = 122 ∨ c = 123 ∨ c = 124 ∨ c = 125 ∨ c = 126 by omega) with rfl | rfl | rfl | rfl | rfl | rfl | rfl <;> decide) c z.1 (by omega))
  refine ⟨M1, Z7, CNt_of (own := "IceParliament$State") (by decide) rfl rfl (Nat.le_of_ble_eq_true rfl) (fun B => Nat.le_add_right B _) ?_, hqZ7.fin fz (show WF[120]? = some (6, 0, 120) from rfl) (by decide), sc1, fr1⟩
  intro p l e s m args below meth c dC dI cA ρ B ls cx sx hsz hl
  have hls : ls.size = 2 := by obtain ⟨l0, h0, -⟩ := hl; exact h0.1
  refine n_ald cx hl (i := 0) (k3 := 0) (t := 6) (k := 120) (pc := 0) rfl rfl (by omega) (by decide +kernel) ?_
  refine n_obj (k := 120) (index := 3) cx hl (in_t2 (List.mem_of_getElem? (i := 76) rfl) rfl) (in_t1 (List.mem_of_getElem? (i := 33) rfl) rfl) (in_t1 (List.mem_of_getElem? (i := 34) rfl) rfl) ⟨Nat.le_of_ble_eq_true rfl, Nat.le_of_ble_eq_true rfl⟩ (by decide) (pc := 1) (by decide +kernel) ?_
  refine n_ald cx hl (i := 0) (k3 := 0) (t := 6) (k := 120) (pc := 4) rfl rfl (by omega) (by decide +kernel) ?_
  refine lv_bipush cx.1.1 cx.1.2.1 (n := 6) (v := Int32.ofNat 6) (pc := 5) (by decide +kernel) (by decide) ?_
  refine n_newa (t := 20) (N := 6) (n := 121) (aty := .int) (ty := .int) (index := 0) rfl (by omega) rfl (.inl ⟨rfl, rfl⟩) cx sx (hq.fz fz hm) (show WF[121]? = some (20, 6, 121) from rfl) (in_t1 (List.mem_of_getElem? (i := 124) rfl) rfl) (Nat.le_of_ble_eq_true rfl) (Nat.le_of_ble_eq_true rfl) (pc := 7) (by decide +kernel) (fun H1 sx => ?_)
  refine n_putF (t := 6) (k := 120) (j := 1) (index := 9) cx sx (by omega) (by decide) (show WF[120]? = some (6, 0, 120) from rfl) (by decide) rfl (by rw [show (fp 6 1 120).2.2 = 121 from rfl, cx.2.2.2.2.2.2.2.2.1 121 (by omega)]) rfl (in_t2 (List.mem_of_getElem? (i := 88) rfl) rfl) rfl rfl (fun _ => rfl) (fun _ => rfl) (pc := 9) (by decide +kernel) (fun H1 locs1 sx => ?_)
  rw [← eZ1] at sx
  refine n_ald cx hl (i := 0) (k3 := 0) (t := 6) (k := 120) (pc := 12) rfl rfl (by omega) (by decide +kernel) ?_
  refine lv_bipush cx.1.1 cx.1.2.1 (n := 6) (v := Int32.ofNat 6) (pc := 13) (by decide +kernel) (by decide) ?_
  refine n_newa (t := 20) (N := 6) (n := 122) (aty := .int) (ty := .int) (index := 0) rfl (by omega) rfl (.inl ⟨rfl, rfl⟩) cx sx (hqZ1.fz fz hm) (show WF[122]? = some (20, 6, 122) from rfl) (in_t1 (List.mem_of_getElem? (i := 124) rfl) rfl) (Nat.le_of_ble_eq_true rfl) (Nat.le_of_ble_eq_true rfl) (pc := 15) (by decide +kernel) (fun H1 sx => ?_)
  refine n_putF (t := 6) (k := 120) (j := 2) (index := 15) cx sx (by omega) (by decide) (show WF[120]? = some (6, 0, 120) from rfl) (by decide) rfl (by rw [show (fp 6 2 120).2.2 = 122 from rfl, cx.2.2.2.2.2.2.2.2.1 122 (by omega)]) rfl (in_t2 (List.mem_of_getElem? (i := 92) rfl) rfl) rfl rfl (fun _ => rfl) (fun _ => rfl) (pc := 17) (by decide +kernel) (fun H1 locs1 sx => ?_)
  rw [← eZ2] at sx
  refine n_ald cx hl (i := 0) (k3 := 0) (t := 6) (k := 120) (pc := 20) rfl rfl (by omega) (by decide +kernel) ?_
  refine lv_bipush cx.1.1 cx.1.2.1 (n := 6) (v := Int32.ofNat 6) (pc := 21) (by decide +kernel) (by decide) ?_
  refine n_newa (t := 20) (N := 6) (n := 123) (aty := .int) (ty := .int) (index := 0) rfl (by omega) rfl (.inl ⟨rfl, rfl⟩) cx sx (hqZ2.fz fz hm) (show WF[123]? = some (20, 6, 123) from rfl) (in_t1 (List.mem_of_getElem? (i := 124) rfl) rfl) (Nat.le_of_ble_eq_true rfl) (Nat.le_of_ble_eq_true rfl) (pc := 23) (by decide +kernel) (fun H1 sx => ?_)
  refine n_putF (t := 6) (k := 120) (j := 3) (index := 18) cx sx (by omega) (by decide) (show WF[120]? = some (6, 0, 120) from rfl) (by decide) rfl (by rw [show (fp 6 3 120).2.2 = 123 from rfl, cx.2.2.2.2.2.2.2.2.1 123 (by omega)]) rfl (in_t2 (List.mem_of_getElem? (i := 95) rfl) rfl) rfl rfl (fun _ => rfl) (fun _ => rfl) (pc := 25) (by decide +kernel) (fun H1 locs1 sx => ?_)
  rw [← eZ3] at sx
  refine n_ald cx hl (i := 0) (k3 := 0) (t := 6) (k := 120) (pc := 28) rfl rfl (by omega) (by decide +kernel) ?_
  refine lv_bipush cx.1.1 cx.1.2.1 (n := 6) (v := Int32.ofNat 6) (pc := 29) (by decide +kernel) (by decide) ?_
  refine n_newa (t := 20) (N := 6) (n := 124) (aty := .int) (ty := .int) (index := 0) rfl (by omega) rfl (.inl ⟨rfl, rfl⟩) cx sx (hqZ3.fz fz hm) (show WF[124]? = some (20, 6, 124) from rfl) (in_t1 (List.mem_of_getElem? (i := 124) rfl) rfl) (Nat.le_of_ble_eq_true rfl) (Nat.le_of_ble_eq_true rfl) (pc := 31) (by decide +kernel) (fun H1 sx => ?_)
  refine n_putF (t := 6) (k := 120) (j := 4) (index := 21) cx sx (by omega) (by decide) (show WF[120]? = some (6, 0, 120) from rfl) (by decide) rfl (by rw [show (fp 6 4 120).2.2 = 124 from rfl, cx.2.2.2.2.2.2.2.2.1 124 (by omega)]) rfl (in_t2 (List.mem_of_getElem? (i := 99) rfl) rfl) rfl rfl (fun _ => rfl) (fun _ => rfl) (pc := 33) (by decide +kernel) (fun H1 locs1 sx => ?_)
  rw [← eZ4] at sx
  refine n_ald cx hl (i := 0) (k3 := 0) (t := 6) (k := 120) (pc := 36) rfl rfl (by omega) (by decide +kernel) ?_
  refine lv_bipush cx.1.1 cx.1.2.1 (n := 6) (v := Int32.ofNat 6) (pc := 37) (by decide +kernel) (by decide) ?_
  refine n_newa (t := 20) (N := 6) (n := 125) (aty := .int) (ty := .int) (index := 0) rfl (by omega) rfl (.inl ⟨rfl, rfl⟩) cx sx (hqZ4.fz fz hm) (show WF[125]? = some (20, 6, 125) from rfl) (in_t1 (List.mem_of_getElem? (i := 124) rfl) rfl) (Nat.le_of_ble_eq_true rfl) (Nat.le_of_ble_eq_true rfl) (pc := 39) (by decide +kernel) (fun H1 sx => ?_)
  refine n_putF (t := 6) (k := 120) (j := 5) (index := 24) cx sx (by omega) (by decide) (show WF[120]? = some (6, 0, 120) from rfl) (by decide) rfl (by rw [show (fp 6 5 120).2.2 = 125 from rfl, cx.2.2.2.2.2.2.2.2.1 125 (by omega)]) rfl (in_t2 (List.mem_of_getElem? (i := 102) rfl) rfl) rfl rfl (fun _ => rfl) (fun _ => rfl) (pc := 41) (by decide +kernel) (fun H1 locs1 sx => ?_)
  rw [← eZ5] at sx
  refine n_ald cx hl (i := 0) (k3 := 0) (t := 6) (k := 120) (pc := 44) rfl rfl (by omega) (by decide +kernel) ?_
  refine lv_bipush cx.1.1 cx.1.2.1 (n := 6) (v := Int32.ofNat 6) (pc := 45) (by decide +kernel) (by decide) ?_
  refine n_newa (t := 20) (N := 6) (n := 126) (aty := .int) (ty := .int) (index := 0) rfl (by omega) rfl (.inl ⟨rfl, rfl⟩) cx sx (hqZ5.fz fz hm) (show WF[126]? = some (20, 6, 126) from rfl) (in_t1 (List.mem_of_getElem? (i := 124) rfl) rfl) (Nat.le_of_ble_eq_true rfl) (Nat.le_of_ble_eq_true rfl) (pc := 47) (by decide +kernel) (fun H1 sx => ?_)
  refine n_putF (t := 6) (k := 120) (j := 6) (index := 27) cx sx (by omega) (by decide) (show WF[120]? = some (6, 0, 120) from rfl) (by decide) rfl (by rw [show (fp 6 6 120).2.2 = 126 from rfl, cx.2.2.2.2.2.2.2.2.1 126 (by omega)]) rfl (in_t2 (List.mem_of_getElem? (i := 106) rfl) rfl) rfl rfl (fun _ => rfl) (fun _ => rfl) (pc := 49) (by decide +kernel) (fun H1 locs1 sx => ?_)
  rw [← eZ6] at sx
  refine n_ald cx hl (i := 0) (k3 := 0) (t := 6) (k := 120) (pc := 52) rfl rfl (by omega) (by decide +kernel) ?_
  refine n_ald cx hl (i := 1) (k3 := 1) (t := 9) (k := 3) (pc := 53) rfl rfl (by omega) (by decide +kernel) ?_
  refine n_putF (t := 6) (k := 120) (j := 10) (index := 30) cx sx (by omega) (by decide) (show WF[120]? = some (6, 0, 120) from rfl) (by decide) rfl (by rw [show (fp 6 10 120).2.2 = 3 from rfl, cx.2.2.2.2.2.2.2.2.1 3 (by omega)]) rfl (in_t2 (List.mem_of_getElem? (i := 116) rfl) rfl) rfl rfl (fun _ => rfl) (fun _ => rfl) (pc := 54) (by decide +kernel) (fun H1 locs1 sx => ?_)
  rw [← eZ7] at sx
  refine n_ald cx hl (i := 0) (k3 := 0) (t := 6) (k := 120) (pc := 57) rfl rfl (by omega) (by decide +kernel) ?_
  refine n_evI (x := 5) (t := 6) (k := 120) (index := 34) (as := []) (ks := (List.range 23).map (· + 3) ++ (List.range 7).map (· + 120)) rfl ev1 rfl (by decide +kernel) (by decide) rfl (by decide +kernel) (by decide +kernel) (Clo_of (by decide +kernel)) (WT_of (by decide +kernel)) (by decide +kernel)
    (fun i hi b => by
      rcases (show ∀ i ∈ (List.range 23).map (· + 3) ++ (List.range 7).map (· + 120), (3 ≤ i ∧ i ≤ 25) ∨ (120 ≤ i ∧ i < 127) from by decide +kernel) i hi with z | z
      · rw [pz.1 i b (.inl (by omega))]; exact hY i z.1 z.2 b
      · exact pz.2 i z.1 z.2 b) hfr (fun v hv => by rcases List.mem_singleton.mp hv with rfl; exact .inl (show ((6, 0, 120) : Ref3) ∈ wI ((List.range 23).map (· + 3) ++ (List.range 7).map (· + 120)) from by decide +kernel)) cx sx (by rw [hsz]) (by decide) hls (in_t2 (List.mem_of_getElem? (i := 77) rfl) rfl) (in_t2 (List.mem_of_getElem? (i := 78) rfl) rfl) (in_t2 (List.mem_of_getElem? (i := 79) rfl) rfl) rfl ⟨Nat.le_of_ble_eq_true rfl, Nat.le_of_ble_eq_true rfl⟩ ⟨Nat.le_of_ble_eq_true rfl, Nat.le_of_ble_eq_true rfl⟩ (Nat.le_of_ble_eq_true rfl) (pc := 58) (by decide +kernel) (fun H1 locs1 sx => ?_)
  exact n_ret cx sx (Nat.le_of_ble_eq_true rfl) (Nat.le_of_ble_eq_true rfl) (pc := 61) (by decide +kernel)
set_option maxRecDepth 20000 in
set_option maxHeartbeats 1000000 in
theorem c_State127 (fz : Fz 127 M Z) (hm : Mz 127 M) (hY : ∀ a, 3 ≤ a → a ≤ 25 → ∀ b, Z a b = false) : ∃ M' Z', CNt ⟨"IceParliament$State", "<init>", "(LIceParliament$Yard;)V"⟩ prog_8_method_1_code 2 3 6 36 [vR 6 0 127, vR 9 0 3] 128 M Z 134 M' Z' ∧ PZ 127 134 Z Z' ∧ SC (staS M.1) 127 M' ∧ Fr (fun c _ => 127 ≤ c ∧ c ≤ 127 + 6) M M' := by
  have hq : QZ 127 [] 128 Z Z := QZ.start
  have hqa := hq.arr fz (show WF[128]? = some (20, 6, 128) from rfl) (by decide)
  obtain ⟨Z1, eZ1⟩ : ∃ Z1, Z1 = uZ Z 127 1 := ⟨_, rfl⟩
  have hqZ1 := hqa.put eZ1
  have hqZ1a := hqZ1.arr fz (show WF[129]? = some (20, 6, 129) from rfl) (by decide)
  obtain ⟨Z2, eZ2⟩ : ∃ Z2, Z2 = uZ Z1 127 2 := ⟨_, rfl⟩
  have hqZ2 := hqZ1a.put eZ2
  have hqZ2a := hqZ2.arr fz (show WF[130]? = some (20, 6, 130) from rfl) (by decide)
  obtain ⟨Z3, eZ3⟩ : ∃ Z3, Z3 = uZ Z2 127 3 := ⟨_, rfl⟩
  have hqZ3 := hqZ2a.put eZ3
  have hqZ3a := hqZ3.arr fz (show WF[131]? = some (20, 6, 131) from rfl) (by decide)
  obtain ⟨Z4, eZ4⟩ : ∃ Z4, Z4 = uZ Z3 127 4 := ⟨_, rfl⟩
  have hqZ4 := hqZ3a.put eZ4
  have hqZ4a := hqZ4.arr fz (show WF[132]? = some (20, 6, 132) from rfl) (by decide)
  obtain ⟨Z5, eZ5⟩ : ∃ Z5, Z5 = uZ Z4 127 5 := ⟨_, rfl⟩
  have hqZ5 := hqZ4a.put eZ5
  have hqZ5a := hqZ5.arr fz (show WF[133]? = some (20, 6, 133) from rfl) (by decide)
  obtain ⟨Z6, eZ6⟩ : ∃ Z6, Z6 = uZ Z5 127 6 := ⟨_, rfl⟩
  have hqZ6 := hqZ5a.put eZ6
  obtain ⟨Z7, eZ7⟩ : ∃ Z7, Z7 = uZ Z6 127 10 := ⟨_, rfl⟩
  have hqZ7 := hqZ6.put eZ7
  obtain ⟨a1, M1, ev1, ha1, sc1, fr1⟩ := sp5 (d := 0) (Y := M.1) (M := M) (k := 127) ⟨rfl, rfl, rfl, rfl, rfl, rfl, rfl, rfl, rfl, rfl, rfl, rfl, rfl, rfl, rfl, rfl, rfl, rfl⟩ (by decide)
  subst ha1
  have pz := hqZ7.fin fz (show WF[127]? = some (6, 0, 127) from rfl) (by decide)
  have hfr : Fr (fun c _ => c ∈ (List.range 23).map (· + 3) ++ (List.range 7).map (· + 127)) M M1 := fr1.up (fun c j z => (show ∀ c, 127 ≤ c → c < 134 → c ∈ (List.range 23).map (· + 3) ++ (List.range 7).map (· + 127) from fun c h1 h2 => by rcases (show c = 127 ∨ c = 128 ∨ c = 129 ∨ c = 130 ∨ c = 131 ∨ c = 132 ∨ c = 133 by omega) with rfl | rfl | rfl | rfl | rfl | rfl | rfl <;> decide) c z.1 (by omega))
  refine ⟨M1, Z7, CNt_of (own := "IceParliament$State") (by decide) rfl rfl (Nat.le_of_ble_eq_true rfl) (fun B => Nat.le_add_right B _) ?_, hqZ7.fin fz (show WF[127]? = some (6, 0, 127) from rfl) (by decide), sc1, fr1⟩
  intro p l e s m args below meth c dC dI cA ρ B ls cx sx hsz hl
  have hls : ls.size = 2 := by obtain ⟨l0, h0, -⟩ := hl; exact h0.1
  refine n_ald cx hl (i := 0) (k3 := 0) (t := 6) (k := 127) (pc := 0) rfl rfl (by omega) (by decide +kernel) ?_
  refine n_obj (k := 127) (index := 3) cx hl (in_t2 (List.mem_of_getElem? (i := 76) rfl) rfl) (in_t1 (List.mem_of_getElem? (i := 33) rfl) rfl) (in_t1 (List.mem_of_getElem? (i := 34) rfl) rfl) ⟨Nat.le_of_ble_eq_true rfl, Nat.le_of_ble_eq_true rfl⟩ (by decide) (pc := 1) (by decide +kernel) ?_
  refine n_ald cx hl (i := 0) (k3 := 0) (t := 6) (k := 127) (pc := 4) rfl rfl (by omega) (by decide +kernel) ?_
  refine lv_bipush cx.1.1 cx.1.2.1 (n := 6) (v := Int32.ofNat 6) (pc := 5) (by decide +kernel) (by decide) ?_
  refine n_newa (t := 20) (N := 6) (n := 128) (aty := .int) (ty := .int) (index := 0) rfl (by omega) rfl (.inl ⟨rfl, rfl⟩) cx sx (hq.fz fz hm) (show WF[128]? = some (20, 6, 128) from rfl) (in_t1 (List.mem_of_getElem? (i := 124) rfl) rfl) (Nat.le_of_ble_eq_true rfl) (Nat.le_of_ble_eq_true rfl) (pc := 7) (by decide +kernel) (fun H1 sx => ?_)
  refine n_putF (t := 6) (k := 127) (j := 1) (index := 9) cx sx (by omega) (by decide) (show WF[127]? = some (6, 0, 127) from rfl) (by decide) rfl (by rw [show (fp 6 1 127).2.2 = 128 from rfl, cx.2.2.2.2.2.2.2.2.1 128 (by omega)]) rfl (in_t2 (List.mem_of_getElem? (i := 88) rfl) rfl) rfl rfl (fun _ => rfl) (fun _ => rfl) (pc := 9) (by decide +kernel) (fun H1 locs1 sx => ?_)
  rw [← eZ1] at sx
  refine n_ald cx hl (i := 0) (k3 := 0) (t := 6) (k := 127) (pc := 12) rfl rfl (by omega) (by decide +kernel) ?_
  refine lv_bipush cx.1.1 cx.1.2.1 (n := 6) (v := Int32.ofNat 6) (pc := 13) (by decide +kernel) (by decide) ?_
  refine n_newa (t := 20) (N := 6) (n := 129) (aty := .int) (ty := .int) (index := 0) rfl (by omega) rfl (.inl ⟨rfl, rfl⟩) cx sx (hqZ1.fz fz hm) (show WF[129]? = some (20, 6, 129) from rfl) (in_t1 (List.mem_of_getElem? (i := 124) rfl) rfl) (Nat.le_of_ble_eq_true rfl) (Nat.le_of_ble_eq_true rfl) (pc := 15) (by decide +kernel) (fun H1 sx => ?_)
  refine n_putF (t := 6) (k := 127) (j := 2) (index := 15) cx sx (by omega) (by decide) (show WF[127]? = some (6, 0, 127) from rfl) (by decide) rfl (by rw [show (fp 6 2 127).2.2 = 129 from rfl, cx.2.2.2.2.2.2.2.2.1 129 (by omega)]) rfl (in_t2 (List.mem_of_getElem? (i := 92) rfl) rfl) rfl rfl (fun _ => rfl) (fun _ => rfl) (pc := 17) (by decide +kernel) (fun H1 locs1 sx => ?_)
  rw [← eZ2] at sx
  refine n_ald cx hl (i := 0) (k3 := 0) (t := 6) (k := 127) (pc := 20) rfl rfl (by omega) (by decide +kernel) ?_
  refine lv_bipush cx.1.1 cx.1.2.1 (n := 6) (v := Int32.ofNat 6) (pc := 21) (by decide +kernel) (by decide) ?_
  refine n_newa (t := 20) (N := 6) (n := 130) (aty := .int) (ty := .int) (index := 0) rfl (by omega) rfl (.inl ⟨rfl, rfl⟩) cx sx (hqZ2.fz fz hm) (show WF[130]? = some (20, 6, 130) from rfl) (in_t1 (List.mem_of_getElem? (i := 124) rfl) rfl) (Nat.le_of_ble_eq_true rfl) (Nat.le_of_ble_eq_true rfl) (pc := 23) (by decide +kernel) (fun H1 sx => ?_)
  refine n_putF (t := 6) (k := 127) (j := 3) (index := 18) cx sx (by omega) (by decide) (show WF[127]? = some (6, 0, 127) from rfl) (by decide) rfl (by rw [show (fp 6 3 127).2.2 = 130 from rfl, cx.2.2.2.2.2.2.2.2.1 130 (by omega)]) rfl (in_t2 (List.mem_of_getElem? (i := 95) rfl) rfl) rfl rfl (fun _ => rfl) (fun _ => rfl) (pc := 25) (by decide +kernel) (fun H1 locs1 sx => ?_)
  rw [← eZ3] at sx
  refine n_ald cx hl (i := 0) (k3 := 0) (t := 6) (k := 127) (pc := 28) rfl rfl (by omega) (by decide +kernel) ?_
  refine lv_bipush cx.1.1 cx.1.2.1 (n := 6) (v := Int32.ofNat 6) (pc := 29) (by decide +kernel) (by decide) ?_
  refine n_newa (t := 20) (N := 6) (n := 131) (aty := .int) (ty := .int) (index := 0) rfl (by omega) rfl (.inl ⟨rfl, rfl⟩) cx sx (hqZ3.fz fz hm) (show WF[131]? = some (20, 6, 131) from rfl) (in_t1 (List.mem_of_getElem? (i := 124) rfl) rfl) (Nat.le_of_ble_eq_true rfl) (Nat.le_of_ble_eq_true rfl) (pc := 31) (by decide +kernel) (fun H1 sx => ?_)
  refine n_putF (t := 6) (k := 127) (j := 4) (index := 21) cx sx (by omega) (by decide) (show WF[127]? = some (6, 0, 127) from rfl) (by decide) rfl (by rw [show (fp 6 4 127).2.2 = 131 from rfl, cx.2.2.2.2.2.2.2.2.1 131 (by omega)]) rfl (in_t2 (List.mem_of_getElem? (i := 99) rfl) rfl) rfl rfl (fun _ => rfl) (fun _ => rfl) (pc := 33) (by decide +kernel) (fun H1 locs1 sx => ?_)
  rw [← eZ4] at sx
  refine n_ald cx hl (i := 0) (k3 := 0) (t := 6) (k := 127) (pc := 36) rfl rfl (by omega) (by decide +kernel) ?_
  refine lv_bipush cx.1.1 cx.1.2.1 (n := 6) (v := Int32.ofNat 6) (pc := 37) (by decide +kernel) (by decide) ?_
  refine n_newa (t := 20) (N := 6) (n := 132) (aty := .int) (ty := .int) (index := 0) rfl (by omega) rfl (.inl ⟨rfl, rfl⟩) cx sx (hqZ4.fz fz hm) (show WF[132]? = some (20, 6, 132) from rfl) (in_t1 (List.mem_of_getElem? (i := 124) rfl) rfl) (Nat.le_of_ble_eq_true rfl) (Nat.le_of_ble_eq_true rfl) (pc := 39) (by decide +kernel) (fun H1 sx => ?_)
  refine n_putF (t := 6) (k := 127) (j := 5) (index := 24) cx sx (by omega) (by decide) (show WF[127]? = some (6, 0, 127) from rfl) (by decide) rfl (by rw [show (fp 6 5 127).2.2 = 132 from rfl, cx.2.2.2.2.2.2.2.2.1 132 (by omega)]) rfl (in_t2 (List.mem_of_getElem? (i := 102) rfl) rfl) rfl rfl (fun _ => rfl) (fun _ => rfl) (pc := 41) (by decide +kernel) (fun H1 locs1 sx => ?_)
  rw [← eZ5] at sx
  refine n_ald cx hl (i := 0) (k3 := 0) (t := 6) (k := 127) (pc := 44) rfl rfl (by omega) (by decide +kernel) ?_
  refine lv_bipush cx.1.1 cx.1.2.1 (n := 6) (v := Int32.ofNat 6) (pc := 45) (by decide +kernel) (by decide) ?_
  refine n_newa (t := 20) (N := 6) (n := 133) (aty := .int) (ty := .int) (index := 0) rfl (by omega) rfl (.inl ⟨rfl, rfl⟩) cx sx (hqZ5.fz fz hm) (show WF[133]? = some (20, 6, 133) from rfl) (in_t1 (List.mem_of_getElem? (i := 124) rfl) rfl) (Nat.le_of_ble_eq_true rfl) (Nat.le_of_ble_eq_true rfl) (pc := 47) (by decide +kernel) (fun H1 sx => ?_)
  refine n_putF (t := 6) (k := 127) (j := 6) (index := 27) cx sx (by omega) (by decide) (show WF[127]? = some (6, 0, 127) from rfl) (by decide) rfl (by rw [show (fp 6 6 127).2.2 = 133 from rfl, cx.2.2.2.2.2.2.2.2.1 133 (by omega)]) rfl (in_t2 (List.mem_of_getElem? (i := 106) rfl) rfl) rfl rfl (fun _ => rfl) (fun _ => rfl) (pc := 49) (by decide +kernel) (fun H1 locs1 sx => ?_)
  rw [← eZ6] at sx
  refine n_ald cx hl (i := 0) (k3 := 0) (t := 6) (k := 127) (pc := 52) rfl rfl (by omega) (by decide +kernel) ?_
  refine n_ald cx hl (i := 1) (k3 := 1) (t := 9) (k := 3) (pc := 53) rfl rfl (by omega) (by decide +kernel) ?_
  refine n_putF (t := 6) (k := 127) (j := 10) (index := 30) cx sx (by omega) (by decide) (show WF[127]? = some (6, 0, 127) from rfl) (by decide) rfl (by rw [show (fp 6 10 127).2.2 = 3 from rfl, cx.2.2.2.2.2.2.2.2.1 3 (by omega)]) rfl (in_t2 (List.mem_of_getElem? (i := 116) rfl) rfl) rfl rfl (fun _ => rfl) (fun _ => rfl) (pc := 54) (by decide +kernel) (fun H1 locs1 sx => ?_)
  rw [← eZ7] at sx
  refine n_ald cx hl (i := 0) (k3 := 0) (t := 6) (k := 127) (pc := 57) rfl rfl (by omega) (by decide +kernel) ?_
  refine n_evI (x := 5) (t := 6) (k := 127) (index := 34) (as := []) (ks := (List.range 23).map (· + 3) ++ (List.range 7).map (· + 127)) rfl ev1 rfl (by decide +kernel) (by decide) rfl (by decide +kernel) (by decide +kernel) (Clo_of (by decide +kernel)) (WT_of (by decide +kernel)) (by decide +kernel)
    (fun i hi b => by
      rcases (show ∀ i ∈ (List.range 23).map (· + 3) ++ (List.range 7).map (· + 127), (3 ≤ i ∧ i ≤ 25) ∨ (127 ≤ i ∧ i < 134) from by decide +kernel) i hi with z | z
      · rw [pz.1 i b (.inl (by omega))]; exact hY i z.1 z.2 b
      · exact pz.2 i z.1 z.2 b) hfr (fun v hv => by rcases List.mem_singleton.mp hv with rfl; exact .inl (show ((6, 0, 127) : Ref3) ∈ wI ((List.range 23).map (· + 3) ++ (List.range 7).map (· + 127)) from by decide +kernel)) cx sx (by rw [hsz]) (by decide) hls (in_t2 (List.mem_of_getElem? (i := 77) rfl) rfl) (in_t2 (List.mem_of_getElem? (i := 78) rfl) rfl) (in_t2 (List.mem_of_getElem? (i := 79) rfl) rfl) rfl ⟨Nat.le_of_ble_eq_true rfl, Nat.le_of_ble_eq_true rfl⟩ ⟨Nat.le_of_ble_eq_true rfl, Nat.le_of_ble_eq_true rfl⟩ (Nat.le_of_ble_eq_true rfl) (pc := 58) (by decide +kernel) (fun H1 locs1 sx => ?_)
  exact n_ret cx sx (Nat.le_of_ble_eq_true rfl) (Nat.le_of_ble_eq_true rfl) (pc := 61) (by decide +kernel)
set_option maxRecDepth 20000 in
set_option maxHeartbeats 1000000 in
theorem c_State134 (fz : Fz 134 M Z) (hm : Mz 134 M) (hY : ∀ a, 3 ≤ a → a ≤ 25 → ∀ b, Z a b = false) : ∃ M' Z', CNt ⟨"IceParliament$State", "<init>", "(LIceParliament$Yard;)V"⟩ prog_8_method_1_code 2 3 6 36 [vR 6 0 134, vR 9 0 3] 135 M Z 141 M' Z' ∧ PZ 134 141 Z Z' ∧ SC (staS M.1) 134 M' ∧ Fr (fun c _ => 134 ≤ c ∧ c ≤ 134 + 6) M M' := by
  have hq : QZ 134 [] 135 Z Z := QZ.start
  have hqa := hq.arr fz (show WF[135]? = some (20, 6, 135) from rfl) (by decide)
  obtain ⟨Z1, eZ1⟩ : ∃ Z1, Z1 = uZ Z 134 1 := ⟨_, rfl⟩
  have hqZ1 := hqa.put eZ1
  have hqZ1a := hqZ1.arr fz (show WF[136]? = some (20, 6, 136) from rfl) (by decide)
  obtain ⟨Z2, eZ2⟩ : ∃ Z2, Z2 = uZ Z1 134 2 := ⟨_, rfl⟩
  have hqZ2 := hqZ1a.put eZ2
  have hqZ2a := hqZ2.arr fz (show WF[137]? = some (20, 6, 137) from rfl) (by decide)
  obtain ⟨Z3, eZ3⟩ : ∃ Z3, Z3 = uZ Z2 134 3 := ⟨_, rfl⟩
  have hqZ3 := hqZ2a.put eZ3
  have hqZ3a := hqZ3.arr fz (show WF[138]? = some (20, 6, 138) from rfl) (by decide)
  obtain ⟨Z4, eZ4⟩ : ∃ Z4, Z4 = uZ Z3 134 4 := ⟨_, rfl⟩
  have hqZ4 := hqZ3a.put eZ4
  have hqZ4a := hqZ4.arr fz (show WF[139]? = some (20, 6, 139) from rfl) (by decide)
  obtain ⟨Z5, eZ5⟩ : ∃ Z5, Z5 = uZ Z4 134 5 := ⟨_, rfl⟩
  have hqZ5 := hqZ4a.put eZ5
  have hqZ5a := hqZ5.arr fz (show WF[140]? = some (20, 6, 140) from rfl) (by decide)
  obtain ⟨Z6, eZ6⟩ : ∃ Z6, Z6 = uZ Z5 134 6 := ⟨_, rfl⟩
  have hqZ6 := hqZ5a.put eZ6
  obtain ⟨Z7, eZ7⟩ : ∃ Z7, Z7 = uZ Z6 134 10 := ⟨_, rfl⟩
  have hqZ7 := hqZ6.put eZ7
  obtain ⟨a1, M1, ev1, ha1, sc1, fr1⟩ := sp5 (d := 0) (Y := M.1) (M := M) (k := 134) ⟨rfl, rfl, rfl, rfl, rfl, rfl, rfl, rfl, rfl, rfl, rfl, rfl, rfl, rfl, rfl, rfl, rfl, rfl⟩ (by decide)
  subst ha1
  have pz := hqZ7.fin fz (show WF[134]? = some (6, 0, 134) from rfl) (by decide)
  have hfr : Fr (fun c _ => c ∈ (List.range 23).map (· + 3) ++ (List.range 7).map (· + 134)) M M1 := fr1.up (fun c j z => (show ∀ c, 134 ≤ c → c < 141 → c ∈ (List.range 23).map (· + 3) ++ (List.range 7).map (· + 134) from fun c h1 h2 => by rcases (show c = 134 ∨ c = 135 ∨ c = 136 ∨ c = 137 ∨ c = 138 ∨ c = 139 ∨ c = 140 by omega) with rfl | rfl | rfl | rfl | rfl | rfl | rfl <;> decide) c z.1 (by omega))
  refine ⟨M1, Z7, CNt_of (own := "IceParliament$State") (by decide) rfl rfl (Nat.le_of_ble_eq_true rfl) (fun B => Nat.le_add_right B _) ?_, hqZ7.fin fz (show WF[134]? = some (6, 0, 134) from rfl) (by decide), sc1, fr1⟩
  intro p l e s m args below meth c dC dI cA ρ B ls cx sx hsz hl
  have hls : ls.size = 2 := by obtain ⟨l0, h0, -⟩ := hl; exact h0.1
  refine n_ald cx hl (i := 0) (k3 := 0) (t := 6) (k := 134) (pc := 0) rfl rfl (by omega) (by decide +kernel) ?_
  refine n_obj (k := 134) (index := 3) cx hl (in_t2 (List.mem_of_getElem? (i := 76) rfl) rfl) (in_t1 (List.mem_of_getElem? (i := 33) rfl) rfl) (in_t1 (List.mem_of_getElem? (i := 34) rfl) rfl) ⟨Nat.le_of_ble_eq_true rfl, Nat.le_of_ble_eq_true rfl⟩ (by decide) (pc := 1) (by decide +kernel) ?_
  refine n_ald cx hl (i := 0) (k3 := 0) (t := 6) (k := 134) (pc := 4) rfl rfl (by omega) (by decide +kernel) ?_
  refine lv_bipush cx.1.1 cx.1.2.1 (n := 6) (v := Int32.ofNat 6) (pc := 5) (by decide +kernel) (by decide) ?_
  refine n_newa (t := 20) (N := 6) (n := 135) (aty := .int) (ty := .int) (index := 0) rfl (by omega) rfl (.inl ⟨rfl, rfl⟩) cx sx (hq.fz fz hm) (show WF[135]? = some (20, 6, 135) from rfl) (in_t1 (List.mem_of_getElem? (i := 124) rfl) rfl) (Nat.le_of_ble_eq_true rfl) (Nat.le_of_ble_eq_true rfl) (pc := 7) (by decide +kernel) (fun H1 sx => ?_)
  refine n_putF (t := 6) (k := 134) (j := 1) (index := 9) cx sx (by omega) (by decide) (show WF[134]? = some (6, 0, 134) from rfl) (by decide) rfl (by rw [show (fp 6 1 134).2.2 = 135 from rfl, cx.2.2.2.2.2.2.2.2.1 135 (by omega)]) rfl (in_t2 (List.mem_of_getElem? (i := 88) rfl) rfl) rfl rfl (fun _ => rfl) (fun _ => rfl) (pc := 9) (by decide +kernel) (fun H1 locs1 sx => ?_)
  rw [← eZ1] at sx
  refine n_ald cx hl (i := 0) (k3 := 0) (t := 6) (k := 134) (pc := 12) rfl rfl (by omega) (by decide +kernel) ?_
  refine lv_bipush cx.1.1 cx.1.2.1 (n := 6) (v := Int32.ofNat 6) (pc := 13) (by decide +kernel) (by decide) ?_
  refine n_newa (t := 20) (N := 6) (n := 136) (aty := .int) (ty := .int) (index := 0) rfl (by omega) rfl (.inl ⟨rfl, rfl⟩) cx sx (hqZ1.fz fz hm) (show WF[136]? = some (20, 6, 136) from rfl) (in_t1 (List.mem_of_getElem? (i := 124) rfl) rfl) (Nat.le_of_ble_eq_true rfl) (Nat.le_of_ble_eq_true rfl) (pc := 15) (by decide +kernel) (fun H1 sx => ?_)
  refine n_putF (t := 6) (k := 134) (j := 2) (index := 15) cx sx (by omega) (by decide) (show WF[134]? = some (6, 0, 134) from rfl) (by decide) rfl (by rw [show (fp 6 2 134).2.2 = 136 from rfl, cx.2.2.2.2.2.2.2.2.1 136 (by omega)]) rfl (in_t2 (List.mem_of_getElem? (i := 92) rfl) rfl) rfl rfl (fun _ => rfl) (fun _ => rfl) (pc := 17) (by decide +kernel) (fun H1 locs1 sx => ?_)
  rw [← eZ2] at sx
  refine n_ald cx hl (i := 0) (k3 := 0) (t := 6) (k := 134) (pc := 20) rfl rfl (by omega) (by decide +kernel) ?_
  refine lv_bipush cx.1.1 cx.1.2.1 (n := 6) (v := Int32.ofNat 6) (pc := 21) (by decide +kernel) (by decide) ?_
  refine n_newa (t := 20) (N := 6) (n := 137) (aty := .int) (ty := .int) (index := 0) rfl (by omega) rfl (.inl ⟨rfl, rfl⟩) cx sx (hqZ2.fz fz hm) (show WF[137]? = some (20, 6, 137) from rfl) (in_t1 (List.mem_of_getElem? (i := 124) rfl) rfl) (Nat.le_of_ble_eq_true rfl) (Nat.le_of_ble_eq_true rfl) (pc := 23) (by decide +kernel) (fun H1 sx => ?_)
  refine n_putF (t := 6) (k := 134) (j := 3) (index := 18) cx sx (by omega) (by decide) (show WF[134]? = some (6, 0, 134) from rfl) (by decide) rfl (by rw [show (fp 6 3 134).2.2 = 137 from rfl, cx.2.2.2.2.2.2.2.2.1 137 (by omega)]) rfl (in_t2 (List.mem_of_getElem? (i := 95) rfl) rfl) rfl rfl (fun _ => rfl) (fun _ => rfl) (pc := 25) (by decide +kernel) (fun H1 locs1 sx => ?_)
  rw [← eZ3] at sx
  refine n_ald cx hl (i := 0) (k3 := 0) (t := 6) (k := 134) (pc := 28) rfl rfl (by omega) (by decide +kernel) ?_
  refine lv_bipush cx.1.1 cx.1.2.1 (n := 6) (v := Int32.ofNat 6) (pc := 29) (by decide +kernel) (by decide) ?_
  refine n_newa (t := 20) (N := 6) (n := 138) (aty := .int) (ty := .int) (index := 0) rfl (by omega) rfl (.inl ⟨rfl, rfl⟩) cx sx (hqZ3.fz fz hm) (show WF[138]? = some (20, 6, 138) from rfl) (in_t1 (List.mem_of_getElem? (i := 124) rfl) rfl) (Nat.le_of_ble_eq_true rfl) (Nat.le_of_ble_eq_true rfl) (pc := 31) (by decide +kernel) (fun H1 sx => ?_)
  refine n_putF (t := 6) (k := 134) (j := 4) (index := 21) cx sx (by omega) (by decide) (show WF[134]? = some (6, 0, 134) from rfl) (by decide) rfl (by rw [show (fp 6 4 134).2.2 = 138 from rfl, cx.2.2.2.2.2.2.2.2.1 138 (by omega)]) rfl (in_t2 (List.mem_of_getElem? (i := 99) rfl) rfl) rfl rfl (fun _ => rfl) (fun _ => rfl) (pc := 33) (by decide +kernel) (fun H1 locs1 sx => ?_)
  rw [← eZ4] at sx
  refine n_ald cx hl (i := 0) (k3 := 0) (t := 6) (k := 134) (pc := 36) rfl rfl (by omega) (by decide +kernel) ?_
  refine lv_bipush cx.1.1 cx.1.2.1 (n := 6) (v := Int32.ofNat 6) (pc := 37) (by decide +kernel) (by decide) ?_
  refine n_newa (t := 20) (N := 6) (n := 139) (aty := .int) (ty := .int) (index := 0) rfl (by omega) rfl (.inl ⟨rfl, rfl⟩) cx sx (hqZ4.fz fz hm) (show WF[139]? = some (20, 6, 139) from rfl) (in_t1 (List.mem_of_getElem? (i := 124) rfl) rfl) (Nat.le_of_ble_eq_true rfl) (Nat.le_of_ble_eq_true rfl) (pc := 39) (by decide +kernel) (fun H1 sx => ?_)
  refine n_putF (t := 6) (k := 134) (j := 5) (index := 24) cx sx (by omega) (by decide) (show WF[134]? = some (6, 0, 134) from rfl) (by decide) rfl (by rw [show (fp 6 5 134).2.2 = 139 from rfl, cx.2.2.2.2.2.2.2.2.1 139 (by omega)]) rfl (in_t2 (List.mem_of_getElem? (i := 102) rfl) rfl) rfl rfl (fun _ => rfl) (fun _ => rfl) (pc := 41) (by decide +kernel) (fun H1 locs1 sx => ?_)
  rw [← eZ5] at sx
  refine n_ald cx hl (i := 0) (k3 := 0) (t := 6) (k := 134) (pc := 44) rfl rfl (by omega) (by decide +kernel) ?_
  refine lv_bipush cx.1.1 cx.1.2.1 (n := 6) (v := Int32.ofNat 6) (pc := 45) (by decide +kernel) (by decide) ?_
  refine n_newa (t := 20) (N := 6) (n := 140) (aty := .int) (ty := .int) (index := 0) rfl (by omega) rfl (.inl ⟨rfl, rfl⟩) cx sx (hqZ5.fz fz hm) (show WF[140]? = some (20, 6, 140) from rfl) (in_t1 (List.mem_of_getElem? (i := 124) rfl) rfl) (Nat.le_of_ble_eq_true rfl) (Nat.le_of_ble_eq_true rfl) (pc := 47) (by decide +kernel) (fun H1 sx => ?_)
  refine n_putF (t := 6) (k := 134) (j := 6) (index := 27) cx sx (by omega) (by decide) (show WF[134]? = some (6, 0, 134) from rfl) (by decide) rfl (by rw [show (fp 6 6 134).2.2 = 140 from rfl, cx.2.2.2.2.2.2.2.2.1 140 (by omega)]) rfl (in_t2 (List.mem_of_getElem? (i := 106) rfl) rfl) rfl rfl (fun _ => rfl) (fun _ => rfl) (pc := 49) (by decide +kernel) (fun H1 locs1 sx => ?_)
  rw [← eZ6] at sx
  refine n_ald cx hl (i := 0) (k3 := 0) (t := 6) (k := 134) (pc := 52) rfl rfl (by omega) (by decide +kernel) ?_
  refine n_ald cx hl (i := 1) (k3 := 1) (t := 9) (k := 3) (pc := 53) rfl rfl (by omega) (by decide +kernel) ?_
  refine n_putF (t := 6) (k := 134) (j := 10) (index := 30) cx sx (by omega) (by decide) (show WF[134]? = some (6, 0, 134) from rfl) (by decide) rfl (by rw [show (fp 6 10 134).2.2 = 3 from rfl, cx.2.2.2.2.2.2.2.2.1 3 (by omega)]) rfl (in_t2 (List.mem_of_getElem? (i := 116) rfl) rfl) rfl rfl (fun _ => rfl) (fun _ => rfl) (pc := 54) (by decide +kernel) (fun H1 locs1 sx => ?_)
  rw [← eZ7] at sx
  refine n_ald cx hl (i := 0) (k3 := 0) (t := 6) (k := 134) (pc := 57) rfl rfl (by omega) (by decide +kernel) ?_
  refine n_evI (x := 5) (t := 6) (k := 134) (index := 34) (as := []) (ks := (List.range 23).map (· + 3) ++ (List.range 7).map (· + 134)) rfl ev1 rfl (by decide +kernel) (by decide) rfl (by decide +kernel) (by decide +kernel) (Clo_of (by decide +kernel)) (WT_of (by decide +kernel)) (by decide +kernel)
    (fun i hi b => by
      rcases (show ∀ i ∈ (List.range 23).map (· + 3) ++ (List.range 7).map (· + 134), (3 ≤ i ∧ i ≤ 25) ∨ (134 ≤ i ∧ i < 141) from by decide +kernel) i hi with z | z
      · rw [pz.1 i b (.inl (by omega))]; exact hY i z.1 z.2 b
      · exact pz.2 i z.1 z.2 b) hfr (fun v hv => by rcases List.mem_singleton.mp hv with rfl; exact .inl (show ((6, 0, 134) : Ref3) ∈ wI ((List.range 23).map (· + 3) ++ (List.range 7).map (· + 134)) from by decide +kernel)) cx sx (by rw [hsz]) (by decide) hls (in_t2 (List.mem_of_getElem? (i := 77) rfl) rfl) (in_t2 (List.mem_of_getElem? (i := 78) rfl) rfl) (in_t2 (List.mem_of_getElem? (i := 79) rfl) rfl) rfl ⟨Nat.le_of_ble_eq_true rfl, Nat.le_of_ble_eq_true rfl⟩ ⟨Nat.le_of_ble_eq_true rfl, Nat.le_of_ble_eq_true rfl⟩ (Nat.le_of_ble_eq_true rfl) (pc := 58) (by decide +kernel) (fun H1 locs1 sx => ?_)
  exact n_ret cx sx (Nat.le_of_ble_eq_true rfl) (Nat.le_of_ble_eq_true rfl) (pc := 61) (by decide +kernel)
set_option maxRecDepth 20000 in
set_option maxHeartbeats 1000000 in
theorem c_State141 (fz : Fz 141 M Z) (hm : Mz 141 M) (hY : ∀ a, 3 ≤ a → a ≤ 25 → ∀ b, Z a b = false) : ∃ M' Z', CNt ⟨"IceParliament$State", "<init>", "(LIceParliament$Yard;)V"⟩ prog_8_method_1_code 2 3 6 36 [vR 6 0 141, vR 9 0 3] 142 M Z 148 M' Z' ∧ PZ 141 148 Z Z' ∧ SC (staS M.1) 141 M' ∧ Fr (fun c _ => 141 ≤ c ∧ c ≤ 141 + 6) M M' := by
  have hq : QZ 141 [] 142 Z Z := QZ.start
  have hqa := hq.arr fz (show WF[142]? = some (20, 6, 142) from rfl) (by decide)
  obtain ⟨Z1, eZ1⟩ : ∃ Z1, Z1 = uZ Z 141 1 := ⟨_, rfl⟩
  have hqZ1 := hqa.put eZ1
  have hqZ1a := hqZ1.arr fz (show WF[143]? = some (20, 6, 143) from rfl) (by decide)
  obtain ⟨Z2, eZ2⟩ : ∃ Z2, Z2 = uZ Z1 141 2 := ⟨_, rfl⟩
  have hqZ2 := hqZ1a.put eZ2
  have hqZ2a := hqZ2.arr fz (show WF[144]? = some (20, 6, 144) from rfl) (by decide)
  obtain ⟨Z3, eZ3⟩ : ∃ Z3, Z3 = uZ Z2 141 3 := ⟨_, rfl⟩
  have hqZ3 := hqZ2a.put eZ3
  have hqZ3a := hqZ3.arr fz (show WF[145]? = some (20, 6, 145) from rfl) (by decide)
  obtain ⟨Z4, eZ4⟩ : ∃ Z4, Z4 = uZ Z3 141 4 := ⟨_, rfl⟩
  have hqZ4 := hqZ3a.put eZ4
  have hqZ4a := hqZ4.arr fz (show WF[146]? = some (20, 6, 146) from rfl) (by decide)
  obtain ⟨Z5, eZ5⟩ : ∃ Z5, Z5 = uZ Z4 141 5 := ⟨_, rfl⟩
  have hqZ5 := hqZ4a.put eZ5
  have hqZ5a := hqZ5.arr fz (show WF[147]? = some (20, 6, 147) from rfl) (by decide)
  obtain ⟨Z6, eZ6⟩ : ∃ Z6, Z6 = uZ Z5 141 6 := ⟨_, rfl⟩
  have hqZ6 := hqZ5a.put eZ6
  obtain ⟨Z7, eZ7⟩ : ∃ Z7, Z7 = uZ Z6 141 10 := ⟨_, rfl⟩
  have hqZ7 := hqZ6.put eZ7
  obtain ⟨a1, M1, ev1, ha1, sc1, fr1⟩ := sp5 (d := 0) (Y := M.1) (M := M) (k := 141) ⟨rfl, rfl, rfl, rfl, rfl, rfl, rfl, rfl, rfl, rfl, rfl, rfl, rfl, rfl, rfl, rfl, rfl, rfl⟩ (by decide)
  subst ha1
  have pz := hqZ7.fin fz (show WF[141]? = some (6, 0, 141) from rfl) (by decide)
  have hfr : Fr (fun c _ => c ∈ (List.range 23).map (· + 3) ++ (List.range 7).map (· + 141)) M M1 := fr1.up (fun c j z => (show ∀ c, 141 ≤ c → c < 148 → c ∈ (List.range 23).map (· + 3) ++ (List.range 7).map (· + 141) from fun c h1 h2 => by rcases (show c = 141 ∨ c = 142 ∨ c = 143 ∨ c = 144 ∨ c = 145 ∨ c = 146 ∨ c = 147 by omega) with rfl | rfl | rfl | rfl | rfl | rfl | rfl <;> decide) c z.1 (by omega))
  refine ⟨M1, Z7, CNt_of (own := "IceParliament$State") (by decide) rfl rfl (Nat.le_of_ble_eq_true rfl) (fun B => Nat.le_add_right B _) ?_, hqZ7.fin fz (show WF[141]? = some (6, 0, 141) from rfl) (by decide), sc1, fr1⟩
  intro p l e s m args below meth c dC dI cA ρ B ls cx sx hsz hl
  have hls : ls.size = 2 := by obtain ⟨l0, h0, -⟩ := hl; exact h0.1
  refine n_ald cx hl (i := 0) (k3 := 0) (t := 6) (k := 141) (pc := 0) rfl rfl (by omega) (by decide +kernel) ?_
  refine n_obj (k := 141) (index := 3) cx hl (in_t2 (List.mem_of_getElem? (i := 76) rfl) rfl) (in_t1 (List.mem_of_getElem? (i := 33) rfl) rfl) (in_t1 (List.mem_of_getElem? (i := 34) rfl) rfl) ⟨Nat.le_of_ble_eq_true rfl, Nat.le_of_ble_eq_true rfl⟩ (by decide) (pc := 1) (by decide +kernel) ?_
  refine n_ald cx hl (i := 0) (k3 := 0) (t := 6) (k := 141) (pc := 4) rfl rfl (by omega) (by decide +kernel) ?_
  refine lv_bipush cx.1.1 cx.1.2.1 (n := 6) (v := Int32.ofNat 6) (pc := 5) (by decide +kernel) (by decide) ?_
  refine n_newa (t := 20) (N := 6) (n := 142) (aty := .int) (ty := .int) (index := 0) rfl (by omega) rfl (.inl ⟨rfl, rfl⟩) cx sx (hq.fz fz hm) (show WF[142]? = some (20, 6, 142) from rfl) (in_t1 (List.mem_of_getElem? (i := 124) rfl) rfl) (Nat.le_of_ble_eq_true rfl) (Nat.le_of_ble_eq_true rfl) (pc := 7) (by decide +kernel) (fun H1 sx => ?_)
  refine n_putF (t := 6) (k := 141) (j := 1) (index := 9) cx sx (by omega) (by decide) (show WF[141]? = some (6, 0, 141) from rfl) (by decide) rfl (by rw [show (fp 6 1 141).2.2 = 142 from rfl, cx.2.2.2.2.2.2.2.2.1 142 (by omega)]) rfl (in_t2 (List.mem_of_getElem? (i := 88) rfl) rfl) rfl rfl (fun _ => rfl) (fun _ => rfl) (pc := 9) (by decide +kernel) (fun H1 locs1 sx => ?_)
  rw [← eZ1] at sx
  refine n_ald cx hl (i := 0) (k3 := 0) (t := 6) (k := 141) (pc := 12) rfl rfl (by omega) (by decide +kernel) ?_
  refine lv_bipush cx.1.1 cx.1.2.1 (n := 6) (v := Int32.ofNat 6) (pc := 13) (by decide +kernel) (by decide) ?_
  refine n_newa (t := 20) (N := 6) (n := 143) (aty := .int) (ty := .int) (index := 0) rfl (by omega) rfl (.inl ⟨rfl, rfl⟩) cx sx (hqZ1.fz fz hm) (show WF[143]? = some (20, 6, 143) from rfl) (in_t1 (List.mem_of_getElem? (i := 124) rfl) rfl) (Nat.le_of_ble_eq_true rfl) (Nat.le_of_ble_eq_true rfl) (pc := 15) (by decide +kernel) (fun H1 sx => ?_)
  refine n_putF (t := 6) (k := 141) (j := 2) (index := 15) cx sx (by omega) (by decide) (show WF[141]? = some (6, 0, 141) from rfl) (by decide) rfl (by rw [show (fp 6 2 141).2.2 = 143 from rfl, cx.2.2.2.2.2.2.2.2.1 143 (by omega)]) rfl (in_t2 (List.mem_of_getElem? (i := 92) rfl) rfl) rfl rfl (fun _ => rfl) (fun _ => rfl) (pc := 17) (by decide +kernel) (fun H1 locs1 sx => ?_)
  rw [← eZ2] at sx
  refine n_ald cx hl (i := 0) (k3 := 0) (t := 6) (k := 141) (pc := 20) rfl rfl (by omega) (by decide +kernel) ?_
  refine lv_bipush cx.1.1 cx.1.2.1 (n := 6) (v := Int32.ofNat 6) (pc := 21) (by decide +kernel) (by decide) ?_
  refine n_newa (t := 20) (N := 6) (n := 144) (aty := .int) (ty := .int) (index := 0) rfl (by omega) rfl (.inl ⟨rfl, rfl⟩) cx sx (hqZ2.fz fz hm) (show WF[144]? = some (20, 6, 144) from rfl) (in_t1 (List.mem_of_getElem? (i := 124) rfl) rfl) (Nat.le_of_ble_eq_true rfl) (Nat.le_of_ble_eq_true rfl) (pc := 23) (by decide +kernel) (fun H1 sx => ?_)
  refine n_putF (t := 6) (k := 141) (j := 3) (index := 18) cx sx (by omega) (by decide) (show WF[141]? = some (6, 0, 141) from rfl) (by decide) rfl (by rw [show (fp 6 3 141).2.2 = 144 from rfl, cx.2.2.2.2.2.2.2.2.1 144 (by omega)]) rfl (in_t2 (List.mem_of_getElem? (i := 95) rfl) rfl) rfl rfl (fun _ => rfl) (fun _ => rfl) (pc := 25) (by decide +kernel) (fun H1 locs1 sx => ?_)
  rw [← eZ3] at sx
  refine n_ald cx hl (i := 0) (k3 := 0) (t := 6) (k := 141) (pc := 28) rfl rfl (by omega) (by decide +kernel) ?_
  refine lv_bipush cx.1.1 cx.1.2.1 (n := 6) (v := Int32.ofNat 6) (pc := 29) (by decide +kernel) (by decide) ?_
  refine n_newa (t := 20) (N := 6) (n := 145) (aty := .int) (ty := .int) (index := 0) rfl (by omega) rfl (.inl ⟨rfl, rfl⟩) cx sx (hqZ3.fz fz hm) (show WF[145]? = some (20, 6, 145) from rfl) (in_t1 (List.mem_of_getElem? (i := 124) rfl) rfl) (Nat.le_of_ble_eq_true rfl) (Nat.le_of_ble_eq_true rfl) (pc := 31) (by decide +kernel) (fun H1 sx => ?_)
  refine n_putF (t := 6) (k := 141) (j := 4) (index := 21) cx sx (by omega) (by decide) (show WF[141]? = some (6, 0, 141) from rfl) (by decide) rfl (by rw [show (fp 6 4 141).2.2 = 145 from rfl, cx.2.2.2.2.2.2.2.2.1 145 (by omega)]) rfl (in_t2 (List.mem_of_getElem? (i := 99) rfl) rfl) rfl rfl (fun _ => rfl) (fun _ => rfl) (pc := 33) (by decide +kernel) (fun H1 locs1 sx => ?_)
  rw [← eZ4] at sx
  refine n_ald cx hl (i := 0) (k3 := 0) (t := 6) (k := 141) (pc := 36) rfl rfl (by omega) (by decide +kernel) ?_
  refine lv_bipush cx.1.1 cx.1.2.1 (n := 6) (v := Int32.ofNat 6) (pc := 37) (by decide +kernel) (by decide) ?_
  refine n_newa (t := 20) (N := 6) (n := 146) (aty := .int) (ty := .int) (index := 0) rfl (by omega) rfl (.inl ⟨rfl, rfl⟩) cx sx (hqZ4.fz fz hm) (show WF[146]? = some (20, 6, 146) from rfl) (in_t1 (List.mem_of_getElem? (i := 124) rfl) rfl) (Nat.le_of_ble_eq_true rfl) (Nat.le_of_ble_eq_true rfl) (pc := 39) (by decide +kernel) (fun H1 sx => ?_)
  refine n_putF (t := 6) (k := 141) (j := 5) (index := 24) cx sx (by omega) (by decide) (show WF[141]? = some (6, 0, 141) from rfl) (by decide) rfl (by rw [show (fp 6 5 141).2.2 = 146 from rfl, cx.2.2.2.2.2.2.2.2.1 146 (by omega)]) rfl (in_t2 (List.mem_of_getElem? (i := 102) rfl) rfl) rfl rfl (fun _ => rfl) (fun _ => rfl) (pc := 41) (by decide +kernel) (fun H1 locs1 sx => ?_)
  rw [← eZ5] at sx
  refine n_ald cx hl (i := 0) (k3 := 0) (t := 6) (k := 141) (pc := 44) rfl rfl (by omega) (by decide +kernel) ?_
  refine lv_bipush cx.1.1 cx.1.2.1 (n := 6) (v := Int32.ofNat 6) (pc := 45) (by decide +kernel) (by decide) ?_
  refine n_newa (t := 20) (N := 6) (n := 147) (aty := .int) (ty := .int) (index := 0) rfl (by omega) rfl (.inl ⟨rfl, rfl⟩) cx sx (hqZ5.fz fz hm) (show WF[147]? = some (20, 6, 147) from rfl) (in_t1 (List.mem_of_getElem? (i := 124) rfl) rfl) (Nat.le_of_ble_eq_true rfl) (Nat.le_of_ble_eq_true rfl) (pc := 47) (by decide +kernel) (fun H1 sx => ?_)
  refine n_putF (t := 6) (k := 141) (j := 6) (index := 27) cx sx (by omega) (by decide) (show WF[141]? = some (6, 0, 141) from rfl) (by decide) rfl (by rw [show (fp 6 6 141).2.2 = 147 from rfl, cx.2.2.2.2.2.2.2.2.1 147 (by omega)]) rfl (in_t2 (List.mem_of_getElem? (i := 106) rfl) rfl) rfl rfl (fun _ => rfl) (fun _ => rfl) (pc := 49) (by decide +kernel) (fun H1 locs1 sx => ?_)
  rw [← eZ6] at sx
  refine n_ald cx hl (i := 0) (k3 := 0) (t := 6) (k := 141) (pc := 52) rfl rfl (by omega) (by decide +kernel) ?_
  refine n_ald cx hl (i := 1) (k3 := 1) (t := 9) (k := 3) (pc := 53) rfl rfl (by omega) (by decide +kernel) ?_
  refine n_putF (t := 6) (k := 141) (j := 10) (index := 30) cx sx (by omega) (by decide) (show WF[141]? = some (6, 0, 141) from rfl) (by decide) rfl (by rw [show (fp 6 10 141).2.2 = 3 from rfl, cx.2.2.2.2.2.2.2.2.1 3 (by omega)]) rfl (in_t2 (List.mem_of_getElem? (i := 116) rfl) rfl) rfl rfl (fun _ => rfl) (fun _ => rfl) (pc := 54) (by decide +kernel) (fun H1 locs1 sx => ?_)
  rw [← eZ7] at sx
  refine n_ald cx hl (i := 0) (k3 := 0) (t := 6) (k := 141) (pc := 57) rfl rfl (by omega) (by decide +kernel) ?_
  refine n_evI (x := 5) (t := 6) (k := 141) (index := 34) (as := []) (ks := (List.range 23).map (· + 3) ++ (List.range 7).map (· + 141)) rfl ev1 rfl (by decide +kernel) (by decide) rfl (by decide +kernel) (by decide +kernel) (Clo_of (by decide +kernel)) (WT_of (by decide +kernel)) (by decide +kernel)
    (fun i hi b => by
      rcases (show ∀ i ∈ (List.range 23).map (· + 3) ++ (List.range 7).map (· + 141), (3 ≤ i ∧ i ≤ 25) ∨ (141 ≤ i ∧ i < 148) from by decide +kernel) i hi with z | z
      · rw [pz.1 i b (.inl (by omega))]; exact hY i z.1 z.2 b
      · exact pz.2 i z.1 z.2 b) hfr (fun v hv => by rcases List.mem_singleton.mp hv with rfl; exact .inl (show ((6, 0, 141) : Ref3) ∈ wI ((List.range 23).map (· + 3) ++ (List.range 7).map (· + 141)) from by decide +kernel)) cx sx (by rw [hsz]) (by decide) hls (in_t2 (List.mem_of_getElem? (i := 77) rfl) rfl) (in_t2 (List.mem_of_getElem? (i := 78) rfl) rfl) (in_t2 (List.mem_of_getElem? (i := 79) rfl) rfl) rfl ⟨Nat.le_of_ble_eq_true rfl, Nat.le_of_ble_eq_true rfl⟩ ⟨Nat.le_of_ble_eq_true rfl, Nat.le_of_ble_eq_true rfl⟩ (Nat.le_of_ble_eq_true rfl) (pc := 58) (by decide +kernel) (fun H1 locs1 sx => ?_)
  exact n_ret cx sx (Nat.le_of_ble_eq_true rfl) (Nat.le_of_ble_eq_true rfl) (pc := 61) (by decide +kernel)
set_option maxRecDepth 20000 in
set_option maxHeartbeats 1000000 in
theorem c_State148 (fz : Fz 148 M Z) (hm : Mz 148 M) (hY : ∀ a, 3 ≤ a → a ≤ 25 → ∀ b, Z a b = false) : ∃ M' Z', CNt ⟨"IceParliament$State", "<init>", "(LIceParliament$Yard;)V"⟩ prog_8_method_1_code 2 3 6 36 [vR 6 0 148, vR 9 0 3] 149 M Z 155 M' Z' ∧ PZ 148 155 Z Z' ∧ SC (staS M.1) 148 M' ∧ Fr (fun c _ => 148 ≤ c ∧ c ≤ 148 + 6) M M' := by
  have hq : QZ 148 [] 149 Z Z := QZ.start
  have hqa := hq.arr fz (show WF[149]? = some (20, 6, 149) from rfl) (by decide)
  obtain ⟨Z1, eZ1⟩ : ∃ Z1, Z1 = uZ Z 148 1 := ⟨_, rfl⟩
  have hqZ1 := hqa.put eZ1
  have hqZ1a := hqZ1.arr fz (show WF[150]? = some (20, 6, 150) from rfl) (by decide)
  obtain ⟨Z2, eZ2⟩ : ∃ Z2, Z2 = uZ Z1 148 2 := ⟨_, rfl⟩
  have hqZ2 := hqZ1a.put eZ2
  have hqZ2a := hqZ2.arr fz (show WF[151]? = some (20, 6, 151) from rfl) (by decide)
  obtain ⟨Z3, eZ3⟩ : ∃ Z3, Z3 = uZ Z2 148 3 := ⟨_, rfl⟩
  have hqZ3 := hqZ2a.put eZ3
  have hqZ3a := hqZ3.arr fz (show WF[152]? = some (20, 6, 152) from rfl) (by decide)
  obtain ⟨Z4, eZ4⟩ : ∃ Z4, Z4 = uZ Z3 148 4 := ⟨_, rfl⟩
  have hqZ4 := hqZ3a.put eZ4
  have hqZ4a := hqZ4.arr fz (show WF[153]? = some (20, 6, 153) from rfl) (by decide)
  obtain ⟨Z5, eZ5⟩ : ∃ Z5, Z5 = uZ Z4 148 5 := ⟨_, rfl⟩
  have hqZ5 := hqZ4a.put eZ5
  have hqZ5a := hqZ5.arr fz (show WF[154]? = some (20, 6, 154) from rfl) (by decide)
  obtain ⟨Z6, eZ6⟩ : ∃ Z6, Z6 = uZ Z5 148 6 := ⟨_, rfl⟩
  have hqZ6 := hqZ5a.put eZ6
  obtain ⟨Z7, eZ7⟩ : ∃ Z7, Z7 = uZ Z6 148 10 := ⟨_, rfl⟩
  have hqZ7 := hqZ6.put eZ7
  obtain ⟨a1, M1, ev1, ha1, sc1, fr1⟩ := sp5 (d := 0) (Y := M.1) (M := M) (k := 148) ⟨rfl, rfl, rfl, rfl, rfl, rfl, rfl, rfl, rfl, rfl, rfl, rfl, rfl, rfl, rfl, rfl, rfl, rfl⟩ (by decide)
  subst ha1
  have pz := hqZ7.fin fz (show WF[148]? = some (6, 0, 148) from rfl) (by decide)
  have hfr : Fr (fun c _ => c ∈ (List.range 23).map (· + 3) ++ (List.range 7).map (· + 148)) M M1 := fr1.up (fun c j z => (show ∀ c, 148 ≤ c → c < 155 → c ∈ (List.range 23).map (· + 3) ++ (List.range 7).map (· + 148) from fun c h1 h2 => by rcases (show c = 148 ∨ c = 149 ∨ c = 150 ∨ c = 151 ∨ c = 152 ∨ c = 153 ∨ c = 154 by omega) with rfl | rfl | rfl | rfl | rfl | rfl | rfl <;> decide) c z.1 (by omega))
  refine ⟨M1, Z7, CNt_of (own := "IceParliament$State") (by decide) rfl rfl (Nat.le_of_ble_eq_true rfl) (fun B => Nat.le_add_right B _) ?_, hqZ7.fin fz (show WF[148]? = some (6, 0, 148) from rfl) (by decide), sc1, fr1⟩
  intro p l e s m args below meth c dC dI cA ρ B ls cx sx hsz hl
  have hls : ls.size = 2 := by obtain ⟨l0, h0, -⟩ := hl; exact h0.1
  refine n_ald cx hl (i := 0) (k3 := 0) (t := 6) (k := 148) (pc := 0) rfl rfl (by omega) (by decide +kernel) ?_
  refine n_obj (k := 148) (index := 3) cx hl (in_t2 (List.mem_of_getElem? (i := 76) rfl) rfl) (in_t1 (List.mem_of_getElem? (i := 33) rfl) rfl) (in_t1 (List.mem_of_getElem? (i := 34) rfl) rfl) ⟨Nat.le_of_ble_eq_true rfl, Nat.le_of_ble_eq_true rfl⟩ (by decide) (pc := 1) (by decide +kernel) ?_
  refine n_ald cx hl (i := 0) (k3 := 0) (t := 6) (k := 148) (pc := 4) rfl rfl (by omega) (by decide +kernel) ?_
  refine lv_bipush cx.1.1 cx.1.2.1 (n := 6) (v := Int32.ofNat 6) (pc := 5) (by decide +kernel) (by decide) ?_
  refine n_newa (t := 20) (N := 6) (n := 149) (aty := .int) (ty := .int) (index := 0) rfl (by omega) rfl (.inl ⟨rfl, rfl⟩) cx sx (hq.fz fz hm) (show WF[149]? = some (20, 6, 149) from rfl) (in_t1 (List.mem_of_getElem? (i := 124) rfl) rfl) (Nat.le_of_ble_eq_true rfl) (Nat.le_of_ble_eq_true rfl) (pc := 7) (by decide +kernel) (fun H1 sx => ?_)
  refine n_putF (t := 6) (k := 148) (j := 1) (index := 9) cx sx (by omega) (by decide) (show WF[148]? = some (6, 0, 148) from rfl) (by decide) rfl (by rw [show (fp 6 1 148).2.2 = 149 from rfl, cx.2.2.2.2.2.2.2.2.1 149 (by omega)]) rfl (in_t2 (List.mem_of_getElem? (i := 88) rfl) rfl) rfl rfl (fun _ => rfl) (fun _ => rfl) (pc := 9) (by decide +kernel) (fun H1 locs1 sx => ?_)
  rw [← eZ1] at sx
  refine n_ald cx hl (i := 0) (k3 := 0) (t := 6) (k := 148) (pc := 12) rfl rfl (by omega) (by decide +kernel) ?_
  refine lv_bipush cx.1.1 cx.1.2.1 (n := 6) (v := Int32.ofNat 6) (pc := 13) (by decide +kernel) (by decide) ?_
  refine n_newa (t := 20) (N := 6) (n := 150) (aty := .int) (ty := .int) (index := 0) rfl (by omega) rfl (.inl ⟨rfl, rfl⟩) cx sx (hqZ1.fz fz hm) (show WF[150]? = some (20, 6, 150) from rfl) (in_t1 (List.mem_of_getElem? (i := 124) rfl) rfl) (Nat.le_of_ble_eq_true rfl) (Nat.le_of_ble_eq_true rfl) (pc := 15) (by decide +kernel) (fun H1 sx => ?_)
  refine n_putF (t := 6) (k := 148) (j := 2) (index := 15) cx sx (by omega) (by decide) (show WF[148]? = some (6, 0, 148) from rfl) (by decide) rfl (by rw [show (fp 6 2 148).2.2 = 150 from rfl, cx.2.2.2.2.2.2.2.2.1 150 (by omega)]) rfl (in_t2 (List.mem_of_getElem? (i := 92) rfl) rfl) rfl rfl (fun _ => rfl) (fun _ => rfl) (pc := 17) (by decide +kernel) (fun H1 locs1 sx => ?_)
  rw [← eZ2] at sx
  refine n_ald cx hl (i := 0) (k3 := 0) (t := 6) (k := 148) (pc := 20) rfl rfl (by omega) (by decide +kernel) ?_
  refine lv_bipush cx.1.1 cx.1.2.1 (n := 6) (v := Int32.ofNat 6) (pc := 21) (by decide +kernel) (by decide) ?_
  refine n_newa (t := 20) (N := 6) (n := 151) (aty := .int) (ty := .int) (index := 0) rfl (by omega) rfl (.inl ⟨rfl, rfl⟩) cx sx (hqZ2.fz fz hm) (show WF[151]? = some (20, 6, 151) from rfl) (in_t1 (List.mem_of_getElem? (i := 124) rfl) rfl) (Nat.le_of_ble_eq_true rfl) (Nat.le_of_ble_eq_true rfl) (pc := 23) (by decide +kernel) (fun H1 sx => ?_)
  refine n_putF (t := 6) (k := 148) (j := 3) (index := 18) cx sx (by omega) (by decide) (show WF[148]? = some (6, 0, 148) from rfl) (by decide) rfl (by rw [show (fp 6 3 148).2.2 = 151 from rfl, cx.2.2.2.2.2.2.2.2.1 151 (by omega)]) rfl (in_t2 (List.mem_of_getElem? (i := 95) rfl) rfl) rfl rfl (fun _ => rfl) (fun _ => rfl) (pc := 25) (by decide +kernel) (fun H1 locs1 sx => ?_)
  rw [← eZ3] at sx
  refine n_ald cx hl (i := 0) (k3 := 0) (t := 6) (k := 148) (pc := 28) rfl rfl (by omega) (by decide +kernel) ?_
  refine lv_bipush cx.1.1 cx.1.2.1 (n := 6) (v := Int32.ofNat 6) (pc := 29) (by decide +kernel) (by decide) ?_
  refine n_newa (t := 20) (N := 6) (n := 152) (aty := .int) (ty := .int) (index := 0) rfl (by omega) rfl (.inl ⟨rfl, rfl⟩) cx sx (hqZ3.fz fz hm) (show WF[152]? = some (20, 6, 152) from rfl) (in_t1 (List.mem_of_getElem? (i := 124) rfl) rfl) (Nat.le_of_ble_eq_true rfl) (Nat.le_of_ble_eq_true rfl) (pc := 31) (by decide +kernel) (fun H1 sx => ?_)
  refine n_putF (t := 6) (k := 148) (j := 4) (index := 21) cx sx (by omega) (by decide) (show WF[148]? = some (6, 0, 148) from rfl) (by decide) rfl (by rw [show (fp 6 4 148).2.2 = 152 from rfl, cx.2.2.2.2.2.2.2.2.1 152 (by omega)]) rfl (in_t2 (List.mem_of_getElem? (i := 99) rfl) rfl) rfl rfl (fun _ => rfl) (fun _ => rfl) (pc := 33) (by decide +kernel) (fun H1 locs1 sx => ?_)
  rw [← eZ4] at sx
  refine n_ald cx hl (i := 0) (k3 := 0) (t := 6) (k := 148) (pc := 36) rfl rfl (by omega) (by decide +kernel) ?_
  refine lv_bipush cx.1.1 cx.1.2.1 (n := 6) (v := Int32.ofNat 6) (pc := 37) (by decide +kernel) (by decide) ?_
  refine n_newa (t := 20) (N := 6) (n := 153) (aty := .int) (ty := .int) (index := 0) rfl (by omega) rfl (.inl ⟨rfl, rfl⟩) cx sx (hqZ4.fz fz hm) (show WF[153]? = some (20, 6, 153) from rfl) (in_t1 (List.mem_of_getElem? (i := 124) rfl) rfl) (Nat.le_of_ble_eq_true rfl) (Nat.le_of_ble_eq_true rfl) (pc := 39) (by decide +kernel) (fun H1 sx => ?_)
  refine n_putF (t := 6) (k := 148) (j := 5) (index := 24) cx sx (by omega) (by decide) (show WF[148]? = some (6, 0, 148) from rfl) (by decide) rfl (by rw [show (fp 6 5 148).2.2 = 153 from rfl, cx.2.2.2.2.2.2.2.2.1 153 (by omega)]) rfl (in_t2 (List.mem_of_getElem? (i := 102) rfl) rfl) rfl rfl (fun _ => rfl) (fun _ => rfl) (pc := 41) (by decide +kernel) (fun H1 locs1 sx => ?_)
  rw [← eZ5] at sx
  refine n_ald cx hl (i := 0) (k3 := 0) (t := 6) (k := 148) (pc := 44) rfl rfl (by omega) (by decide +kernel) ?_
  refine lv_bipush cx.1.1 cx.1.2.1 (n := 6) (v := Int32.ofNat 6) (pc := 45) (by decide +kernel) (by decide) ?_
  refine n_newa (t := 20) (N := 6) (n := 154) (aty := .int) (ty := .int) (index := 0) rfl (by omega) rfl (.inl ⟨rfl, rfl⟩) cx sx (hqZ5.fz fz hm) (show WF[154]? = some (20, 6, 154) from rfl) (in_t1 (List.mem_of_getElem? (i := 124) rfl) rfl) (Nat.le_of_ble_eq_true rfl) (Nat.le_of_ble_eq_true rfl) (pc := 47) (by decide +kernel) (fun H1 sx => ?_)
  refine n_putF (t := 6) (k := 148) (j := 6) (index := 27) cx sx (by omega) (by decide) (show WF[148]? = some (6, 0, 148) from rfl) (by decide) rfl (by rw [show (fp 6 6 148).2.2 = 154 from rfl, cx.2.2.2.2.2.2.2.2.1 154 (by omega)]) rfl (in_t2 (List.mem_of_getElem? (i := 106) rfl) rfl) rfl rfl (fun _ => rfl) (fun _ => rfl) (pc := 49) (by decide +kernel) (fun H1 locs1 sx => ?_)
  rw [← eZ6] at sx
  refine n_ald cx hl (i := 0) (k3 := 0) (t := 6) (k := 148) (pc := 52) rfl rfl (by omega) (by decide +kernel) ?_
  refine n_ald cx hl (i := 1) (k3 := 1) (t := 9) (k := 3) (pc := 53) rfl rfl (by omega) (by decide +kernel) ?_
  refine n_putF (t := 6) (k := 148) (j := 10) (index := 30) cx sx (by omega) (by decide) (show WF[148]? = some (6, 0, 148) from rfl) (by decide) rfl (by rw [show (fp 6 10 148).2.2 = 3 from rfl, cx.2.2.2.2.2.2.2.2.1 3 (by omega)]) rfl (in_t2 (List.mem_of_getElem? (i := 116) rfl) rfl) rfl rfl (fun _ => rfl) (fun _ => rfl) (pc := 54) (by decide +kernel) (fun H1 locs1 sx => ?_)
  rw [← eZ7] at sx
  refine n_ald cx hl (i := 0) (k3 := 0) (t := 6) (k := 148) (pc := 57) rfl rfl (by omega) (by decide +kernel) ?_
  refine n_evI (x := 5) (t := 6) (k := 148) (index := 34) (as := []) (ks := (List.range 23).map (· + 3) ++ (List.range 7).map (· + 148)) rfl ev1 rfl (by decide +kernel) (by decide) rfl (by decide +kernel) (by decide +kernel) (Clo_of (by decide +kernel)) (WT_of (by decide +kernel)) (by decide +kernel)
    (fun i hi b => by
      rcases (show ∀ i ∈ (List.range 23).map (· + 3) ++ (List.range 7).map (· + 148), (3 ≤ i ∧ i ≤ 25) ∨ (148 ≤ i ∧ i < 155) from by decide +kernel) i hi with z | z
      · rw [pz.1 i b (.inl (by omega))]; exact hY i z.1 z.2 b
      · exact pz.2 i z.1 z.2 b) hfr (fun v hv => by rcases List.mem_singleton.mp hv with rfl; exact .inl (show ((6, 0, 148) : Ref3) ∈ wI ((List.range 23).map (· + 3) ++ (List.range 7).map (· + 148)) from by decide +kernel)) cx sx (by rw [hsz]) (by decide) hls (in_t2 (List.mem_of_getElem? (i := 77) rfl) rfl) (in_t2 (List.mem_of_getElem? (i := 78) rfl) rfl) (in_t2 (List.mem_of_getElem? (i := 79) rfl) rfl) rfl ⟨Nat.le_of_ble_eq_true rfl, Nat.le_of_ble_eq_true rfl⟩ ⟨Nat.le_of_ble_eq_true rfl, Nat.le_of_ble_eq_true rfl⟩ (Nat.le_of_ble_eq_true rfl) (pc := 58) (by decide +kernel) (fun H1 locs1 sx => ?_)
  exact n_ret cx sx (Nat.le_of_ble_eq_true rfl) (Nat.le_of_ble_eq_true rfl) (pc := 61) (by decide +kernel)
set_option maxRecDepth 20000 in
set_option maxHeartbeats 1000000 in
theorem c_State155 (fz : Fz 155 M Z) (hm : Mz 155 M) (hY : ∀ a, 3 ≤ a → a ≤ 25 → ∀ b, Z a b = false) : ∃ M' Z', CNt ⟨"IceParliament$State", "<init>", "(LIceParliament$Yard;)V"⟩ prog_8_method_1_code 2 3 6 36 [vR 6 0 155, vR 9 0 3] 156 M Z 162 M' Z' ∧ PZ 155 162 Z Z' ∧ SC (staS M.1) 155 M' ∧ Fr (fun c _ => 155 ≤ c ∧ c ≤ 155 + 6) M M' := by
  have hq : QZ 155 [] 156 Z Z := QZ.start
  have hqa := hq.arr fz (show WF[156]? = some (20, 6, 156) from rfl) (by decide)
  obtain ⟨Z1, eZ1⟩ : ∃ Z1, Z1 = uZ Z 155 1 := ⟨_, rfl⟩
  have hqZ1 := hqa.put eZ1
  have hqZ1a := hqZ1.arr fz (show WF[157]? = some (20, 6, 157) from rfl) (by decide)
  obtain ⟨Z2, eZ2⟩ : ∃ Z2, Z2 = uZ Z1 155 2 := ⟨_, rfl⟩
  have hqZ2 := hqZ1a.put eZ2
  have hqZ2a := hqZ2.arr fz (show WF[158]? = some (20, 6, 158) from rfl) (by decide)
  obtain ⟨Z3, eZ3⟩ : ∃ Z3, Z3 = uZ Z2 155 3 := ⟨_, rfl⟩
  have hqZ3 := hqZ2a.put eZ3
  have hqZ3a := hqZ3.arr fz (show WF[159]? = some (20, 6, 159) from rfl) (by decide)
  obtain ⟨Z4, eZ4⟩ : ∃ Z4, Z4 = uZ Z3 155 4 := ⟨_, rfl⟩
  have hqZ4 := hqZ3a.put eZ4
  have hqZ4a := hqZ4.arr fz (show WF[160]? = some (20, 6, 160) from rfl) (by decide)
  obtain ⟨Z5, eZ5⟩ : ∃ Z5, Z5 = uZ Z4 155 5 := ⟨_, rfl⟩
  have hqZ5 := hqZ4a.put eZ5
  have hqZ5a := hqZ5.arr fz (show WF[161]? = some (20, 6, 161) from rfl) (by decide)
  obtain ⟨Z6, eZ6⟩ : ∃ Z6, Z6 = uZ Z5 155 6 := ⟨_, rfl⟩
  have hqZ6 := hqZ5a.put eZ6
  obtain ⟨Z7, eZ7⟩ : ∃ Z7, Z7 = uZ Z6 155 10 := ⟨_, rfl⟩
  have hqZ7 := hqZ6.put eZ7
  obtain ⟨a1, M1, ev1, ha1, sc1, fr1⟩ := sp5 (d := 0) (Y := M.1) (M := M) (k := 155) ⟨rfl, rfl, rfl, rfl, rfl, rfl, rfl, rfl, rfl, rfl, rfl, rfl, rfl, rfl, rfl, rfl, rfl, rfl⟩ (by decide)
  subst ha1
  have pz := hqZ7.fin fz (show WF[155]? = some (6, 0, 155) from rfl) (by decide)
  have hfr : Fr (fun c _ => c ∈ (List.range 23).map (· + 3) ++ (List.range 7).map (· + 155)) M M1 := fr1.up (fun c j z => (show ∀ c, 155 ≤ c → c < 162 → c ∈ (List.range 23).map (· + 3) ++ (List.range 7).map (· + 155) from fun c h1 h2 => by rcases (show c = 155 ∨ c = 156 ∨ c = 157 ∨ c = 158 ∨ c = 159 ∨ c = 160 ∨ c = 161 by omega) with rfl | rfl | rfl | rfl | rfl | rfl | rfl <;> decide) c z.1 (by omega))
  refine ⟨M1, Z7, CNt_of (own := "IceParliament$State") (by decide) rfl rfl (Nat.le_of_ble_eq_true rfl) (fun B => Nat.le_add_right B _) ?_, hqZ7.fin fz (show WF[155]? = some (6, 0, 155) from rfl) (by decide), sc1, fr1⟩
  intro p l e s m args below meth c dC dI cA ρ B ls cx sx hsz hl
  have hls : ls.size = 2 := by obtain ⟨l0, h0, -⟩ := hl; exact h0.1
  refine n_ald cx hl (i := 0) (k3 := 0) (t := 6) (k := 155) (pc := 0) rfl rfl (by omega) (by decide +kernel) ?_
  refine n_obj (k := 155) (index := 3) cx hl (in_t2 (List.mem_of_getElem? (i := 76) rfl) rfl) (in_t1 (List.mem_of_getElem? (i := 33) rfl) rfl) (in_t1 (List.mem_of_getElem? (i := 34) rfl) rfl) ⟨Nat.le_of_ble_eq_true rfl, Nat.le_of_ble_eq_true rfl⟩ (by decide) (pc := 1) (by decide +kernel) ?_
  refine n_ald cx hl (i := 0) (k3 := 0) (t := 6) (k := 155) (pc := 4) rfl rfl (by omega) (by decide +kernel) ?_
  refine lv_bipush cx.1.1 cx.1.2.1 (n := 6) (v := Int32.ofNat 6) (pc := 5) (by decide +kernel) (by decide) ?_
  refine n_newa (t := 20) (N := 6) (n := 156) (aty := .int) (ty := .int) (index := 0) rfl (by omega) rfl (.inl ⟨rfl, rfl⟩) cx sx (hq.fz fz hm) (show WF[156]? = some (20, 6, 156) from rfl) (in_t1 (List.mem_of_getElem? (i := 124) rfl) rfl) (Nat.le_of_ble_eq_true rfl) (Nat.le_of_ble_eq_true rfl) (pc := 7) (by decide +kernel) (fun H1 sx => ?_)
  refine n_putF (t := 6) (k := 155) (j := 1) (index := 9) cx sx (by omega) (by decide) (show WF[155]? = some (6, 0, 155) from rfl) (by decide) rfl (by rw [show (fp 6 1 155).2.2 = 156 from rfl, cx.2.2.2.2.2.2.2.2.1 156 (by omega)]) rfl (in_t2 (List.mem_of_getElem? (i := 88) rfl) rfl) rfl rfl (fun _ => rfl) (fun _ => rfl) (pc := 9) (by decide +kernel) (fun H1 locs1 sx => ?_)
  rw [← eZ1] at sx
  refine n_ald cx hl (i := 0) (k3 := 0) (t := 6) (k := 155) (pc := 12) rfl rfl (by omega) (by decide +kernel) ?_
  refine lv_bipush cx.1.1 cx.1.2.1 (n := 6) (v := Int32.ofNat 6) (pc := 13) (by decide +kernel) (by decide) ?_
  refine n_newa (t := 20) (N := 6) (n := 157) (aty := .int) (ty := .int) (index := 0) rfl (by omega) rfl (.inl ⟨rfl, rfl⟩) cx sx (hqZ1.fz fz hm) (show WF[157]? = some (20, 6, 157) from rfl) (in_t1 (List.mem_of_getElem? (i := 124) rfl) rfl) (Nat.le_of_ble_eq_true rfl) (Nat.le_of_ble_eq_true rfl) (pc := 15) (by decide +kernel) (fun H1 sx => ?_)
  refine n_putF (t := 6) (k := 155) (j := 2) (index := 15) cx sx (by omega) (by decide) (show WF[155]? = some (6, 0, 155) from rfl) (by decide) rfl (by rw [show (fp 6 2 155).2.2 = 157 from rfl, cx.2.2.2.2.2.2.2.2.1 157 (by omega)]) rfl (in_t2 (List.mem_of_getElem? (i := 92) rfl) rfl) rfl rfl (fun _ => rfl) (fun _ => rfl) (pc := 17) (by decide +kernel) (fun H1 locs1 sx => ?_)
  rw [← eZ2] at sx
  refine n_ald cx hl (i := 0) (k3 := 0) (t := 6) (k := 155) (pc := 20) rfl rfl (by omega) (by decide +kernel) ?_
  refine lv_bipush cx.1.1 cx.1.2.1 (n := 6) (v := Int32.ofNat 6) (pc := 21) (by decide +kernel) (by decide) ?_
  refine n_newa (t := 20) (N := 6) (n := 158) (aty := .int) (ty := .int) (index := 0) rfl (by omega) rfl (.inl ⟨rfl, rfl⟩) cx sx (hqZ2.fz fz hm) (show WF[158]? = some (20, 6, 158) from rfl) (in_t1 (List.mem_of_getElem? (i := 124) rfl) rfl) (Nat.le_of_ble_eq_true rfl) (Nat.le_of_ble_eq_true rfl) (pc := 23) (by decide +kernel) (fun H1 sx => ?_)
  refine n_putF (t := 6) (k := 155) (j := 3) (index := 18) cx sx (by omega) (by decide) (show WF[155]? = some (6, 0, 155) from rfl) (by decide) rfl (by rw [show (fp 6 3 155).2.2 = 158 from rfl, cx.2.2.2.2.2.2.2.2.1 158 (by omega)]) rfl (in_t2 (List.mem_of_getElem? (i := 95) rfl) rfl) rfl rfl (fun _ => rfl) (fun _ => rfl) (pc := 25) (by decide +kernel) (fun H1 locs1 sx => ?_)
  rw [← eZ3] at sx
  refine n_ald cx hl (i := 0) (k3 := 0) (t := 6) (k := 155) (pc := 28) rfl rfl (by omega) (by decide +kernel) ?_
  refine lv_bipush cx.1.1 cx.1.2.1 (n := 6) (v := Int32.ofNat 6) (pc := 29) (by decide +kernel) (by decide) ?_
  refine n_newa (t := 20) (N := 6) (n := 159) (aty := .int) (ty := .int) (index := 0) rfl (by omega) rfl (.inl ⟨rfl, rfl⟩) cx sx (hqZ3.fz fz hm) (show WF[159]? = some (20, 6, 159) from rfl) (in_t1 (List.mem_of_getElem? (i := 124) rfl) rfl) (Nat.le_of_ble_eq_true rfl) (Nat.le_of_ble_eq_true rfl) (pc := 31) (by decide +kernel) (fun H1 sx => ?_)
  refine n_putF (t := 6) (k := 155) (j := 4) (index := 21) cx sx (by omega) (by decide) (show WF[155]? = some (6, 0, 155) from rfl) (by decide) rfl (by rw [show (fp 6 4 155).2.2 = 159 from rfl, cx.2.2.2.2.2.2.2.2.1 159 (by omega)]) rfl (in_t2 (List.mem_of_getElem? (i := 99) rfl) rfl) rfl rfl (fun _ => rfl) (fun _ => rfl) (pc := 33) (by decide +kernel) (fun H1 locs1 sx => ?_)
  rw [← eZ4] at sx
  refine n_ald cx hl (i := 0) (k3 := 0) (t := 6) (k := 155) (pc := 36) rfl rfl (by omega) (by decide +kernel) ?_
  refine lv_bipush cx.1.1 cx.1.2.1 (n := 6) (v := Int32.ofNat 6) (pc := 37) (by decide +kernel) (by decide) ?_
  refine n_newa (t := 20) (N := 6) (n := 160) (aty := .int) (ty := .int) (index := 0) rfl (by omega) rfl (.inl ⟨rfl, rfl⟩) cx sx (hqZ4.fz fz hm) (show WF[160]? = some (20, 6, 160) from rfl) (in_t1 (List.mem_of_getElem? (i := 124) rfl) rfl) (Nat.le_of_ble_eq_true rfl) (Nat.le_of_ble_eq_true rfl) (pc := 39) (by decide +kernel) (fun H1 sx => ?_)
  refine n_putF (t := 6) (k := 155) (j := 5) (index := 24) cx sx (by omega) (by decide) (show WF[155]? = some (6, 0, 155) from rfl) (by decide) rfl (by rw [show (fp 6 5 155).2.2 = 160 from rfl, cx.2.2.2.2.2.2.2.2.1 160 (by omega)]) rfl (in_t2 (List.mem_of_getElem? (i := 102) rfl) rfl) rfl rfl (fun _ => rfl) (fun _ => rfl) (pc := 41) (by decide +kernel) (fun H1 locs1 sx => ?_)
  rw [← eZ5] at sx
  refine n_ald cx hl (i := 0) (k3 := 0) (t := 6) (k := 155) (pc := 44) rfl rfl (by omega) (by decide +kernel) ?_
  refine lv_bipush cx.1.1 cx.1.2.1 (n := 6) (v := Int32.ofNat 6) (pc := 45) (by decide +kernel) (by decide) ?_
  refine n_newa (t := 20) (N := 6) (n := 161) (aty := .int) (ty := .int) (index := 0) rfl (by omega) rfl (.inl ⟨rfl, rfl⟩) cx sx (hqZ5.fz fz hm) (show WF[161]? = some (20, 6, 161) from rfl) (in_t1 (List.mem_of_getElem? (i := 124) rfl) rfl) (Nat.le_of_ble_eq_true rfl) (Nat.le_of_ble_eq_true rfl) (pc := 47) (by decide +kernel) (fun H1 sx => ?_)
  refine n_putF (t := 6) (k := 155) (j := 6) (index := 27) cx sx (by omega) (by decide) (show WF[155]? = some (6, 0, 155) from rfl) (by decide) rfl (by rw [show (fp 6 6 155).2.2 = 161 from rfl, cx.2.2.2.2.2.2.2.2.1 161 (by omega)]) rfl (in_t2 (List.mem_of_getElem? (i := 106) rfl) rfl) rfl rfl (fun _ => rfl) (fun _ => rfl) (pc := 49) (by decide +kernel) (fun H1 locs1 sx => ?_)
  rw [← eZ6] at sx
  refine n_ald cx hl (i := 0) (k3 := 0) (t := 6) (k := 155) (pc := 52) rfl rfl (by omega) (by decide +kernel) ?_
  refine n_ald cx hl (i := 1) (k3 := 1) (t := 9) (k := 3) (pc := 53) rfl rfl (by omega) (by decide +kernel) ?_
  refine n_putF (t := 6) (k := 155) (j := 10) (index := 30) cx sx (by omega) (by decide) (show WF[155]? = some (6, 0, 155) from rfl) (by decide) rfl (by rw [show (fp 6 10 155).2.2 = 3 from rfl, cx.2.2.2.2.2.2.2.2.1 3 (by omega)]) rfl (in_t2 (List.mem_of_getElem? (i := 116) rfl) rfl) rfl rfl (fun _ => rfl) (fun _ => rfl) (pc := 54) (by decide +kernel) (fun H1 locs1 sx => ?_)
  rw [← eZ7] at sx
  refine n_ald cx hl (i := 0) (k3 := 0) (t := 6) (k := 155) (pc := 57) rfl rfl (by omega) (by decide +kernel) ?_
  refine n_evI (x := 5) (t := 6) (k := 155) (index := 34) (as := []) (ks := (List.range 23).map (· + 3) ++ (List.range 7).map (· + 155)) rfl ev1 rfl (by decide +kernel) (by decide) rfl (by decide +kernel) (by decide +kernel) (Clo_of (by decide +kernel)) (WT_of (by decide +kernel)) (by decide +kernel)
    (fun i hi b => by
      rcases (show ∀ i ∈ (List.range 23).map (· + 3) ++ (List.range 7).map (· + 155), (3 ≤ i ∧ i ≤ 25) ∨ (155 ≤ i ∧ i < 162) from by decide +kernel) i hi with z | z
      · rw [pz.1 i b (.inl (by omega))]; exact hY i z.1 z.2 b
      · exact pz.2 i z.1 z.2 b) hfr (fun v hv => by rcases List.mem_singleton.mp hv with rfl; exact .inl (show ((6, 0, 155) : Ref3) ∈ wI ((List.range 23).map (· + 3) ++ (List.range 7).map (· + 155)) from by decide +kernel)) cx sx (by rw [hsz]) (by decide) hls (in_t2 (List.mem_of_getElem? (i := 77) rfl) rfl) (in_t2 (List.mem_of_getElem? (i := 78) rfl) rfl) (in_t2 (List.mem_of_getElem? (i := 79) rfl) rfl) rfl ⟨Nat.le_of_ble_eq_true rfl, Nat.le_of_ble_eq_true rfl⟩ ⟨Nat.le_of_ble_eq_true rfl, Nat.le_of_ble_eq_true rfl⟩ (Nat.le_of_ble_eq_true rfl) (pc := 58) (by decide +kernel) (fun H1 locs1 sx => ?_)
  exact n_ret cx sx (Nat.le_of_ble_eq_true rfl) (Nat.le_of_ble_eq_true rfl) (pc := 61) (by decide +kernel)
set_option maxRecDepth 20000 in
set_option maxHeartbeats 1000000 in
theorem c_State162 (fz : Fz 162 M Z) (hm : Mz 162 M) (hY : ∀ a, 3 ≤ a → a ≤ 25 → ∀ b, Z a b = false) : ∃ M' Z', CNt ⟨"IceParliament$State", "<init>", "(LIceParliament$Yard;)V"⟩ prog_8_method_1_code 2 3 6 36 [vR 6 0 162, vR 9 0 3] 163 M Z 169 M' Z' ∧ PZ 162 169 Z Z' ∧ SC (staS M.1) 162 M' ∧ Fr (fun c _ => 162 ≤ c ∧ c ≤ 162 + 6) M M' := by
  have hq : QZ 162 [] 163 Z Z := QZ.start
  have hqa := hq.arr fz (show WF[163]? = some (20, 6, 163) from rfl) (by decide)
  obtain ⟨Z1, eZ1⟩ : ∃ Z1, Z1 = uZ Z 162 1 := ⟨_, rfl⟩
  have hqZ1 := hqa.put eZ1
  have hqZ1a := hqZ1.arr fz (show WF[164]? = some (20, 6, 164) from rfl) (by decide)
  obtain ⟨Z2, eZ2⟩ : ∃ Z2, Z2 = uZ Z1 162 2 := ⟨_, rfl⟩
  have hqZ2 := hqZ1a.put eZ2
  have hqZ2a := hqZ2.arr fz (show WF[165]? = some (20, 6, 165) from rfl) (by decide)
  obtain ⟨Z3, eZ3⟩ : ∃ Z3, Z3 = uZ Z2 162 3 := ⟨_, rfl⟩
  have hqZ3 := hqZ2a.put eZ3
  have hqZ3a := hqZ3.arr fz (show WF[166]? = some (20, 6, 166) from rfl) (by decide)
  obtain ⟨Z4, eZ4⟩ : ∃ Z4, Z4 = uZ Z3 162 4 := ⟨_, rfl⟩
  have hqZ4 := hqZ3a.put eZ4
  have hqZ4a := hqZ4.arr fz (show WF[167]? = some (20, 6, 167) from rfl) (by decide)
  obtain ⟨Z5, eZ5⟩ : ∃ Z5, Z5 = uZ Z4 162 5 := ⟨_, rfl⟩
  have hqZ5 := hqZ4a.put eZ5
  have hqZ5a := hqZ5.arr fz (show WF[168]? = some (20, 6, 168) from rfl) (by decide)
  obtain ⟨Z6, eZ6⟩ : ∃ Z6, Z6 = uZ Z5 162 6 := ⟨_, rfl⟩
  have hqZ6 := hqZ5a.put eZ6
  obtain ⟨Z7, eZ7⟩ : ∃ Z7, Z7 = uZ Z6 162 10 := ⟨_, rfl⟩
  have hqZ7 := hqZ6.put eZ7
  obtain ⟨a1, M1, ev1, ha1, sc1, fr1⟩ := sp5 (d := 0) (Y := M.1) (M := M) (k := 162) ⟨rfl, rfl, rfl, rfl, rfl, rfl, rfl, rfl, rfl, rfl, rfl, rfl, rfl, rfl, rfl, rfl, rfl, rfl⟩ (by decide)
  subst ha1
  have pz := hqZ7.fin fz (show WF[162]? = some (6, 0, 162) from rfl) (by decide)
  have hfr : Fr (fun c _ => c ∈ (List.range 23).map (· + 3) ++ (List.range 7).map (· + 162)) M M1 := fr1.up (fun c j z => (show ∀ c, 162 ≤ c → c < 169 → c ∈ (List.range 23).map (· + 3) ++ (List.range 7).map (· + 162) from fun c h1 h2 => by rcases (show c = 162 ∨ c = 163 ∨ c = 164 ∨ c = 165 ∨ c = 166 ∨ c = 167 ∨ c = 168 by omega) with rfl | rfl | rfl | rfl | rfl | rfl | rfl <;> decide) c z.1 (by omega))
  refine ⟨M1, Z7, CNt_of (own := "IceParliament$State") (by decide) rfl rfl (Nat.le_of_ble_eq_true rfl) (fun B => Nat.le_add_right B _) ?_, hqZ7.fin fz (show WF[162]? = some (6, 0, 162) from rfl) (by decide), sc1, fr1⟩
  intro p l e s m args below meth c dC dI cA ρ B ls cx sx hsz hl
  have hls : ls.size = 2 := by obtain ⟨l0, h0, -⟩ := hl; exact h0.1
  refine n_ald cx hl (i := 0) (k3 := 0) (t := 6) (k := 162) (pc := 0) rfl rfl (by omega) (by decide +kernel) ?_
  refine n_obj (k := 162) (index := 3) cx hl (in_t2 (List.mem_of_getElem? (i := 76) rfl) rfl) (in_t1 (List.mem_of_getElem? (i := 33) rfl) rfl) (in_t1 (List.mem_of_getElem? (i := 34) rfl) rfl) ⟨Nat.le_of_ble_eq_true rfl, Nat.le_of_ble_eq_true rfl⟩ (by decide) (pc := 1) (by decide +kernel) ?_
  refine n_ald cx hl (i := 0) (k3 := 0) (t := 6) (k := 162) (pc := 4) rfl rfl (by omega) (by decide +kernel) ?_
  refine lv_bipush cx.1.1 cx.1.2.1 (n := 6) (v := Int32.ofNat 6) (pc := 5) (by decide +kernel) (by decide) ?_
  refine n_newa (t := 20) (N := 6) (n := 163) (aty := .int) (ty := .int) (index := 0) rfl (by omega) rfl (.inl ⟨rfl, rfl⟩) cx sx (hq.fz fz hm) (show WF[163]? = some (20, 6, 163) from rfl) (in_t1 (List.mem_of_getElem? (i := 124) rfl) rfl) (Nat.le_of_ble_eq_true rfl) (Nat.le_of_ble_eq_true rfl) (pc := 7) (by decide +kernel) (fun H1 sx => ?_)
  refine n_putF (t := 6) (k := 162) (j := 1) (index := 9) cx sx (by omega) (by decide) (show WF[162]? = some (6, 0, 162) from rfl) (by decide) rfl (by rw [show (fp 6 1 162).2.2 = 163 from rfl, cx.2.2.2.2.2.2.2.2.1 163 (by omega)]) rfl (in_t2 (List.mem_of_getElem? (i := 88) rfl) rfl) rfl rfl (fun _ => rfl) (fun _ => rfl) (pc := 9) (by decide +kernel) (fun H1 locs1 sx => ?_)
  rw [← eZ1] at sx
  refine n_ald cx hl (i := 0) (k3 := 0) (t := 6) (k := 162) (pc := 12) rfl rfl (by omega) (by decide +kernel) ?_
  refine lv_bipush cx.1.1 cx.1.2.1 (n := 6) (v := Int32.ofNat 6) (pc := 13) (by decide +kernel) (by decide) ?_
  refine n_newa (t := 20) (N := 6) (n := 164) (aty := .int) (ty := .int) (index := 0) rfl (by omega) rfl (.inl ⟨rfl, rfl⟩) cx sx (hqZ1.fz fz hm) (show WF[164]? = some (20, 6, 164) from rfl) (in_t1 (List.mem_of_getElem? (i := 124) rfl) rfl) (Nat.le_of_ble_eq_true rfl) (Nat.le_of_ble_eq_true rfl) (pc := 15) (by decide +kernel) (fun H1 sx => ?_)
  refine n_putF (t := 6) (k := 162) (j := 2) (index := 15) cx sx (by omega) (by decide) (show WF[162]? = some (6, 0, 162) from rfl) (by decide) rfl (by rw [show (fp 6 2 162).2.2 = 164 from rfl, cx.2.2.2.2.2.2.2.2.1 164 (by omega)]) rfl (in_t2 (List.mem_of_getElem? (i := 92) rfl) rfl) rfl rfl (fun _ => rfl) (fun _ => rfl) (pc := 17) (by decide +kernel) (fun H1 locs1 sx => ?_)
  rw [← eZ2] at sx
  refine n_ald cx hl (i := 0) (k3 := 0) (t := 6) (k := 162) (pc := 20) rfl rfl (by omega) (by decide +kernel) ?_
  refine lv_bipush cx.1.1 cx.1.2.1 (n := 6) (v := Int32.ofNat 6) (pc := 21) (by decide +kernel) (by decide) ?_
  refine n_newa (t := 20) (N := 6) (n := 165) (aty := .int) (ty := .int) (index := 0) rfl (by omega) rfl (.inl ⟨rfl, rfl⟩) cx sx (hqZ2.fz fz hm) (show WF[165]? = some (20, 6, 165) from rfl) (in_t1 (List.mem_of_getElem? (i := 124) rfl) rfl) (Nat.le_of_ble_eq_true rfl) (Nat.le_of_ble_eq_true rfl) (pc := 23) (by decide +kernel) (fun H1 sx => ?_)
  refine n_putF (t := 6) (k := 162) (j := 3) (index := 18) cx sx (by omega) (by decide) (show WF[162]? = some (6, 0, 162) from rfl) (by decide) rfl (by rw [show (fp 6 3 162).2.2 = 165 from rfl, cx.2.2.2.2.2.2.2.2.1 165 (by omega)]) rfl (in_t2 (List.mem_of_getElem? (i := 95) rfl) rfl) rfl rfl (fun _ => rfl) (fun _ => rfl) (pc := 25) (by decide +kernel) (fun H1 locs1 sx => ?_)
  rw [← eZ3] at sx
  refine n_ald cx hl (i := 0) (k3 := 0) (t := 6) (k := 162) (pc := 28) rfl rfl (by omega) (by decide +kernel) ?_
  refine lv_bipush cx.1.1 cx.1.2.1 (n := 6) (v := Int32.ofNat 6) (pc := 29) (by decide +kernel) (by decide) ?_
  refine n_newa (t := 20) (N := 6) (n := 166) (aty := .int) (ty := .int) (index := 0) rfl (by omega) rfl (.inl ⟨rfl, rfl⟩) cx sx (hqZ3.fz fz hm) (show WF[166]? = some (20, 6, 166) from rfl) (in_t1 (List.mem_of_getElem? (i := 124) rfl) rfl) (Nat.le_of_ble_eq_true rfl) (Nat.le_of_ble_eq_true rfl) (pc := 31) (by decide +kernel) (fun H1 sx => ?_)
  refine n_putF (t := 6) (k := 162) (j := 4) (index := 21) cx sx (by omega) (by decide) (show WF[162]? = some (6, 0, 162) from rfl) (by decide) rfl (by rw [show (fp 6 4 162).2.2 = 166 from rfl, cx.2.2.2.2.2.2.2.2.1 166 (by omega)]) rfl (in_t2 (List.mem_of_getElem? (i := 99) rfl) rfl) rfl rfl (fun _ => rfl) (fun _ => rfl) (pc := 33) (by decide +kernel) (fun H1 locs1 sx => ?_)
  rw [← eZ4] at sx
  refine n_ald cx hl (i := 0) (k3 := 0) (t := 6) (k := 162) (pc := 36) rfl rfl (by omega) (by decide +kernel) ?_
  refine lv_bipush cx.1.1 cx.1.2.1 (n := 6) (v := Int32.ofNat 6) (pc := 37) (by decide +kernel) (by decide) ?_
  refine n_newa (t := 20) (N := 6) (n := 167) (aty := .int) (ty := .int) (index := 0) rfl (by omega) rfl (.inl ⟨rfl, rfl⟩) cx sx (hqZ4.fz fz hm) (show WF[167]? = some (20, 6, 167) from rfl) (in_t1 (List.mem_of_getElem? (i := 124) rfl) rfl) (Nat.le_of_ble_eq_true rfl) (Nat.le_of_ble_eq_true rfl) (pc := 39) (by decide +kernel) (fun H1 sx => ?_)
  refine n_putF (t := 6) (k := 162) (j := 5) (index := 24) cx sx (by omega) (by decide) (show WF[162]? = some (6, 0, 162) from rfl) (by decide) rfl (by rw [show (fp 6 5 162).2.2 = 167 from rfl, cx.2.2.2.2.2.2.2.2.1 167 (by omega)]) rfl (in_t2 (List.mem_of_getElem? (i := 102) rfl) rfl) rfl rfl (fun _ => rfl) (fun _ => rfl) (pc := 41) (by decide +kernel) (fun H1 locs1 sx => ?_)
  rw [← eZ5] at sx
  refine n_ald cx hl (i := 0) (k3 := 0) (t := 6) (k := 162) (pc := 44) rfl rfl (by omega) (by decide +kernel) ?_
  refine lv_bipush cx.1.1 cx.1.2.1 (n := 6) (v := Int32.ofNat 6) (pc := 45) (by decide +kernel) (by decide) ?_
  refine n_newa (t := 20) (N := 6) (n := 168) (aty := .int) (ty := .int) (index := 0) rfl (by omega) rfl (.inl ⟨rfl, rfl⟩) cx sx (hqZ5.fz fz hm) (show WF[168]? = some (20, 6, 168) from rfl) (in_t1 (List.mem_of_getElem? (i := 124) rfl) rfl) (Nat.le_of_ble_eq_true rfl) (Nat.le_of_ble_eq_true rfl) (pc := 47) (by decide +kernel) (fun H1 sx => ?_)
  refine n_putF (t := 6) (k := 162) (j := 6) (index := 27) cx sx (by omega) (by decide) (show WF[162]? = some (6, 0, 162) from rfl) (by decide) rfl (by rw [show (fp 6 6 162).2.2 = 168 from rfl, cx.2.2.2.2.2.2.2.2.1 168 (by omega)]) rfl (in_t2 (List.mem_of_getElem? (i := 106) rfl) rfl) rfl rfl (fun _ => rfl) (fun _ => rfl) (pc := 49) (by decide +kernel) (fun H1 locs1 sx => ?_)
  rw [← eZ6] at sx
  refine n_ald cx hl (i := 0) (k3 := 0) (t := 6) (k := 162) (pc := 52) rfl rfl (by omega) (by decide +kernel) ?_
  refine n_ald cx hl (i := 1) (k3 := 1) (t := 9) (k := 3) (pc := 53) rfl rfl (by omega) (by decide +kernel) ?_
  refine n_putF (t := 6) (k := 162) (j := 10) (index := 30) cx sx (by omega) (by decide) (show WF[162]? = some (6, 0, 162) from rfl) (by decide) rfl (by rw [show (fp 6 10 162).2.2 = 3 from rfl, cx.2.2.2.2.2.2.2.2.1 3 (by omega)]) rfl (in_t2 (List.mem_of_getElem? (i := 116) rfl) rfl) rfl rfl (fun _ => rfl) (fun _ => rfl) (pc := 54) (by decide +kernel) (fun H1 locs1 sx => ?_)
  rw [← eZ7] at sx
  refine n_ald cx hl (i := 0) (k3 := 0) (t := 6) (k := 162) (pc := 57) rfl rfl (by omega) (by decide +kernel) ?_
  refine n_evI (x := 5) (t := 6) (k := 162) (index := 34) (as := []) (ks := (List.range 23).map (· + 3) ++ (List.range 7).map (· + 162)) rfl ev1 rfl (by decide +kernel) (by decide) rfl (by decide +kernel) (by decide +kernel) (Clo_of (by decide +kernel)) (WT_of (by decide +kernel)) (by decide +kernel)
    (fun i hi b => by
      rcases (show ∀ i ∈ (List.range 23).map (· + 3) ++ (List.range 7).map (· + 162), (3 ≤ i ∧ i ≤ 25) ∨ (162 ≤ i ∧ i < 169) from by decide +kernel) i hi with z | z
      · rw [pz.1 i b (.inl (by omega))]; exact hY i z.1 z.2 b
      · exact pz.2 i z.1 z.2 b) hfr (fun v hv => by rcases List.mem_singleton.mp hv with rfl; exact .inl (show ((6, 0, 162) : Ref3) ∈ wI ((List.range 23).map (· + 3) ++ (List.range 7).map (· + 162)) from by decide +kernel)) cx sx (by rw [hsz]) (by decide) hls (in_t2 (List.mem_of_getElem? (i := 77) rfl) rfl) (in_t2 (List.mem_of_getElem? (i := 78) rfl) rfl) (in_t2 (List.mem_of_getElem? (i := 79) rfl) rfl) rfl ⟨Nat.le_of_ble_eq_true rfl, Nat.le_of_ble_eq_true rfl⟩ ⟨Nat.le_of_ble_eq_true rfl, Nat.le_of_ble_eq_true rfl⟩ (Nat.le_of_ble_eq_true rfl) (pc := 58) (by decide +kernel) (fun H1 locs1 sx => ?_)
  exact n_ret cx sx (Nat.le_of_ble_eq_true rfl) (Nat.le_of_ble_eq_true rfl) (pc := 61) (by decide +kernel)
set_option maxRecDepth 20000 in
set_option maxHeartbeats 1000000 in
theorem c_State169 (fz : Fz 169 M Z) (hm : Mz 169 M) (hY : ∀ a, 3 ≤ a → a ≤ 25 → ∀ b, Z a b = false) : ∃ M' Z', CNt ⟨"IceParliament$State", "<init>", "(LIceParliament$Yard;)V"⟩ prog_8_method_1_code 2 3 6 36 [vR 6 0 169, vR 9 0 3] 170 M Z 176 M' Z' ∧ PZ 169 176 Z Z' ∧ SC (staS M.1) 169 M' ∧ Fr (fun c _ => 169 ≤ c ∧ c ≤ 169 + 6) M M' := by
  have hq : QZ 169 [] 170 Z Z := QZ.start
  have hqa := hq.arr fz (show WF[170]? = some (20, 6, 170) from rfl) (by decide)
  obtain ⟨Z1, eZ1⟩ : ∃ Z1, Z1 = uZ Z 169 1 := ⟨_, rfl⟩
  have hqZ1 := hqa.put eZ1
  have hqZ1a := hqZ1.arr fz (show WF[171]? = some (20, 6, 171) from rfl) (by decide)
  obtain ⟨Z2, eZ2⟩ : ∃ Z2, Z2 = uZ Z1 169 2 := ⟨_, rfl⟩
  have hqZ2 := hqZ1a.put eZ2
  have hqZ2a := hqZ2.arr fz (show WF[172]? = some (20, 6, 172) from rfl) (by decide)
  obtain ⟨Z3, eZ3⟩ : ∃ Z3, Z3 = uZ Z2 169 3 := ⟨_, rfl⟩
  have hqZ3 := hqZ2a.put eZ3
  have hqZ3a := hqZ3.arr fz (show WF[173]? = some (20, 6, 173) from rfl) (by decide)
  obtain ⟨Z4, eZ4⟩ : ∃ Z4, Z4 = uZ Z3 169 4 := ⟨_, rfl⟩
  have hqZ4 := hqZ3a.put eZ4
  have hqZ4a := hqZ4.arr fz (show WF[174]? = some (20, 6, 174) from rfl) (by decide)
  obtain ⟨Z5, eZ5⟩ : ∃ Z5, Z5 = uZ Z4 169 5 := ⟨_, rfl⟩
  have hqZ5 := hqZ4a.put eZ5
  have hqZ5a := hqZ5.arr fz (show WF[175]? = some (20, 6, 175) from rfl) (by decide)
  obtain ⟨Z6, eZ6⟩ : ∃ Z6, Z6 = uZ Z5 169 6 := ⟨_, rfl⟩
  have hqZ6 := hqZ5a.put eZ6
  obtain ⟨Z7, eZ7⟩ : ∃ Z7, Z7 = uZ Z6 169 10 := ⟨_, rfl⟩
  have hqZ7 := hqZ6.put eZ7
  obtain ⟨a1, M1, ev1, ha1, sc1, fr1⟩ := sp5 (d := 0) (Y := M.1) (M := M) (k := 169) ⟨rfl, rfl, rfl, rfl, rfl, rfl, rfl, rfl, rfl, rfl, rfl, rfl, rfl, rfl, rfl, rfl, rfl, rfl⟩ (by decide)
  subst ha1
  have pz := hqZ7.fin fz (show WF[169]? = some (6, 0, 169) from rfl) (by decide)
  have hfr : Fr (fun c _ => c ∈ (List.range 23).map (· + 3) ++ (List.range 7).map (· + 169)) M M1 := fr1.up (fun c j z => (show ∀ c, 169 ≤ c → c < 176 → c ∈ (List.range 23).map (· + 3) ++ (List.range 7).map (· + 169) from fun c h1 h2 => by rcases (show c = 169 ∨ c = 170 ∨ c = 171 ∨ c = 172 ∨ c = 173 ∨ c = 174 ∨ c = 175 by omega) with rfl | rfl | rfl | rfl | rfl | rfl | rfl <;> decide) c z.1 (by omega))
  refine ⟨M1, Z7, CNt_of (own := "IceParliament$State") (by decide) rfl rfl (Nat.le_of_ble_eq_true rfl) (fun B => Nat.le_add_right B _) ?_, hqZ7.fin fz (show WF[169]? = some (6, 0, 169) from rfl) (by decide), sc1, fr1⟩
  intro p l e s m args below meth c dC dI cA ρ B ls cx sx hsz hl
  have hls : ls.size = 2 := by obtain ⟨l0, h0, -⟩ := hl; exact h0.1
  refine n_ald cx hl (i := 0) (k3 := 0) (t := 6) (k := 169) (pc := 0) rfl rfl (by omega) (by decide +kernel) ?_
  refine n_obj (k := 169) (index := 3) cx hl (in_t2 (List.mem_of_getElem? (i := 76) rfl) rfl) (in_t1 (List.mem_of_getElem? (i := 33) rfl) rfl) (in_t1 (List.mem_of_getElem? (i := 34) rfl) rfl) ⟨Nat.le_of_ble_eq_true rfl, Nat.le_of_ble_eq_true rfl⟩ (by decide) (pc := 1) (by decide +kernel) ?_
  refine n_ald cx hl (i := 0) (k3 := 0) (t := 6) (k := 169) (pc := 4) rfl rfl (by omega) (by decide +kernel) ?_
  refine lv_bipush cx.1.1 cx.1.2.1 (n := 6) (v := Int32.ofNat 6) (pc := 5) (by decide +kernel) (by decide) ?_
  refine n_newa (t := 20) (N := 6) (n := 170) (aty := .int) (ty := .int) (index := 0) rfl (by omega) rfl (.inl ⟨rfl, rfl⟩) cx sx (hq.fz fz hm) (show WF[170]? = some (20, 6, 170) from rfl) (in_t1 (List.mem_of_getElem? (i := 124) rfl) rfl) (Nat.le_of_ble_eq_true rfl) (Nat.le_of_ble_eq_true rfl) (pc := 7) (by decide +kernel) (fun H1 sx => ?_)
  refine n_putF (t := 6) (k := 169) (j := 1) (index := 9) cx sx (by omega) (by decide) (show WF[169]? = some (6, 0, 169) from rfl) (by decide) rfl (by rw [show (fp 6 1 169).2.2 = 170 from rfl, cx.2.2.2.2.2.2.2.2.1 170 (by omega)]) rfl (in_t2 (List.mem_of_getElem? (i := 88) rfl) rfl) rfl rfl (fun _ => rfl) (fun _ => rfl) (pc := 9) (by decide +kernel) (fun H1 locs1 sx => ?_)
  rw [← eZ1] at sx
  refine n_ald cx hl (i := 0) (k3 := 0) (t := 6) (k := 169) (pc := 12) rfl rfl (by omega) (by decide +kernel) ?_
  refine lv_bipush cx.1.1 cx.1.2.1 (n := 6) (v := Int32.ofNat 6) (pc := 13) (by decide +kernel) (by decide) ?_
  refine n_newa (t := 20) (N := 6) (n := 171) (aty := .int) (ty := .int) (index := 0) rfl (by omega) rfl (.inl ⟨rfl, rfl⟩) cx sx (hqZ1.fz fz hm) (show WF[171]? = some (20, 6, 171) from rfl) (in_t1 (List.mem_of_getElem? (i := 124) rfl) rfl) (Nat.le_of_ble_eq_true rfl) (Nat.le_of_ble_eq_true rfl) (pc := 15) (by decide +kernel) (fun H1 sx => ?_)
  refine n_putF (t := 6) (k := 169) (j := 2) (index := 15) cx sx (by omega) (by decide) (show WF[169]? = some (6, 0, 169) from rfl) (by decide) rfl (by rw [show (fp 6 2 169).2.2 = 171 from rfl, cx.2.2.2.2.2.2.2.2.1 171 (by omega)]) rfl (in_t2 (List.mem_of_getElem? (i := 92) rfl) rfl) rfl rfl (fun _ => rfl) (fun _ => rfl) (pc := 17) (by decide +kernel) (fun H1 locs1 sx => ?_)
  rw [← eZ2] at sx
  refine n_ald cx hl (i := 0) (k3 := 0) (t := 6) (k := 169) (pc := 20) rfl rfl (by omega) (by decide +kernel) ?_
  refine lv_bipush cx.1.1 cx.1.2.1 (n := 6) (v := Int32.ofNat 6) (pc := 21) (by decide +kernel) (by decide) ?_
  refine n_newa (t := 20) (N := 6) (n := 172) (aty := .int) (ty := .int) (index := 0) rfl (by omega) rfl (.inl ⟨rfl, rfl⟩) cx sx (hqZ2.fz fz hm) (show WF[172]? = some (20, 6, 172) from rfl) (in_t1 (List.mem_of_getElem? (i := 124) rfl) rfl) (Nat.le_of_ble_eq_true rfl) (Nat.le_of_ble_eq_true rfl) (pc := 23) (by decide +kernel) (fun H1 sx => ?_)
  refine n_putF (t := 6) (k := 169) (j := 3) (index := 18) cx sx (by omega) (by decide) (show WF[169]? = some (6, 0, 169) from rfl) (by decide) rfl (by rw [show (fp 6 3 169).2.2 = 172 from rfl, cx.2.2.2.2.2.2.2.2.1 172 (by omega)]) rfl (in_t2 (List.mem_of_getElem? (i := 95) rfl) rfl) rfl rfl (fun _ => rfl) (fun _ => rfl) (pc := 25) (by decide +kernel) (fun H1 locs1 sx => ?_)
  rw [← eZ3] at sx
  refine n_ald cx hl (i := 0) (k3 := 0) (t := 6) (k := 169) (pc := 28) rfl rfl (by omega) (by decide +kernel) ?_
  refine lv_bipush cx.1.1 cx.1.2.1 (n := 6) (v := Int32.ofNat 6) (pc := 29) (by decide +kernel) (by decide) ?_
  refine n_newa (t := 20) (N := 6) (n := 173) (aty := .int) (ty := .int) (index := 0) rfl (by omega) rfl (.inl ⟨rfl, rfl⟩) cx sx (hqZ3.fz fz hm) (show WF[173]? = some (20, 6, 173) from rfl) (in_t1 (List.mem_of_getElem? (i := 124) rfl) rfl) (Nat.le_of_ble_eq_true rfl) (Nat.le_of_ble_eq_true rfl) (pc := 31) (by decide +kernel) (fun H1 sx => ?_)
  refine n_putF (t := 6) (k := 169) (j := 4) (index := 21) cx sx (by omega) (by decide) (show WF[169]? = some (6, 0, 169) from rfl) (by decide) rfl (by rw [show (fp 6 4 169).2.2 = 173 from rfl, cx.2.2.2.2.2.2.2.2.1 173 (by omega)]) rfl (in_t2 (List.mem_of_getElem? (i := 99) rfl) rfl) rfl rfl (fun _ => rfl) (fun _ => rfl) (pc := 33) (by decide +kernel) (fun H1 locs1 sx => ?_)
  rw [← eZ4] at sx
  refine n_ald cx hl (i := 0) (k3 := 0) (t := 6) (k := 169) (pc := 36) rfl rfl (by omega) (by decide +kernel) ?_
  refine lv_bipush cx.1.1 cx.1.2.1 (n := 6) (v := Int32.ofNat 6) (pc := 37) (by decide +kernel) (by decide) ?_
  refine n_newa (t := 20) (N := 6) (n := 174) (aty := .int) (ty := .int) (index := 0) rfl (by omega) rfl (.inl ⟨rfl, rfl⟩) cx sx (hqZ4.fz fz hm) (show WF[174]? = some (20, 6, 174) from rfl) (in_t1 (List.mem_of_getElem? (i := 124) rfl) rfl) (Nat.le_of_ble_eq_true rfl) (Nat.le_of_ble_eq_true rfl) (pc := 39) (by decide +kernel) (fun H1 sx => ?_)
  refine n_putF (t := 6) (k := 169) (j := 5) (index := 24) cx sx (by omega) (by decide) (show WF[169]? = some (6, 0, 169) from rfl) (by decide) rfl (by rw [show (fp 6 5 169).2.2 = 174 from rfl, cx.2.2.2.2.2.2.2.2.1 174 (by omega)]) rfl (in_t2 (List.mem_of_getElem? (i := 102) rfl) rfl) rfl rfl (fun _ => rfl) (fun _ => rfl) (pc := 41) (by decide +kernel) (fun H1 locs1 sx => ?_)
  rw [← eZ5] at sx
  refine n_ald cx hl (i := 0) (k3 := 0) (t := 6) (k := 169) (pc := 44) rfl rfl (by omega) (by decide +kernel) ?_
  refine lv_bipush cx.1.1 cx.1.2.1 (n := 6) (v := Int32.ofNat 6) (pc := 45) (by decide +kernel) (by decide) ?_
  refine n_newa (t := 20) (N := 6) (n := 175) (aty := .int) (ty := .int) (index := 0) rfl (by omega) rfl (.inl ⟨rfl, rfl⟩) cx sx (hqZ5.fz fz hm) (show WF[175]? = some (20, 6, 175) from rfl) (in_t1 (List.mem_of_getElem? (i := 124) rfl) rfl) (Nat.le_of_ble_eq_true rfl) (Nat.le_of_ble_eq_true rfl) (pc := 47) (by decide +kernel) (fun H1 sx => ?_)
  refine n_putF (t := 6) (k := 169) (j := 6) (index := 27) cx sx (by omega) (by decide) (show WF[169]? = some (6, 0, 169) from rfl) (by decide) rfl (by rw [show (fp 6 6 169).2.2 = 175 from rfl, cx.2.2.2.2.2.2.2.2.1 175 (by omega)]) rfl (in_t2 (List.mem_of_getElem? (i := 106) rfl) rfl) rfl rfl (fun _ => rfl) (fun _ => rfl) (pc := 49) (by decide +kernel) (fun H1 locs1 sx => ?_)
  rw [← eZ6] at sx
  refine n_ald cx hl (i := 0) (k3 := 0) (t := 6) (k := 169) (pc := 52) rfl rfl (by omega) (by decide +kernel) ?_
  refine n_ald cx hl (i := 1) (k3 := 1) (t := 9) (k := 3) (pc := 53) rfl rfl (by omega) (by decide +kernel) ?_
  refine n_putF (t := 6) (k := 169) (j := 10) (index := 30) cx sx (by omega) (by decide) (show WF[169]? = some (6, 0, 169) from rfl) (by decide) rfl (by rw [show (fp 6 10 169).2.2 = 3 from rfl, cx.2.2.2.2.2.2.2.2.1 3 (by omega)]) rfl (in_t2 (List.mem_of_getElem? (i := 116) rfl) rfl) rfl rfl (fun _ => rfl) (fun _ => rfl) (pc := 54) (by decide +kernel) (fun H1 locs1 sx => ?_)
  rw [← eZ7] at sx
  refine n_ald cx hl (i := 0) (k3 := 0) (t := 6) (k := 169) (pc := 57) rfl rfl (by omega) (by decide +kernel) ?_
  refine n_evI (x := 5) (t := 6) (k := 169) (index := 34) (as := []) (ks := (List.range 23).map (· + 3) ++ (List.range 7).map (· + 169)) rfl ev1 rfl (by decide +kernel) (by decide) rfl (by decide +kernel) (by decide +kernel) (Clo_of (by decide +kernel)) (WT_of (by decide +kernel)) (by decide +kernel)
    (fun i hi b => by
      rcases (show ∀ i ∈ (List.range 23).map (· + 3) ++ (List.range 7).map (· + 169), (3 ≤ i ∧ i ≤ 25) ∨ (169 ≤ i ∧ i < 176) from by decide +kernel) i hi with z | z
      · rw [pz.1 i b (.inl (by omega))]; exact hY i z.1 z.2 b
      · exact pz.2 i z.1 z.2 b) hfr (fun v hv => by rcases List.mem_singleton.mp hv with rfl; exact .inl (show ((6, 0, 169) : Ref3) ∈ wI ((List.range 23).map (· + 3) ++ (List.range 7).map (· + 169)) from by decide +kernel)) cx sx (by rw [hsz]) (by decide) hls (in_t2 (List.mem_of_getElem? (i := 77) rfl) rfl) (in_t2 (List.mem_of_getElem? (i := 78) rfl) rfl) (in_t2 (List.mem_of_getElem? (i := 79) rfl) rfl) rfl ⟨Nat.le_of_ble_eq_true rfl, Nat.le_of_ble_eq_true rfl⟩ ⟨Nat.le_of_ble_eq_true rfl, Nat.le_of_ble_eq_true rfl⟩ (Nat.le_of_ble_eq_true rfl) (pc := 58) (by decide +kernel) (fun H1 locs1 sx => ?_)
  exact n_ret cx sx (Nat.le_of_ble_eq_true rfl) (Nat.le_of_ble_eq_true rfl) (pc := 61) (by decide +kernel)
set_option maxRecDepth 20000 in
set_option maxHeartbeats 1000000 in
theorem c_State176 (fz : Fz 176 M Z) (hm : Mz 176 M) (hY : ∀ a, 3 ≤ a → a ≤ 25 → ∀ b, Z a b = false) : ∃ M' Z', CNt ⟨"IceParliament$State", "<init>", "(LIceParliament$Yard;)V"⟩ prog_8_method_1_code 2 3 6 36 [vR 6 0 176, vR 9 0 3] 177 M Z 183 M' Z' ∧ PZ 176 183 Z Z' ∧ SC (staS M.1) 176 M' ∧ Fr (fun c _ => 176 ≤ c ∧ c ≤ 176 + 6) M M' := by
  have hq : QZ 176 [] 177 Z Z := QZ.start
  have hqa := hq.arr fz (show WF[177]? = some (20, 6, 177) from rfl) (by decide)
  obtain ⟨Z1, eZ1⟩ : ∃ Z1, Z1 = uZ Z 176 1 := ⟨_, rfl⟩
  have hqZ1 := hqa.put eZ1
  have hqZ1a := hqZ1.arr fz (show WF[178]? = some (20, 6, 178) from rfl) (by decide)
  obtain ⟨Z2, eZ2⟩ : ∃ Z2, Z2 = uZ Z1 176 2 := ⟨_, rfl⟩
  have hqZ2 := hqZ1a.put eZ2
  have hqZ2a := hqZ2.arr fz (show WF[179]? = some (20, 6, 179) from rfl) (by decide)
  obtain ⟨Z3, eZ3⟩ : ∃ Z3, Z3 = uZ Z2 176 3 := ⟨_, rfl⟩
  have hqZ3 := hqZ2a.put eZ3
  have hqZ3a := hqZ3.arr fz (show WF[180]? = some (20, 6, 180) from rfl) (by decide)
  obtain ⟨Z4, eZ4⟩ : ∃ Z4, Z4 = uZ Z3 176 4 := ⟨_, rfl⟩
  have hqZ4 := hqZ3a.put eZ4
  have hqZ4a := hqZ4.arr fz (show WF[181]? = some (20, 6, 181) from rfl) (by decide)
  obtain ⟨Z5, eZ5⟩ : ∃ Z5, Z5 = uZ Z4 176 5 := ⟨_, rfl⟩
  have hqZ5 := hqZ4a.put eZ5
  have hqZ5a := hqZ5.arr fz (show WF[182]? = some (20, 6, 182) from rfl) (by decide)
  obtain ⟨Z6, eZ6⟩ : ∃ Z6, Z6 = uZ Z5 176 6 := ⟨_, rfl⟩
  have hqZ6 := hqZ5a.put eZ6
  obtain ⟨Z7, eZ7⟩ : ∃ Z7, Z7 = uZ Z6 176 10 := ⟨_, rfl⟩
  have hqZ7 := hqZ6.put eZ7
  obtain ⟨a1, M1, ev1, ha1, sc1, fr1⟩ := sp5 (d := 0) (Y := M.1) (M := M) (k := 176) ⟨rfl, rfl, rfl, rfl, rfl, rfl, rfl, rfl, rfl, rfl, rfl, rfl, rfl, rfl, rfl, rfl, rfl, rfl⟩ (by decide)
  subst ha1
  have pz := hqZ7.fin fz (show WF[176]? = some (6, 0, 176) from rfl) (by decide)
  have hfr : Fr (fun c _ => c ∈ (List.range 23).map (· + 3) ++ (List.range 7).map (· + 176)) M M1 := fr1.up (fun c j z => (show ∀ c, 176 ≤ c → c < 183 → c ∈ (List.range 23).map (· + 3) ++ (List.range 7).map (· + 176) from fun c h1 h2 => by rcases (show c = 176 ∨ c = 177 ∨ c = 178 ∨ c = 179 ∨ c = 180 ∨ c = 181 ∨ c = 182 by omega) with rfl | rfl | rfl | rfl | rfl | rfl | rfl <;> decide) c z.1 (by omega))
  refine ⟨M1, Z7, CNt_of (own := "IceParliament$State") (by decide) rfl rfl (Nat.le_of_ble_eq_true rfl) (fun B => Nat.le_add_right B _) ?_, hqZ7.fin fz (show WF[176]? = some (6, 0, 176) from rfl) (by decide), sc1, fr1⟩
  intro p l e s m args below meth c dC dI cA ρ B ls cx sx hsz hl
  have hls : ls.size = 2 := by obtain ⟨l0, h0, -⟩ := hl; exact h0.1
  refine n_ald cx hl (i := 0) (k3 := 0) (t := 6) (k := 176) (pc := 0) rfl rfl (by omega) (by decide +kernel) ?_
  refine n_obj (k := 176) (index := 3) cx hl (in_t2 (List.mem_of_getElem? (i := 76) rfl) rfl) (in_t1 (List.mem_of_getElem? (i := 33) rfl) rfl) (in_t1 (List.mem_of_getElem? (i := 34) rfl) rfl) ⟨Nat.le_of_ble_eq_true rfl, Nat.le_of_ble_eq_true rfl⟩ (by decide) (pc := 1) (by decide +kernel) ?_
  refine n_ald cx hl (i := 0) (k3 := 0) (t := 6) (k := 176) (pc := 4) rfl rfl (by omega) (by decide +kernel) ?_
  refine lv_bipush cx.1.1 cx.1.2.1 (n := 6) (v := Int32.ofNat 6) (pc := 5) (by decide +kernel) (by decide) ?_
  refine n_newa (t := 20) (N := 6) (n := 177) (aty := .int) (ty := .int) (index := 0) rfl (by omega) rfl (.inl ⟨rfl, rfl⟩) cx sx (hq.fz fz hm) (show WF[177]? = some (20, 6, 177) from rfl) (in_t1 (List.mem_of_getElem? (i := 124) rfl) rfl) (Nat.le_of_ble_eq_true rfl) (Nat.le_of_ble_eq_true rfl) (pc := 7) (by decide +kernel) (fun H1 sx => ?_)
  refine n_putF (t := 6) (k := 176) (j := 1) (index := 9) cx sx (by omega) (by decide) (show WF[176]? = some (6, 0, 176) from rfl) (by decide) rfl (by rw [show (fp 6 1 176).2.2 = 177 from rfl, cx.2.2.2.2.2.2.2.2.1 177 (by omega)]) rfl (in_t2 (List.mem_of_getElem? (i := 88) rfl) rfl) rfl rfl (fun _ => rfl) (fun _ => rfl) (pc := 9) (by decide +kernel) (fun H1 locs1 sx => ?_)
  rw [← eZ1] at sx
  refine n_ald cx hl (i := 0) (k3 := 0) (t := 6) (k := 176) (pc := 12) rfl rfl (by omega) (by decide +kernel) ?_
  refine lv_bipush cx.1.1 cx.1.2.1 (n := 6) (v := Int32.ofNat 6) (pc := 13) (by decide +kernel) (by decide) ?_
  refine n_newa (t := 20) (N := 6) (n := 178) (aty := .int) (ty := .int) (index := 0) rfl (by omega) rfl (.inl ⟨rfl, rfl⟩) cx sx (hqZ1.fz fz hm) (show WF[178]? = some (20, 6, 178) from rfl) (in_t1 (List.mem_of_getElem? (i := 124) rfl) rfl) (Nat.le_of_ble_eq_true rfl) (Nat.le_of_ble_eq_true rfl) (pc := 15) (by decide +kernel) (fun H1 sx => ?_)
  refine n_putF (t := 6) (k := 176) (j := 2) (index := 15) cx sx (by omega) (by decide) (show WF[176]? = some (6, 0, 176) from rfl) (by decide) rfl (by rw [show (fp 6 2 176).2.2 = 178 from rfl, cx.2.2.2.2.2.2.2.2.1 178 (by omega)]) rfl (in_t2 (List.mem_of_getElem? (i := 92) rfl) rfl) rfl rfl (fun _ => rfl) (fun _ => rfl) (pc := 17) (by decide +kernel) (fun H1 locs1 sx => ?_)
  rw [← eZ2] at sx
  refine n_ald cx hl (i := 0) (k3 := 0) (t := 6) (k := 176) (pc := 20) rfl rfl (by omega) (by decide +kernel) ?_
  refine lv_bipush cx.1.1 cx.1.2.1 (n := 6) (v := Int32.ofNat 6) (pc := 21) (by decide +kernel) (by decide) ?_
  refine n_newa (t := 20) (N := 6) (n := 179) (aty := .int) (ty := .int) (index := 0) rfl (by omega) rfl (.inl ⟨rfl, rfl⟩) cx sx (hqZ2.fz fz hm) (show WF[179]? = some (20, 6, 179) from rfl) (in_t1 (List.mem_of_getElem? (i := 124) rfl) rfl) (Nat.le_of_ble_eq_true rfl) (Nat.le_of_ble_eq_true rfl) (pc := 23) (by decide +kernel) (fun H1 sx => ?_)
  refine n_putF (t := 6) (k := 176) (j := 3) (index := 18) cx sx (by omega) (by decide) (show WF[176]? = some (6, 0, 176) from rfl) (by decide) rfl (by rw [show (fp 6 3 176).2.2 = 179 from rfl, cx.2.2.2.2.2.2.2.2.1 179 (by omega)]) rfl (in_t2 (List.mem_of_getElem? (i := 95) rfl) rfl) rfl rfl (fun _ => rfl) (fun _ => rfl) (pc := 25) (by decide +kernel) (fun H1 locs1 sx => ?_)
  rw [← eZ3] at sx
  refine n_ald cx hl (i := 0) (k3 := 0) (t := 6) (k := 176) (pc := 28) rfl rfl (by omega) (by decide +kernel) ?_
  refine lv_bipush cx.1.1 cx.1.2.1 (n := 6) (v := Int32.ofNat 6) (pc := 29) (by decide +kernel) (by decide) ?_
  refine n_newa (t := 20) (N := 6) (n := 180) (aty := .int) (ty := .int) (index := 0) rfl (by omega) rfl (.inl ⟨rfl, rfl⟩) cx sx (hqZ3.fz fz hm) (show WF[180]? = some (20, 6, 180) from rfl) (in_t1 (List.mem_of_getElem? (i := 124) rfl) rfl) (Nat.le_of_ble_eq_true rfl) (Nat.le_of_ble_eq_true rfl) (pc := 31) (by decide +kernel) (fun H1 sx => ?_)
  refine n_putF (t := 6) (k := 176) (j := 4) (index := 21) cx sx (by omega) (by decide) (show WF[176]? = some (6, 0, 176) from rfl) (by decide) rfl (by rw [show (fp 6 4 176).2.2 = 180 from rfl, cx.2.2.2.2.2.2.2.2.1 180 (by omega)]) rfl (in_t2 (List.mem_of_getElem? (i := 99) rfl) rfl) rfl rfl (fun _ => rfl) (fun _ => rfl) (pc := 33) (by decide +kernel) (fun H1 locs1 sx => ?_)
  rw [← eZ4] at sx
  refine n_ald cx hl (i := 0) (k3 := 0) (t := 6) (k := 176) (pc := 36) rfl rfl (by omega) (by decide +kernel) ?_
  refine lv_bipush cx.1.1 cx.1.2.1 (n := 6) (v := Int32.ofNat 6) (pc := 37) (by decide +kernel) (by decide) ?_
  refine n_newa (t := 20) (N := 6) (n := 181) (aty := .int) (ty := .int) (index := 0) rfl (by omega) rfl (.inl ⟨rfl, rfl⟩) cx sx (hqZ4.fz fz hm) (show WF[181]? = some (20, 6, 181) from rfl) (in_t1 (List.mem_of_getElem? (i := 124) rfl) rfl) (Nat.le_of_ble_eq_true rfl) (Nat.le_of_ble_eq_true rfl) (pc := 39) (by decide +kernel) (fun H1 sx => ?_)
  refine n_putF (t := 6) (k := 176) (j := 5) (index := 24) cx sx (by omega) (by decide) (show WF[176]? = some (6, 0, 176) from rfl) (by decide) rfl (by rw [show (fp 6 5 176).2.2 = 181 from rfl, cx.2.2.2.2.2.2.2.2.1 181 (by omega)]) rfl (in_t2 (List.mem_of_getElem? (i := 102) rfl) rfl) rfl rfl (fun _ => rfl) (fun _ => rfl) (pc := 41) (by decide +kernel) (fun H1 locs1 sx => ?_)
  rw [← eZ5] at sx
  refine n_ald cx hl (i := 0) (k3 := 0) (t := 6) (k := 176) (pc := 44) rfl rfl (by omega) (by decide +kernel) ?_
  refine lv_bipush cx.1.1 cx.1.2.1 (n := 6) (v := Int32.ofNat 6) (pc := 45) (by decide +kernel) (by decide) ?_
  refine n_newa (t := 20) (N := 6) (n := 182) (aty := .int) (ty := .int) (index := 0) rfl (by omega) rfl (.inl ⟨rfl, rfl⟩) cx sx (hqZ5.fz fz hm) (show WF[182]? = some (20, 6, 182) from rfl) (in_t1 (List.mem_of_getElem? (i := 124) rfl) rfl) (Nat.le_of_ble_eq_true rfl) (Nat.le_of_ble_eq_true rfl) (pc := 47) (by decide +kernel) (fun H1 sx => ?_)
  refine n_putF (t := 6) (k := 176) (j := 6) (index := 27) cx sx (by omega) (by decide) (show WF[176]? = some (6, 0, 176) from rfl) (by decide) rfl (by rw [show (fp 6 6 176).2.2 = 182 from rfl, cx.2.2.2.2.2.2.2.2.1 182 (by omega)]) rfl (in_t2 (List.mem_of_getElem? (i := 106) rfl) rfl) rfl rfl (fun _ => rfl) (fun _ => rfl) (pc := 49) (by decide +kernel) (fun H1 locs1 sx => ?_)
  rw [← eZ6] at sx
  refine n_ald cx hl (i := 0) (k3 := 0) (t := 6) (k := 176) (pc := 52) rfl rfl (by omega) (by decide +kernel) ?_
  refine n_ald cx hl (i := 1) (k3 := 1) (t := 9) (k := 3) (pc := 53) rfl rfl (by omega) (by decide +kernel) ?_
  refine n_putF (t := 6) (k := 176) (j := 10) (index := 30) cx sx (by omega) (by decide) (show WF[176]? = some (6, 0, 176) from rfl) (by decide) rfl (by rw [show (fp 6 10 176).2.2 = 3 from rfl, cx.2.2.2.2.2.2.2.2.1 3 (by omega)]) rfl (in_t2 (List.mem_of_getElem? (i := 116) rfl) rfl) rfl rfl (fun _ => rfl) (fun _ => rfl) (pc := 54) (by decide +kernel) (fun H1 locs1 sx => ?_)
  rw [← eZ7] at sx
  refine n_ald cx hl (i := 0) (k3 := 0) (t := 6) (k := 176) (pc := 57) rfl rfl (by omega) (by decide +kernel) ?_
  refine n_evI (x := 5) (t := 6) (k := 176) (index := 34) (as := []) (ks := (List.range 23).map (· + 3) ++ (List.range 7).map (· + 176)) rfl ev1 rfl (by decide +kernel) (by decide) rfl (by decide +kernel) (by decide +kernel) (Clo_of (by decide +kernel)) (WT_of (by decide +kernel)) (by decide +kernel)
    (fun i hi b => by
      rcases (show ∀ i ∈ (List.range 23).map (· + 3) ++ (List.range 7).map (· + 176), (3 ≤ i ∧ i ≤ 25) ∨ (176 ≤ i ∧ i < 183) from by decide +kernel) i hi with z | z
      · rw [pz.1 i b (.inl (by omega))]; exact hY i z.1 z.2 b
      · exact pz.2 i z.1 z.2 b) hfr (fun v hv => by rcases List.mem_singleton.mp hv with rfl; exact .inl (show ((6, 0, 176) : Ref3) ∈ wI ((List.range 23).map (· + 3) ++ (List.range 7).map (· + 176)) from by decide +kernel)) cx sx (by rw [hsz]) (by decide) hls (in_t2 (List.mem_of_getElem? (i := 77) rfl) rfl) (in_t2 (List.mem_of_getElem? (i := 78) rfl) rfl) (in_t2 (List.mem_of_getElem? (i := 79) rfl) rfl) rfl ⟨Nat.le_of_ble_eq_true rfl, Nat.le_of_ble_eq_true rfl⟩ ⟨Nat.le_of_ble_eq_true rfl, Nat.le_of_ble_eq_true rfl⟩ (Nat.le_of_ble_eq_true rfl) (pc := 58) (by decide +kernel) (fun H1 locs1 sx => ?_)
  exact n_ret cx sx (Nat.le_of_ble_eq_true rfl) (Nat.le_of_ble_eq_true rfl) (pc := 61) (by decide +kernel)
set_option maxRecDepth 20000 in
set_option maxHeartbeats 1000000 in
theorem c_State183 (fz : Fz 183 M Z) (hm : Mz 183 M) (hY : ∀ a, 3 ≤ a → a ≤ 25 → ∀ b, Z a b = false) : ∃ M' Z', CNt ⟨"IceParliament$State", "<init>", "(LIceParliament$Yard;)V"⟩ prog_8_method_1_code 2 3 6 36 [vR 6 0 183, vR 9 0 3] 184 M Z 190 M' Z' ∧ PZ 183 190 Z Z' ∧ SC (staS M.1) 183 M' ∧ Fr (fun c _ => 183 ≤ c ∧ c ≤ 183 + 6) M M' := by
  have hq : QZ 183 [] 184 Z Z := QZ.start
  have hqa := hq.arr fz (show WF[184]? = some (20, 6, 184) from rfl) (by decide)
  obtain ⟨Z1, eZ1⟩ : ∃ Z1, Z1 = uZ Z 183 1 := ⟨_, rfl⟩
  have hqZ1 := hqa.put eZ1
  have hqZ1a := hqZ1.arr fz (show WF[185]? = some (20, 6, 185) from rfl) (by decide)
  obtain ⟨Z2, eZ2⟩ : ∃ Z2, Z2 = uZ Z1 183 2 := ⟨_, rfl⟩
  have hqZ2 := hqZ1a.put eZ2
  have hqZ2a := hqZ2.arr fz (show WF[186]? = some (20, 6, 186) from rfl) (by decide)
  obtain ⟨Z3, eZ3⟩ : ∃ Z3, Z3 = uZ Z2 183 3 := ⟨_, rfl⟩
  have hqZ3 := hqZ2a.put eZ3
  have hqZ3a := hqZ3.arr fz (show WF[187]? = some (20, 6, 187) from rfl) (by decide)
  obtain ⟨Z4, eZ4⟩ : ∃ Z4, Z4 = uZ Z3 183 4 := ⟨_, rfl⟩
  have hqZ4 := hqZ3a.put eZ4
  have hqZ4a := hqZ4.arr fz (show WF[188]? = some (20, 6, 188) from rfl) (by decide)
  obtain ⟨Z5, eZ5⟩ : ∃ Z5, Z5 = uZ Z4 183 5 := ⟨_, rfl⟩
  have hqZ5 := hqZ4a.put eZ5
  have hqZ5a := hqZ5.arr fz (show WF[189]? = some (20, 6, 189) from rfl) (by decide)
  obtain ⟨Z6, eZ6⟩ : ∃ Z6, Z6 = uZ Z5 183 6 := ⟨_, rfl⟩
  have hqZ6 := hqZ5a.put eZ6
  obtain ⟨Z7, eZ7⟩ : ∃ Z7, Z7 = uZ Z6 183 10 := ⟨_, rfl⟩
  have hqZ7 := hqZ6.put eZ7
  obtain ⟨a1, M1, ev1, ha1, sc1, fr1⟩ := sp5 (d := 0) (Y := M.1) (M := M) (k := 183) ⟨rfl, rfl, rfl, rfl, rfl, rfl, rfl, rfl, rfl, rfl, rfl, rfl, rfl, rfl, rfl, rfl, rfl, rfl⟩ (by decide)
  subst ha1
  have pz := hqZ7.fin fz (show WF[183]? = some (6, 0, 183) from rfl) (by decide)
  have hfr : Fr (fun c _ => c ∈ (List.range 23).map (· + 3) ++ (List.range 7).map (· + 183)) M M1 := fr1.up (fun c j z => (show ∀ c, 183 ≤ c → c < 190 → c ∈ (List.range 23).map (· + 3) ++ (List.range 7).map (· + 183) from fun c h1 h2 => by rcases (show c = 183 ∨ c = 184 ∨ c = 185 ∨ c = 186 ∨ c = 187 ∨ c = 188 ∨ c = 189 by omega) with rfl | rfl | rfl | rfl | rfl | rfl | rfl <;> decide) c z.1 (by omega))
  refine ⟨M1, Z7, CNt_of (own := "IceParliament$State") (by decide) rfl rfl (Nat.le_of_ble_eq_true rfl) (fun B => Nat.le_add_right B _) ?_, hqZ7.fin fz (show WF[183]? = some (6, 0, 183) from rfl) (by decide), sc1, fr1⟩
  intro p l e s m args below meth c dC dI cA ρ B ls cx sx hsz hl
  have hls : ls.size = 2 := by obtain ⟨l0, h0, -⟩ := hl; exact h0.1
  refine n_ald cx hl (i := 0) (k3 := 0) (t := 6) (k := 183) (pc := 0) rfl rfl (by omega) (by decide +kernel) ?_
  refine n_obj (k := 183) (index := 3) cx hl (in_t2 (List.mem_of_getElem? (i := 76) rfl) rfl) (in_t1 (List.mem_of_getElem? (i := 33) rfl) rfl) (in_t1 (List.mem_of_getElem? (i := 34) rfl) rfl) ⟨Nat.le_of_ble_eq_true rfl, Nat.le_of_ble_eq_true rfl⟩ (by decide) (pc := 1) (by decide +kernel) ?_
  refine n_ald cx hl (i := 0) (k3 := 0) (t := 6) (k := 183) (pc := 4) rfl rfl (by omega) (by decide +kernel) ?_
  refine lv_bipush cx.1.1 cx.1.2.1 (n := 6) (v := Int32.ofNat 6) (pc := 5) (by decide +kernel) (by decide) ?_
  refine n_newa (t := 20) (N := 6) (n := 184) (aty := .int) (ty := .int) (index := 0) rfl (by omega) rfl (.inl ⟨rfl, rfl⟩) cx sx (hq.fz fz hm) (show WF[184]? = some (20, 6, 184) from rfl) (in_t1 (List.mem_of_getElem? (i := 124) rfl) rfl) (Nat.le_of_ble_eq_true rfl) (Nat.le_of_ble_eq_true rfl) (pc := 7) (by decide +kernel) (fun H1 sx => ?_)
  refine n_putF (t := 6) (k := 183) (j := 1) (index := 9) cx sx (by omega) (by decide) (show WF[183]? = some (6, 0, 183) from rfl) (by decide) rfl (by rw [show (fp 6 1 183).2.2 = 184 from rfl, cx.2.2.2.2.2.2.2.2.1 184 (by omega)]) rfl (in_t2 (List.mem_of_getElem? (i := 88) rfl) rfl) rfl rfl (fun _ => rfl) (fun _ => rfl) (pc := 9) (by decide +kernel) (fun H1 locs1 sx => ?_)
  rw [← eZ1] at sx
  refine n_ald cx hl (i := 0) (k3 := 0) (t := 6) (k := 183) (pc := 12) rfl rfl (by omega) (by decide +kernel) ?_
  refine lv_bipush cx.1.1 cx.1.2.1 (n := 6) (v := Int32.ofNat 6) (pc := 13) (by decide +kernel) (by decide) ?_
  refine n_newa (t := 20) (N := 6) (n := 185) (aty := .int) (ty := .int) (index := 0) rfl (by omega) rfl (.inl ⟨rfl, rfl⟩) cx sx (hqZ1.fz fz hm) (show WF[185]? = some (20, 6, 185) from rfl) (in_t1 (List.mem_of_getElem? (i := 124) rfl) rfl) (Nat.le_of_ble_eq_true rfl) (Nat.le_of_ble_eq_true rfl) (pc := 15) (by decide +kernel) (fun H1 sx => ?_)
  refine n_putF (t := 6) (k := 183) (j := 2) (index := 15) cx sx (by omega) (by decide) (show WF[183]? = some (6, 0, 183) from rfl) (by decide) rfl (by rw [show (fp 6 2 183).2.2 = 185 from rfl, cx.2.2.2.2.2.2.2.2.1 185 (by omega)]) rfl (in_t2 (List.mem_of_getElem? (i := 92) rfl) rfl) rfl rfl (fun _ => rfl) (fun _ => rfl) (pc := 17) (by decide +kernel) (fun H1 locs1 sx => ?_)
  rw [← eZ2] at sx
  refine n_ald cx hl (i := 0) (k3 := 0) (t := 6) (k := 183) (pc := 20) rfl rfl (by omega) (by decide +kernel) ?_
  refine lv_bipush cx.1.1 cx.1.2.1 (n := 6) (v := Int32.ofNat 6) (pc := 21) (by decide +kernel) (by decide) ?_
  refine n_newa (t := 20) (N := 6) (n := 186) (aty := .int) (ty := .int) (index := 0) rfl (by omega) rfl (.inl ⟨rfl, rfl⟩) cx sx (hqZ2.fz fz hm) (show WF[186]? = some (20, 6, 186) from rfl) (in_t1 (List.mem_of_getElem? (i := 124) rfl) rfl) (Nat.le_of_ble_eq_true rfl) (Nat.le_of_ble_eq_true rfl) (pc := 23) (by decide +kernel) (fun H1 sx => ?_)
  refine n_putF (t := 6) (k := 183) (j := 3) (index := 18) cx sx (by omega) (by decide) (show WF[183]? = some (6, 0, 183) from rfl) (by decide) rfl (by rw [show (fp 6 3 183).2.2 = 186 from rfl, cx.2.2.2.2.2.2.2.2.1 186 (by omega)]) rfl (in_t2 (List.mem_of_getElem? (i := 95) rfl) rfl) rfl rfl (fun _ => rfl) (fun _ => rfl) (pc := 25) (by decide +kernel) (fun H1 locs1 sx => ?_)
  rw [← eZ3] at sx
  refine n_ald cx hl (i := 0) (k3 := 0) (t := 6) (k := 183) (pc := 28) rfl rfl (by omega) (by decide +kernel) ?_
  refine lv_bipush cx.1.1 cx.1.2.1 (n := 6) (v := Int32.ofNat 6) (pc := 29) (by decide +kernel) (by decide) ?_
  refine n_newa (t := 20) (N := 6) (n := 187) (aty := .int) (ty := .int) (index := 0) rfl (by omega) rfl (.inl ⟨rfl, rfl⟩) cx sx (hqZ3.fz fz hm) (show WF[187]? = some (20, 6, 187) from rfl) (in_t1 (List.mem_of_getElem? (i := 124) rfl) rfl) (Nat.le_of_ble_eq_true rfl) (Nat.le_of_ble_eq_true rfl) (pc := 31) (by decide +kernel) (fun H1 sx => ?_)
  refine n_putF (t := 6) (k := 183) (j := 4) (index := 21) cx sx (by omega) (by decide) (show WF[183]? = some (6, 0, 183) from rfl) (by decide) rfl (by rw [show (fp 6 4 183).2.2 = 187 from rfl, cx.2.2.2.2.2.2.2.2.1 187 (by omega)]) rfl (in_t2 (List.mem_of_getElem? (i := 99) rfl) rfl) rfl rfl (fun _ => rfl) (fun _ => rfl) (pc := 33) (by decide +kernel) (fun H1 locs1 sx => ?_)
  rw [← eZ4] at sx
  refine n_ald cx hl (i := 0) (k3 := 0) (t := 6) (k := 183) (pc := 36) rfl rfl (by omega) (by decide +kernel) ?_
  refine lv_bipush cx.1.1 cx.1.2.1 (n := 6) (v := Int32.ofNat 6) (pc := 37) (by decide +kernel) (by decide) ?_
  refine n_newa (t := 20) (N := 6) (n := 188) (aty := .int) (ty := .int) (index := 0) rfl (by omega) rfl (.inl ⟨rfl, rfl⟩) cx sx (hqZ4.fz fz hm) (show WF[188]? = some (20, 6, 188) from rfl) (in_t1 (List.mem_of_getElem? (i := 124) rfl) rfl) (Nat.le_of_ble_eq_true rfl) (Nat.le_of_ble_eq_true rfl) (pc := 39) (by decide +kernel) (fun H1 sx => ?_)
  refine n_putF (t := 6) (k := 183) (j := 5) (index := 24) cx sx (by omega) (by decide) (show WF[183]? = some (6, 0, 183) from rfl) (by decide) rfl (by rw [show (fp 6 5 183).2.2 = 188 from rfl, cx.2.2.2.2.2.2.2.2.1 188 (by omega)]) rfl (in_t2 (List.mem_of_getElem? (i := 102) rfl) rfl) rfl rfl (fun _ => rfl) (fun _ => rfl) (pc := 41) (by decide +kernel) (fun H1 locs1 sx => ?_)
  rw [← eZ5] at sx
  refine n_ald cx hl (i := 0) (k3 := 0) (t := 6) (k := 183) (pc := 44) rfl rfl (by omega) (by decide +kernel) ?_
  refine lv_bipush cx.1.1 cx.1.2.1 (n := 6) (v := Int32.ofNat 6) (pc := 45) (by decide +kernel) (by decide) ?_
  refine n_newa (t := 20) (N := 6) (n := 189) (aty := .int) (ty := .int) (index := 0) rfl (by omega) rfl (.inl ⟨rfl, rfl⟩) cx sx (hqZ5.fz fz hm) (show WF[189]? = some (20, 6, 189) from rfl) (in_t1 (List.mem_of_getElem? (i := 124) rfl) rfl) (Nat.le_of_ble_eq_true rfl) (Nat.le_of_ble_eq_true rfl) (pc := 47) (by decide +kernel) (fun H1 sx => ?_)
  refine n_putF (t := 6) (k := 183) (j := 6) (index := 27) cx sx (by omega) (by decide) (show WF[183]? = some (6, 0, 183) from rfl) (by decide) rfl (by rw [show (fp 6 6 183).2.2 = 189 from rfl, cx.2.2.2.2.2.2.2.2.1 189 (by omega)]) rfl (in_t2 (List.mem_of_getElem? (i := 106) rfl) rfl) rfl rfl (fun _ => rfl) (fun _ => rfl) (pc := 49) (by decide +kernel) (fun H1 locs1 sx => ?_)
  rw [← eZ6] at sx
  refine n_ald cx hl (i := 0) (k3 := 0) (t := 6) (k := 183) (pc := 52) rfl rfl (by omega) (by decide +kernel) ?_
  refine n_ald cx hl (i := 1) (k3 := 1) (t := 9) (k := 3) (pc := 53) rfl rfl (by omega) (by decide +kernel) ?_
  refine n_putF (t := 6) (k := 183) (j := 10) (index := 30) cx sx (by omega) (by decide) (show WF[183]? = some (6, 0, 183) from rfl) (by decide) rfl (by rw [show (fp 6 10 183).2.2 = 3 from rfl, cx.2.2.2.2.2.2.2.2.1 3 (by omega)]) rfl (in_t2 (List.mem_of_getElem? (i := 116) rfl) rfl) rfl rfl (fun _ => rfl) (fun _ => rfl) (pc := 54) (by decide +kernel) (fun H1 locs1 sx => ?_)
  rw [← eZ7] at sx
  refine n_ald cx hl (i := 0) (k3 := 0) (t := 6) (k := 183) (pc := 57) rfl rfl (by omega) (by decide +kernel) ?_
  refine n_evI (x := 5) (t := 6) (k := 183) (index := 34) (as := []) (ks := (List.range 23).map (· + 3) ++ (List.range 7).map (· + 183)) rfl ev1 rfl (by decide +kernel) (by decide) rfl (by decide +kernel) (by decide +kernel) (Clo_of (by decide +kernel)) (WT_of (by decide +kernel)) (by decide +kernel)
    (fun i hi b => by
      rcases (show ∀ i ∈ (List.range 23).map (· + 3) ++ (List.range 7).map (· + 183), (3 ≤ i ∧ i ≤ 25) ∨ (183 ≤ i ∧ i < 190) from by decide +kernel) i hi with z | z
      · rw [pz.1 i b (.inl (by omega))]; exact hY i z.1 z.2 b
      · exact pz.2 i z.1 z.2 b) hfr (fun v hv => by rcases List.mem_singleton.mp hv with rfl; exact .inl (show ((6, 0, 183) : Ref3) ∈ wI ((List.range 23).map (· + 3) ++ (List.range 7).map (· + 183)) from by decide +kernel)) cx sx (by rw [hsz]) (by decide) hls (in_t2 (List.mem_of_getElem? (i := 77) rfl) rfl) (in_t2 (List.mem_of_getElem? (i := 78) rfl) rfl) (in_t2 (List.mem_of_getElem? (i := 79) rfl) rfl) rfl ⟨Nat.le_of_ble_eq_true rfl, Nat.le_of_ble_eq_true rfl⟩ ⟨Nat.le_of_ble_eq_true rfl, Nat.le_of_ble_eq_true rfl⟩ (Nat.le_of_ble_eq_true rfl) (pc := 58) (by decide +kernel) (fun H1 locs1 sx => ?_)
  exact n_ret cx sx (Nat.le_of_ble_eq_true rfl) (Nat.le_of_ble_eq_true rfl) (pc := 61) (by decide +kernel)
set_option maxRecDepth 20000 in
set_option maxHeartbeats 1000000 in
theorem c_State190 (fz : Fz 190 M Z) (hm : Mz 190 M) (hY : ∀ a, 3 ≤ a → a ≤ 25 → ∀ b, Z a b = false) : ∃ M' Z', CNt ⟨"IceParliament$State", "<init>", "(LIceParliament$Yard;)V"⟩ prog_8_method_1_code 2 3 6 36 [vR 6 0 190, vR 9 0 3] 191 M Z 197 M' Z' ∧ PZ 190 197 Z Z' ∧ SC (staS M.1) 190 M' ∧ Fr (fun c _ => 190 ≤ c ∧ c ≤ 190 + 6) M M' := by
  have hq : QZ 190 [] 191 Z Z := QZ.start
  have hqa := hq.arr fz (show WF[191]? = some (20, 6, 191) from rfl) (by decide)
  obtain ⟨Z1, eZ1⟩ : ∃ Z1, Z1 = uZ Z 190 1 := ⟨_, rfl⟩
  have hqZ1 := hqa.put eZ1
  have hqZ1a := hqZ1.arr fz (show WF[192]? = some (20, 6, 192) from rfl) (by decide)
  obtain ⟨Z2, eZ2⟩ : ∃ Z2, Z2 = uZ Z1 190 2 := ⟨_, rfl⟩
  have hqZ2 := hqZ1a.put eZ2
  have hqZ2a := hqZ2.arr fz (show WF[193]? = some (20, 6, 193) from rfl) (by decide)
  obtain ⟨Z3, eZ3⟩ : ∃ Z3, Z3 = uZ Z2 190 3 := ⟨_, rfl⟩
  have hqZ3 := hqZ2a.put eZ3
  have hqZ3a := hqZ3.arr fz (show WF[194]? = some (20, 6, 194) from rfl) (by decide)
  obtain ⟨Z4, eZ4⟩ : ∃ Z4, Z4 = uZ Z3 190 4 := ⟨_, rfl⟩
  have hqZ4 := hqZ3a.put eZ4
  have hqZ4a := hqZ4.arr fz (show WF[195]? = some (20, 6, 195) from rfl) (by decide)
  obtain ⟨Z5, eZ5⟩ : ∃ Z5, Z5 = uZ Z4 190 5 := ⟨_, rfl⟩
  have hqZ5 := hqZ4a.put eZ5
  have hqZ5a := hqZ5.arr fz (show WF[196]? = some (20, 6, 196) from rfl) (by decide)
  obtain ⟨Z6, eZ6⟩ : ∃ Z6, Z6 = uZ Z5 190 6 := ⟨_, rfl⟩
  have hqZ6 := hqZ5a.put eZ6
  obtain ⟨Z7, eZ7⟩ : ∃ Z7, Z7 = uZ Z6 190 10 := ⟨_, rfl⟩
  have hqZ7 := hqZ6.put eZ7
  obtain ⟨a1, M1, ev1, ha1, sc1, fr1⟩ := sp5 (d := 0) (Y := M.1) (M := M) (k := 190) ⟨rfl, rfl, rfl, rfl, rfl, rfl, rfl, rfl, rfl, rfl, rfl, rfl, rfl, rfl, rfl, rfl, rfl, rfl⟩ (by decide)
  subst ha1
  have pz := hqZ7.fin fz (show WF[190]? = some (6, 0, 190) from rfl) (by decide)
  have hfr : Fr (fun c _ => c ∈ (List.range 23).map (· + 3) ++ (List.range 7).map (· + 190)) M M1 := fr1.up (fun c j z => (show ∀ c, 190 ≤ c → c < 197 → c ∈ (List.range 23).map (· + 3) ++ (List.range 7).map (· + 190) from fun c h1 h2 => by rcases (show c = 190 ∨ c = 191 ∨ c = 192 ∨ c = 193 ∨ c = 194 ∨ c = 195 ∨ c = 196 by omega) with rfl | rfl | rfl | rfl | rfl | rfl | rfl <;> decide) c z.1 (by omega))
  refine ⟨M1, Z7, CNt_of (own := "IceParliament$State") (by decide) rfl rfl (Nat.le_of_ble_eq_true rfl) (fun B => Nat.le_add_right B _) ?_, hqZ7.fin fz (show WF[190]? = some (6, 0, 190) from rfl) (by decide), sc1, fr1⟩
  intro p l e s m args below meth c dC dI cA ρ B ls cx sx hsz hl
  have hls : ls.size = 2 := by obtain ⟨l0, h0, -⟩ := hl; exact h0.1
  refine n_ald cx hl (i := 0) (k3 := 0) (t := 6) (k := 190) (pc := 0) rfl rfl (by omega) (by decide +kernel) ?_
  refine n_obj (k := 190) (index := 3) cx hl (in_t2 (List.mem_of_getElem? (i := 76) rfl) rfl) (in_t1 (List.mem_of_getElem? (i := 33) rfl) rfl) (in_t1 (List.mem_of_getElem? (i := 34) rfl) rfl) ⟨Nat.le_of_ble_eq_true rfl, Nat.le_of_ble_eq_true rfl⟩ (by decide) (pc := 1) (by decide +kernel) ?_
  refine n_ald cx hl (i := 0) (k3 := 0) (t := 6) (k := 190) (pc := 4) rfl rfl (by omega) (by decide +kernel) ?_
  refine lv_bipush cx.1.1 cx.1.2.1 (n := 6) (v := Int32.ofNat 6) (pc := 5) (by decide +kernel) (by decide) ?_
  refine n_newa (t := 20) (N := 6) (n := 191) (aty := .int) (ty := .int) (index := 0) rfl (by omega) rfl (.inl ⟨rfl, rfl⟩) cx sx (hq.fz fz hm) (show WF[191]? = some (20, 6, 191) from rfl) (in_t1 (List.mem_of_getElem? (i := 124) rfl) rfl) (Nat.le_of_ble_eq_true rfl) (Nat.le_of_ble_eq_true rfl) (pc := 7) (by decide +kernel) (fun H1 sx => ?_)
  refine n_putF (t := 6) (k := 190) (j := 1) (index := 9) cx sx (by omega) (by decide) (show WF[190]? = some (6, 0, 190) from rfl) (by decide) rfl (by rw [show (fp 6 1 190).2.2 = 191 from rfl, cx.2.2.2.2.2.2.2.2.1 191 (by omega)]) rfl (in_t2 (List.mem_of_getElem? (i := 88) rfl) rfl) rfl rfl (fun _ => rfl) (fun _ => rfl) (pc := 9) (by decide +kernel) (fun H1 locs1 sx => ?_)
  rw [← eZ1] at sx
  refine n_ald cx hl (i := 0) (k3 := 0) (t := 6) (k := 190) (pc := 12) rfl rfl (by omega) (by decide +kernel) ?_
  refine lv_bipush cx.1.1 cx.1.2.1 (n := 6) (v := Int32.ofNat 6) (pc := 13) (by decide +kernel) (by decide) ?_
  refine n_newa (t := 20) (N := 6) (n := 192) (aty := .int) (ty := .int) (index := 0) rfl (by omega) rfl (.inl ⟨rfl, rfl⟩) cx sx (hqZ1.fz fz hm) (show WF[192]? = some (20, 6, 192) from rfl) (in_t1 (List.mem_of_getElem? (i := 124) rfl) rfl) (Nat.le_of_ble_eq_true rfl) (Nat.le_of_ble_eq_true rfl) (pc := 15) (by decide +kernel) (fun H1 sx => ?_)
  refine n_putF (t := 6) (k := 190) (j := 2) (index := 15) cx sx (by omega) (by decide) (show WF[190]? = some (6, 0, 190) from rfl) (by decide) rfl (by rw [show (fp 6 2 190).2.2 = 192 from rfl, cx.2.2.2.2.2.2.2.2.1 192 (by omega)]) rfl (in_t2 (List.mem_of_getElem? (i := 92) rfl) rfl) rfl rfl (fun _ => rfl) (fun _ => rfl) (pc := 17) (by decide +kernel) (fun H1 locs1 sx => ?_)
  rw [← eZ2] at sx
  refine n_ald cx hl (i := 0) (k3 := 0) (t := 6) (k := 190) (pc := 20) rfl rfl (by omega) (by decide +kernel) ?_
  refine lv_bipush cx.1.1 cx.1.2.1 (n := 6) (v := Int32.ofNat 6) (pc := 21) (by decide +kernel) (by decide) ?_
  refine n_newa (t := 20) (N := 6) (n := 193) (aty := .int) (ty := .int) (index := 0) rfl (by omega) rfl (.inl ⟨rfl, rfl⟩) cx sx (hqZ2.fz fz hm) (show WF[193]? = some (20, 6, 193) from rfl) (in_t1 (List.mem_of_getElem? (i := 124) rfl) rfl) (Nat.le_of_ble_eq_true rfl) (Nat.le_of_ble_eq_true rfl) (pc := 23) (by decide +kernel) (fun H1 sx => ?_)
  refine n_putF (t := 6) (k := 190) (j := 3) (index := 18) cx sx (by omega) (by decide) (show WF[190]? = some (6, 0, 190) from rfl) (by decide) rfl (by rw [show (fp 6 3 190).2.2 = 193 from rfl, cx.2.2.2.2.2.2.2.2.1 193 (by omega)]) rfl (in_t2 (List.mem_of_getElem? (i := 95) rfl) rfl) rfl rfl (fun _ => rfl) (fun _ => rfl) (pc := 25) (by decide +kernel) (fun H1 locs1 sx => ?_)
  rw [← eZ3] at sx
  refine n_ald cx hl (i := 0) (k3 := 0) (t := 6) (k := 190) (pc := 28) rfl rfl (by omega) (by decide +kernel) ?_
  refine lv_bipush cx.1.1 cx.1.2.1 (n := 6) (v := Int32.ofNat 6) (pc := 29) (by decide +kernel) (by decide) ?_
  refine n_newa (t := 20) (N := 6) (n := 194) (aty := .int) (ty := .int) (index := 0) rfl (by omega) rfl (.inl ⟨rfl, rfl⟩) cx sx (hqZ3.fz fz hm) (show WF[194]? = some (20, 6, 194) from rfl) (in_t1 (List.mem_of_getElem? (i := 124) rfl) rfl) (Nat.le_of_ble_eq_true rfl) (Nat.le_of_ble_eq_true rfl) (pc := 31) (by decide +kernel) (fun H1 sx => ?_)
  refine n_putF (t := 6) (k := 190) (j := 4) (index := 21) cx sx (by omega) (by decide) (show WF[190]? = some (6, 0, 190) from rfl) (by decide) rfl (by rw [show (fp 6 4 190).2.2 = 194 from rfl, cx.2.2.2.2.2.2.2.2.1 194 (by omega)]) rfl (in_t2 (List.mem_of_getElem? (i := 99) rfl) rfl) rfl rfl (fun _ => rfl) (fun _ => rfl) (pc := 33) (by decide +kernel) (fun H1 locs1 sx => ?_)
  rw [← eZ4] at sx
  refine n_ald cx hl (i := 0) (k3 := 0) (t := 6) (k := 190) (pc := 36) rfl rfl (by omega) (by decide +kernel) ?_
  refine lv_bipush cx.1.1 cx.1.2.1 (n := 6) (v := Int32.ofNat 6) (pc := 37) (by decide +kernel) (by decide) ?_
  refine n_newa (t := 20) (N := 6) (n := 195) (aty := .int) (ty := .int) (index := 0) rfl (by omega) rfl (.inl ⟨rfl, rfl⟩) cx sx (hqZ4.fz fz hm) (show WF[195]? = some (20, 6, 195) from rfl) (in_t1 (List.mem_of_getElem? (i := 124) rfl) rfl) (Nat.le_of_ble_eq_true rfl) (Nat.le_of_ble_eq_true rfl) (pc := 39) (by decide +kernel) (fun H1 sx => ?_)
  refine n_putF (t := 6) (k := 190) (j := 5) (index := 24) cx sx (by omega) (by decide) (show WF[190]? = some (6, 0, 190) from rfl) (by decide) rfl (by rw [show (fp 6 5 190).2.2 = 195 from rfl, cx.2.2.2.2.2.2.2.2.1 195 (by omega)]) rfl (in_t2 (List.mem_of_getElem? (i := 102) rfl) rfl) rfl rfl (fun _ => rfl) (fun _ => rfl) (pc := 41) (by decide +kernel) (fun H1 locs1 sx => ?_)
  rw [← eZ5] at sx
  refine n_ald cx hl (i := 0) (k3 := 0) (t := 6) (k := 190) (pc := 44) rfl rfl (by omega) (by decide +kernel) ?_
  refine lv_bipush cx.1.1 cx.1.2.1 (n := 6) (v := Int32.ofNat 6) (pc := 45) (by decide +kernel) (by decide) ?_
  refine n_newa (t := 20) (N := 6) (n := 196) (aty := .int) (ty := .int) (index := 0) rfl (by omega) rfl (.inl ⟨rfl, rfl⟩) cx sx (hqZ5.fz fz hm) (show WF[196]? = some (20, 6, 196) from rfl) (in_t1 (List.mem_of_getElem? (i := 124) rfl) rfl) (Nat.le_of_ble_eq_true rfl) (Nat.le_of_ble_eq_true rfl) (pc := 47) (by decide +kernel) (fun H1 sx => ?_)
  refine n_putF (t := 6) (k := 190) (j := 6) (index := 27) cx sx (by omega) (by decide) (show WF[190]? = some (6, 0, 190) from rfl) (by decide) rfl (by rw [show (fp 6 6 190).2.2 = 196 from rfl, cx.2.2.2.2.2.2.2.2.1 196 (by omega)]) rfl (in_t2 (List.mem_of_getElem? (i := 106) rfl) rfl) rfl rfl (fun _ => rfl) (fun _ => rfl) (pc := 49) (by decide +kernel) (fun H1 locs1 sx => ?_)
  rw [← eZ6] at sx
  refine n_ald cx hl (i := 0) (k3 := 0) (t := 6) (k := 190) (pc := 52) rfl rfl (by omega) (by decide +kernel) ?_
  refine n_ald cx hl (i := 1) (k3 := 1) (t := 9) (k := 3) (pc := 53) rfl rfl (by omega) (by decide +kernel) ?_
  refine n_putF (t := 6) (k := 190) (j := 10) (index := 30) cx sx (by omega) (by decide) (show WF[190]? = some (6, 0, 190) from rfl) (by decide) rfl (by rw [show (fp 6 10 190).2.2 = 3 from rfl, cx.2.2.2.2.2.2.2.2.1 3 (by omega)]) rfl (in_t2 (List.mem_of_getElem? (i := 116) rfl) rfl) rfl rfl (fun _ => rfl) (fun _ => rfl) (pc := 54) (by decide +kernel) (fun H1 locs1 sx => ?_)
  rw [← eZ7] at sx
  refine n_ald cx hl (i := 0) (k3 := 0) (t := 6) (k := 190) (pc := 57) rfl rfl (by omega) (by decide +kernel) ?_
  refine n_evI (x := 5) (t := 6) (k := 190) (index := 34) (as := []) (ks := (List.range 23).map (· + 3) ++ (List.range 7).map (· + 190)) rfl ev1 rfl (by decide +kernel) (by decide) rfl (by decide +kernel) (by decide +kernel) (Clo_of (by decide +kernel)) (WT_of (by decide +kernel)) (by decide +kernel)
    (fun i hi b => by
      rcases (show ∀ i ∈ (List.range 23).map (· + 3) ++ (List.range 7).map (· + 190), (3 ≤ i ∧ i ≤ 25) ∨ (190 ≤ i ∧ i < 197) from by decide +kernel) i hi with z | z
      · rw [pz.1 i b (.inl (by omega))]; exact hY i z.1 z.2 b
      · exact pz.2 i z.1 z.2 b) hfr (fun v hv => by rcases List.mem_singleton.mp hv with rfl; exact .inl (show ((6, 0, 190) : Ref3) ∈ wI ((List.range 23).map (· + 3) ++ (List.range 7).map (· + 190)) from by decide +kernel)) cx sx (by rw [hsz]) (by decide) hls (in_t2 (List.mem_of_getElem? (i := 77) rfl) rfl) (in_t2 (List.mem_of_getElem? (i := 78) rfl) rfl) (in_t2 (List.mem_of_getElem? (i := 79) rfl) rfl) rfl ⟨Nat.le_of_ble_eq_true rfl, Nat.le_of_ble_eq_true rfl⟩ ⟨Nat.le_of_ble_eq_true rfl, Nat.le_of_ble_eq_true rfl⟩ (Nat.le_of_ble_eq_true rfl) (pc := 58) (by decide +kernel) (fun H1 locs1 sx => ?_)
  exact n_ret cx sx (Nat.le_of_ble_eq_true rfl) (Nat.le_of_ble_eq_true rfl) (pc := 61) (by decide +kernel)
set_option maxRecDepth 20000 in
set_option maxHeartbeats 1000000 in
theorem c_State197 (fz : Fz 197 M Z) (hm : Mz 197 M) (hY : ∀ a, 3 ≤ a → a ≤ 25 → ∀ b, Z a b = false) : ∃ M' Z', CNt ⟨"IceParliament$State", "<init>", "(LIceParliament$Yard;)V"⟩ prog_8_method_1_code 2 3 6 36 [vR 6 0 197, vR 9 0 3] 198 M Z 204 M' Z' ∧ PZ 197 204 Z Z' ∧ SC (staS M.1) 197 M' ∧ Fr (fun c _ => 197 ≤ c ∧ c ≤ 197 + 6) M M' := by
  have hq : QZ 197 [] 198 Z Z := QZ.start
  have hqa := hq.arr fz (show WF[198]? = some (20, 6, 198) from rfl) (by decide)
  obtain ⟨Z1, eZ1⟩ : ∃ Z1, Z1 = uZ Z 197 1 := ⟨_, rfl⟩
  have hqZ1 := hqa.put eZ1
  have hqZ1a := hqZ1.arr fz (show WF[199]? = some (20, 6, 199) from rfl) (by decide)
  obtain ⟨Z2, eZ2⟩ : ∃ Z2, Z2 = uZ Z1 197 2 := ⟨_, rfl⟩
  have hqZ2 := hqZ1a.put eZ2
  have hqZ2a := hqZ2.arr fz (show WF[200]? = some (20, 6, 200) from rfl) (by decide)
  obtain ⟨Z3, eZ3⟩ : ∃ Z3, Z3 = uZ Z2 197 3 := ⟨_, rfl⟩
  have hqZ3 := hqZ2a.put eZ3
  have hqZ3a := hqZ3.arr fz (show WF[201]? = some (20, 6, 201) from rfl) (by decide)
  obtain ⟨Z4, eZ4⟩ : ∃ Z4, Z4 = uZ Z3 197 4 := ⟨_, rfl⟩
  have hqZ4 := hqZ3a.put eZ4
  have hqZ4a := hqZ4.arr fz (show WF[202]? = some (20, 6, 202) from rfl) (by decide)
  obtain ⟨Z5, eZ5⟩ : ∃ Z5, Z5 = uZ Z4 197 5 := ⟨_, rfl⟩
  have hqZ5 := hqZ4a.put eZ5
  have hqZ5a := hqZ5.arr fz (show WF[203]? = some (20, 6, 203) from rfl) (by decide)
  obtain ⟨Z6, eZ6⟩ : ∃ Z6, Z6 = uZ Z5 197 6 := ⟨_, rfl⟩
  have hqZ6 := hqZ5a.put eZ6
  obtain ⟨Z7, eZ7⟩ : ∃ Z7, Z7 = uZ Z6 197 10 := ⟨_, rfl⟩
  have hqZ7 := hqZ6.put eZ7
  obtain ⟨a1, M1, ev1, ha1, sc1, fr1⟩ := sp5 (d := 0) (Y := M.1) (M := M) (k := 197) ⟨rfl, rfl, rfl, rfl, rfl, rfl, rfl, rfl, rfl, rfl, rfl, rfl, rfl, rfl, rfl, rfl, rfl, rfl⟩ (by decide)
  subst ha1
  have pz := hqZ7.fin fz (show WF[197]? = some (6, 0, 197) from rfl) (by decide)
  have hfr : Fr (fun c _ => c ∈ (List.range 23).map (· + 3) ++ (List.range 7).map (· + 197)) M M1 := fr1.up (fun c j z => (show ∀ c, 197 ≤ c → c < 204 → c ∈ (List.range 23).map (· + 3) ++ (List.range 7).map (· + 197) from fun c h1 h2 => by rcases (show c = 197 ∨ c = 198 ∨ c = 199 ∨ c = 200 ∨ c = 201 ∨ c = 202 ∨ c = 203 by omega) with rfl | rfl | rfl | rfl | rfl | rfl | rfl <;> decide) c z.1 (by omega))
  refine ⟨M1, Z7, CNt_of (own := "IceParliament$State") (by decide) rfl rfl (Nat.le_of_ble_eq_true rfl) (fun B => Nat.le_add_right B _) ?_, hqZ7.fin fz (show WF[197]? = some (6, 0, 197) from rfl) (by decide), sc1, fr1⟩
  intro p l e s m args below meth c dC dI cA ρ B ls cx sx hsz hl
  have hls : ls.size = 2 := by obtain ⟨l0, h0, -⟩ := hl; exact h0.1
  refine n_ald cx hl (i := 0) (k3 := 0) (t := 6) (k := 197) (pc := 0) rfl rfl (by omega) (by decide +kernel) ?_
  refine n_obj (k := 197) (index := 3) cx hl (in_t2 (List.mem_of_getElem? (i := 76) rfl) rfl) (in_t1 (List.mem_of_getElem? (i := 33) rfl) rfl) (in_t1 (List.mem_of_getElem? (i := 34) rfl) rfl) ⟨Nat.le_of_ble_eq_true rfl, Nat.le_of_ble_eq_true rfl⟩ (by decide) (pc := 1) (by decide +kernel) ?_
  refine n_ald cx hl (i := 0) (k3 := 0) (t := 6) (k := 197) (pc := 4) rfl rfl (by omega) (by decide +kernel) ?_
  refine lv_bipush cx.1.1 cx.1.2.1 (n := 6) (v := Int32.ofNat 6) (pc := 5) (by decide +kernel) (by decide) ?_
  refine n_newa (t := 20) (N := 6) (n := 198) (aty := .int) (ty := .int) (index := 0) rfl (by omega) rfl (.inl ⟨rfl, rfl⟩) cx sx (hq.fz fz hm) (show WF[198]? = some (20, 6, 198) from rfl) (in_t1 (List.mem_of_getElem? (i := 124) rfl) rfl) (Nat.le_of_ble_eq_true rfl) (Nat.le_of_ble_eq_true rfl) (pc := 7) (by decide +kernel) (fun H1 sx => ?_)
  refine n_putF (t := 6) (k := 197) (j := 1) (index := 9) cx sx (by omega) (by decide) (show WF[197]? = some (6, 0, 197) from rfl) (by decide) rfl (by rw [show (fp 6 1 197).2.2 = 198 from rfl, cx.2.2.2.2.2.2.2.2.1 198 (by omega)]) rfl (in_t2 (List.mem_of_getElem? (i := 88) rfl) rfl) rfl rfl (fun _ => rfl) (fun _ => rfl) (pc := 9) (by decide +kernel) (fun H1 locs1 sx => ?_)
  rw [← eZ1] at sx
  refine n_ald cx hl (i := 0) (k3 := 0) (t := 6) (k := 197) (pc := 12) rfl rfl (by omega) (by decide +kernel) ?_
  refine lv_bipush cx.1.1 cx.1.2.1 (n := 6) (v := Int32.ofNat 6) (pc := 13) (by decide +kernel) (by decide) ?_
  refine n_newa (t := 20) (N := 6) (n := 199) (aty := .int) (ty := .int) (index := 0) rfl (by omega) rfl (.inl ⟨rfl, rfl⟩) cx sx (hqZ1.fz fz hm) (show WF[199]? = some (20, 6, 199) from rfl) (in_t1 (List.mem_of_getElem? (i := 124) rfl) rfl) (Nat.le_of_ble_eq_true rfl) (Nat.le_of_ble_eq_true rfl) (pc := 15) (by decide +kernel) (fun H1 sx => ?_)
  refine n_putF (t := 6) (k := 197) (j := 2) (index := 15) cx sx (by omega) (by decide) (show WF[197]? = some (6, 0, 197) from rfl) (by decide) rfl (by rw [show (fp 6 2 197).2.2 = 199 from rfl, cx.2.2.2.2.2.2.2.2.1 199 (by omega)]) rfl (in_t2 (List.mem_of_getElem? (i := 92) rfl) rfl) rfl rfl (fun _ => rfl) (fun _ => rfl) (pc := 17) (by decide +kernel) (fun H1 locs1 sx => ?_)
  rw [← eZ2] at sx
  refine n_ald cx hl (i := 0) (k3 := 0) (t := 6) (k := 197) (pc := 20) rfl rfl (by omega) (by decide +kernel) ?_
  refine lv_bipush cx.1.1 cx.1.2.1 (n := 6) (v := Int32.ofNat 6) (pc := 21) (by decide +kernel) (by decide) ?_
  refine n_newa (t := 20) (N := 6) (n := 200) (aty := .int) (ty := .int) (index := 0) rfl (by omega) rfl (.inl ⟨rfl, rfl⟩) cx sx (hqZ2.fz fz hm) (show WF[200]? = some (20, 6, 200) from rfl) (in_t1 (List.mem_of_getElem? (i := 124) rfl) rfl) (Nat.le_of_ble_eq_true rfl) (Nat.le_of_ble_eq_true rfl) (pc := 23) (by decide +kernel) (fun H1 sx => ?_)
  refine n_putF (t := 6) (k := 197) (j := 3) (index := 18) cx sx (by omega) (by decide) (show WF[197]? = some (6, 0, 197) from rfl) (by decide) rfl (by rw [show (fp 6 3 197).2.2 = 200 from rfl, cx.2.2.2.2.2.2.2.2.1 200 (by omega)]) rfl (in_t2 (List.mem_of_getElem? (i := 95) rfl) rfl) rfl rfl (fun _ => rfl) (fun _ => rfl) (pc := 25) (by decide +kernel) (fun H1 locs1 sx => ?_)
  rw [← eZ3] at sx
  refine n_ald cx hl (i := 0) (k3 := 0) (t := 6) (k := 197) (pc := 28) rfl rfl (by omega) (by decide +kernel) ?_
  refine lv_bipush cx.1.1 cx.1.2.1 (n := 6) (v := Int32.ofNat 6) (pc := 29) (by decide +kernel) (by decide) ?_
  refine n_newa (t := 20) (N := 6) (n := 201) (aty := .int) (ty := .int) (index := 0) rfl (by omega) rfl (.inl ⟨rfl, rfl⟩) cx sx (hqZ3.fz fz hm) (show WF[201]? = some (20, 6, 201) from rfl) (in_t1 (List.mem_of_getElem? (i := 124) rfl) rfl) (Nat.le_of_ble_eq_true rfl) (Nat.le_of_ble_eq_true rfl) (pc := 31) (by decide +kernel) (fun H1 sx => ?_)
  refine n_putF (t := 6) (k := 197) (j := 4) (index := 21) cx sx (by omega) (by decide) (show WF[197]? = some (6, 0, 197) from rfl) (by decide) rfl (by rw [show (fp 6 4 197).2.2 = 201 from rfl, cx.2.2.2.2.2.2.2.2.1 201 (by omega)]) rfl (in_t2 (List.mem_of_getElem? (i := 99) rfl) rfl) rfl rfl (fun _ => rfl) (fun _ => rfl) (pc := 33) (by decide +kernel) (fun H1 locs1 sx => ?_)
  rw [← eZ4] at sx
  refine n_ald cx hl (i := 0) (k3 := 0) (t := 6) (k := 197) (pc := 36) rfl rfl (by omega) (by decide +kernel) ?_
  refine lv_bipush cx.1.1 cx.1.2.1 (n := 6) (v := Int32.ofNat 6) (pc := 37) (by decide +kernel) (by decide) ?_
  refine n_newa (t := 20) (N := 6) (n := 202) (aty := .int) (ty := .int) (index := 0) rfl (by omega) rfl (.inl ⟨rfl, rfl⟩) cx sx (hqZ4.fz fz hm) (show WF[202]? = some (20, 6, 202) from rfl) (in_t1 (List.mem_of_getElem? (i := 124) rfl) rfl) (Nat.le_of_ble_eq_true rfl) (Nat.le_of_ble_eq_true rfl) (pc := 39) (by decide +kernel) (fun H1 sx => ?_)
  refine n_putF (t := 6) (k := 197) (j := 5) (index := 24) cx sx (by omega) (by decide) (show WF[197]? = some (6, 0, 197) from rfl) (by decide) rfl (by rw [show (fp 6 5 197).2.2 = 202 from rfl, cx.2.2.2.2.2.2.2.2.1 202 (by omega)]) rfl (in_t2 (List.mem_of_getElem? (i := 102) rfl) rfl) rfl rfl (fun _ => rfl) (fun _ => rfl) (pc := 41) (by decide +kernel) (fun H1 locs1 sx => ?_)
  rw [← eZ5] at sx
  refine n_ald cx hl (i := 0) (k3 := 0) (t := 6) (k := 197) (pc := 44) rfl rfl (by omega) (by decide +kernel) ?_
  refine lv_bipush cx.1.1 cx.1.2.1 (n := 6) (v := Int32.ofNat 6) (pc := 45) (by decide +kernel) (by decide) ?_
  refine n_newa (t := 20) (N := 6) (n := 203) (aty := .int) (ty := .int) (index := 0) rfl (by omega) rfl (.inl ⟨rfl, rfl⟩) cx sx (hqZ5.fz fz hm) (show WF[203]? = some (20, 6, 203) from rfl) (in_t1 (List.mem_of_getElem? (i := 124) rfl) rfl) (Nat.le_of_ble_eq_true rfl) (Nat.le_of_ble_eq_true rfl) (pc := 47) (by decide +kernel) (fun H1 sx => ?_)
  refine n_putF (t := 6) (k := 197) (j := 6) (index := 27) cx sx (by omega) (by decide) (show WF[197]? = some (6, 0, 197) from rfl) (by decide) rfl (by rw [show (fp 6 6 197).2.2 = 203 from rfl, cx.2.2.2.2.2.2.2.2.1 203 (by omega)]) rfl (in_t2 (List.mem_of_getElem? (i := 106) rfl) rfl) rfl rfl (fun _ => rfl) (fun _ => rfl) (pc := 49) (by decide +kernel) (fun H1 locs1 sx => ?_)
  rw [← eZ6] at sx
  refine n_ald cx hl (i := 0) (k3 := 0) (t := 6) (k := 197) (pc := 52) rfl rfl (by omega) (by decide +kernel) ?_
  refine n_ald cx hl (i := 1) (k3 := 1) (t := 9) (k := 3) (pc := 53) rfl rfl (by omega) (by decide +kernel) ?_
  refine n_putF (t := 6) (k := 197) (j := 10) (index := 30) cx sx (by omega) (by decide) (show WF[197]? = some (6, 0, 197) from rfl) (by decide) rfl (by rw [show (fp 6 10 197).2.2 = 3 from rfl, cx.2.2.2.2.2.2.2.2.1 3 (by omega)]) rfl (in_t2 (List.mem_of_getElem? (i := 116) rfl) rfl) rfl rfl (fun _ => rfl) (fun _ => rfl) (pc := 54) (by decide +kernel) (fun H1 locs1 sx => ?_)
  rw [← eZ7] at sx
  refine n_ald cx hl (i := 0) (k3 := 0) (t := 6) (k := 197) (pc := 57) rfl rfl (by omega) (by decide +kernel) ?_
  refine n_evI (x := 5) (t := 6) (k := 197) (index := 34) (as := []) (ks := (List.range 23).map (· + 3) ++ (List.range 7).map (· + 197)) rfl ev1 rfl (by decide +kernel) (by decide) rfl (by decide +kernel) (by decide +kernel) (Clo_of (by decide +kernel)) (WT_of (by decide +kernel)) (by decide +kernel)
    (fun i hi b => by
      rcases (show ∀ i ∈ (List.range 23).map (· + 3) ++ (List.range 7).map (· + 197), (3 ≤ i ∧ i ≤ 25) ∨ (197 ≤ i ∧ i < 204) from by decide +kernel) i hi with z | z
      · rw [pz.1 i b (.inl (by omega))]; exact hY i z.1 z.2 b
      · exact pz.2 i z.1 z.2 b) hfr (fun v hv => by rcases List.mem_singleton.mp hv with rfl; exact .inl (show ((6, 0, 197) : Ref3) ∈ wI ((List.range 23).map (· + 3) ++ (List.range 7).map (· + 197)) from by decide +kernel)) cx sx (by rw [hsz]) (by decide) hls (in_t2 (List.mem_of_getElem? (i := 77) rfl) rfl) (in_t2 (List.mem_of_getElem? (i := 78) rfl) rfl) (in_t2 (List.mem_of_getElem? (i := 79) rfl) rfl) rfl ⟨Nat.le_of_ble_eq_true rfl, Nat.le_of_ble_eq_true rfl⟩ ⟨Nat.le_of_ble_eq_true rfl, Nat.le_of_ble_eq_true rfl⟩ (Nat.le_of_ble_eq_true rfl) (pc := 58) (by decide +kernel) (fun H1 locs1 sx => ?_)
  exact n_ret cx sx (Nat.le_of_ble_eq_true rfl) (Nat.le_of_ble_eq_true rfl) (pc := 61) (by decide +kernel)
set_option maxRecDepth 20000 in
set_option maxHeartbeats 1000000 in
theorem c_State204 (fz : Fz 204 M Z) (hm : Mz 204 M) (hY : ∀ a, 3 ≤ a → a ≤ 25 → ∀ b, Z a b = false) : ∃ M' Z', CNt ⟨"IceParliament$State", "<init>", "(LIceParliament$Yard;)V"⟩ prog_8_method_1_code 2 3 6 36 [vR 6 0 204, vR 9 0 3] 205 M Z 211 M' Z' ∧ PZ 204 211 Z Z' ∧ SC (staS M.1) 204 M' ∧ Fr (fun c _ => 204 ≤ c ∧ c ≤ 204 + 6) M M' := by
  have hq : QZ 204 [] 205 Z Z := QZ.start
  have hqa := hq.arr fz (show WF[205]? = some (20, 6, 205) from rfl) (by decide)
  obtain ⟨Z1, eZ1⟩ : ∃ Z1, Z1 = uZ Z 204 1 := ⟨_, rfl⟩
  have hqZ1 := hqa.put eZ1
  have hqZ1a := hqZ1.arr fz (show WF[206]? = some (20, 6, 206) from rfl) (by decide)
  obtain ⟨Z2, eZ2⟩ : ∃ Z2, Z2 = uZ Z1 204 2 := ⟨_, rfl⟩
  have hqZ2 := hqZ1a.put eZ2
  have hqZ2a := hqZ2.arr fz (show WF[207]? = some (20, 6, 207) from rfl) (by decide)
  obtain ⟨Z3, eZ3⟩ : ∃ Z3, Z3 = uZ Z2 204 3 := ⟨_, rfl⟩
  have hqZ3 := hqZ2a.put eZ3
  have hqZ3a := hqZ3.arr fz (show WF[208]? = some (20, 6, 208) from rfl) (by decide)
  obtain ⟨Z4, eZ4⟩ : ∃ Z4, Z4 = uZ Z3 204 4 := ⟨_, rfl⟩
  have hqZ4 := hqZ3a.put eZ4
  have hqZ4a := hqZ4.arr fz (show WF[209]? = some (20, 6, 209) from rfl) (by decide)
  obtain ⟨Z5, eZ5⟩ : ∃ Z5, Z5 = uZ Z4 204 5 := ⟨_, rfl⟩
  have hqZ5 := hqZ4a.put eZ5
  have hqZ5a := hqZ5.arr fz (show WF[210]? = some (20, 6, 210) from rfl) (by decide)
  obtain ⟨Z6, eZ6⟩ : ∃ Z6, Z6 = uZ Z5 204 6 := ⟨_, rfl⟩
  have hqZ6 := hqZ5a.put eZ6
  obtain ⟨Z7, eZ7⟩ : ∃ Z7, Z7 = uZ Z6 204 10 := ⟨_, rfl⟩
  have hqZ7 := hqZ6.put eZ7
  obtain ⟨a1, M1, ev1, ha1, sc1, fr1⟩ := sp5 (d := 0) (Y := M.1) (M := M) (k := 204) ⟨rfl, rfl, rfl, rfl, rfl, rfl, rfl, rfl, rfl, rfl, rfl, rfl, rfl, rfl, rfl, rfl, rfl, rfl⟩ (by decide)
  subst ha1
  have pz := hqZ7.fin fz (show WF[204]? = some (6, 0, 204) from rfl) (by decide)
  have hfr : Fr (fun c _ => c ∈ (List.range 23).map (· + 3) ++ (List.range 7).map (· + 204)) M M1 := fr1.up (fun c j z => (show ∀ c, 204 ≤ c → c < 211 → c ∈ (List.range 23).map (· + 3) ++ (List.range 7).map (· + 204) from fun c h1 h2 => by rcases (show c = 204 ∨ c = 205 ∨ c = 206 ∨ c = 207 ∨ c = 208 ∨ c = 209 ∨ c = 210 by omega) with rfl | rfl | rfl | rfl | rfl | rfl | rfl <;> decide) c z.1 (by omega))
  refine ⟨M1, Z7, CNt_of (own := "IceParliament$State") (by decide) rfl rfl (Nat.le_of_ble_eq_true rfl) (fun B => Nat.le_add_right B _) ?_, hqZ7.fin fz (show WF[204]? = some (6, 0, 204) from rfl) (by decide), sc1, fr1⟩
  intro p l e s m args below meth c dC dI cA ρ B ls cx sx hsz hl
  have hls : ls.size = 2 := by obtain ⟨l0, h0, -⟩ := hl; exact h0.1
  refine n_ald cx hl (i := 0) (k3 := 0) (t := 6) (k := 204) (pc := 0) rfl rfl (by omega) (by decide +kernel) ?_
  refine n_obj (k := 204) (index := 3) cx hl (in_t2 (List.mem_of_getElem? (i := 76) rfl) rfl) (in_t1 (List.mem_of_getElem? (i := 33) rfl) rfl) (in_t1 (List.mem_of_getElem? (i := 34) rfl) rfl) ⟨Nat.le_of_ble_eq_true rfl, Nat.le_of_ble_eq_true rfl⟩ (by decide) (pc := 1) (by decide +kernel) ?_
  refine n_ald cx hl (i := 0) (k3 := 0) (t := 6) (k := 204) (pc := 4) rfl rfl (by omega) (by decide +kernel) ?_
  refine lv_bipush cx.1.1 cx.1.2.1 (n := 6) (v := Int32.ofNat 6) (pc := 5) (by decide +kernel) (by decide) ?_
  refine n_newa (t := 20) (N := 6) (n := 205) (aty := .int) (ty := .int) (index := 0) rfl (by omega) rfl (.inl ⟨rfl, rfl⟩) cx sx (hq.fz fz hm) (show WF[205]? = some (20, 6, 205) from rfl) (in_t1 (List.mem_of_getElem? (i := 124) rfl) rfl) (Nat.le_of_ble_eq_true rfl) (Nat.le_of_ble_eq_true rfl) (pc := 7) (by decide +kernel) (fun H1 sx => ?_)
  refine n_putF (t := 6) (k := 204) (j := 1) (index := 9) cx sx (by omega) (by decide) (show WF[204]? = some (6, 0, 204) from rfl) (by decide) rfl (by rw [show (fp 6 1 204).2.2 = 205 from rfl, cx.2.2.2.2.2.2.2.2.1 205 (by omega)]) rfl (in_t2 (List.mem_of_getElem? (i := 88) rfl) rfl) rfl rfl (fun _ => rfl) (fun _ => rfl) (pc := 9) (by decide +kernel) (fun H1 locs1 sx => ?_)
  rw [← eZ1] at sx
  refine n_ald cx hl (i := 0) (k3 := 0) (t := 6) (k := 204) (pc := 12) rfl rfl (by omega) (by decide +kernel) ?_
  refine lv_bipush cx.1.1 cx.1.2.1 (n := 6) (v := Int32.ofNat 6) (pc := 13) (by decide +kernel) (by decide) ?_
  refine n_newa (t := 20) (N := 6) (n := 206) (aty := .int) (ty := .int) (index := 0) rfl (by omega) rfl (.inl ⟨rfl, rfl⟩) cx sx (hqZ1.fz fz hm) (show WF[206]? = some (20, 6, 206) from rfl) (in_t1 (List.mem_of_getElem? (i := 124) rfl) rfl) (Nat.le_of_ble_eq_true rfl) (Nat.le_of_ble_eq_true rfl) (pc := 15) (by decide +kernel) (fun H1 sx => ?_)
  refine n_putF (t := 6) (k := 204) (j := 2) (index := 15) cx sx (by omega) (by decide) (show WF[204]? = some (6, 0, 204) from rfl) (by decide) rfl (by rw [show (fp 6 2 204).2.2 = 206 from rfl, cx.2.2.2.2.2.2.2.2.1 206 (by omega)]) rfl (in_t2 (List.mem_of_getElem? (i := 92) rfl) rfl) rfl rfl (fun _ => rfl) (fun _ => rfl) (pc := 17) (by decide +kernel) (fun H1 locs1 sx => ?_)
  rw [← eZ2] at sx
  refine n_ald cx hl (i := 0) (k3 := 0) (t := 6) (k := 204) (pc := 20) rfl rfl (by omega) (by decide +kernel) ?_
  refine lv_bipush cx.1.1 cx.1.2.1 (n := 6) (v := Int32.ofNat 6) (pc := 21) (by decide +kernel) (by decide) ?_
  refine n_newa (t := 20) (N := 6) (n := 207) (aty := .int) (ty := .int) (index := 0) rfl (by omega) rfl (.inl ⟨rfl, rfl⟩) cx sx (hqZ2.fz fz hm) (show WF[207]? = some (20, 6, 207) from rfl) (in_t1 (List.mem_of_getElem? (i := 124) rfl) rfl) (Nat.le_of_ble_eq_true rfl) (Nat.le_of_ble_eq_true rfl) (pc := 23) (by decide +kernel) (fun H1 sx => ?_)
  refine n_putF (t := 6) (k := 204) (j := 3) (index := 18) cx sx (by omega) (by decide) (show WF[204]? = some (6, 0, 204) from rfl) (by decide) rfl (by rw [show (fp 6 3 204).2.2 = 207 from rfl, cx.2.2.2.2.2.2.2.2.1 207 (by omega)]) rfl (in_t2 (List.mem_of_getElem? (i := 95) rfl) rfl) rfl rfl (fun _ => rfl) (fun _ => rfl) (pc := 25) (by decide +kernel) (fun H1 locs1 sx => ?_)
  rw [← eZ3] at sx
  refine n_ald cx hl (i := 0) (k3 := 0) (t := 6) (k := 204) (pc := 28) rfl rfl (by omega) (by decide +kernel) ?_
  refine lv_bipush cx.1.1 cx.1.2.1 (n := 6) (v := Int32.ofNat 6) (pc := 29) (by decide +kernel) (by decide) ?_
  refine n_newa (t := 20) (N := 6) (n := 208) (aty := .int) (ty := .int) (index := 0) rfl (by omega) rfl (.inl ⟨rfl, rfl⟩) cx sx (hqZ3.fz fz hm) (show WF[208]? = some (20, 6, 208) from rfl) (in_t1 (List.mem_of_getElem? (i := 124) rfl) rfl) (Nat.le_of_ble_eq_true rfl) (Nat.le_of_ble_eq_true rfl) (pc := 31) (by decide +kernel) (fun H1 sx => ?_)
  refine n_putF (t := 6) (k := 204) (j := 4) (index := 21) cx sx (by omega) (by decide) (show WF[204]? = some (6, 0, 204) from rfl) (by decide) rfl (by rw [show (fp 6 4 204).2.2 = 208 from rfl, cx.2.2.2.2.2.2.2.2.1 208 (by omega)]) rfl (in_t2 (List.mem_of_getElem? (i := 99) rfl) rfl) rfl rfl (fun _ => rfl) (fun _ => rfl) (pc := 33) (by decide +kernel) (fun H1 locs1 sx => ?_)
  rw [← eZ4] at sx
  refine n_ald cx hl (i := 0) (k3 := 0) (t := 6) (k := 204) (pc := 36) rfl rfl (by omega) (by decide +kernel) ?_
  refine lv_bipush cx.1.1 cx.1.2.1 (n := 6) (v := Int32.ofNat 6) (pc := 37) (by decide +kernel) (by decide) ?_
  refine n_newa (t := 20) (N := 6) (n := 209) (aty := .int) (ty := .int) (index := 0) rfl (by omega) rfl (.inl ⟨rfl, rfl⟩) cx sx (hqZ4.fz fz hm) (show WF[209]? = some (20, 6, 209) from rfl) (in_t1 (List.mem_of_getElem? (i := 124) rfl) rfl) (Nat.le_of_ble_eq_true rfl) (Nat.le_of_ble_eq_true rfl) (pc := 39) (by decide +kernel) (fun H1 sx => ?_)
  refine n_putF (t := 6) (k := 204) (j := 5) (index := 24) cx sx (by omega) (by decide) (show WF[204]? = some (6, 0, 204) from rfl) (by decide) rfl (by rw [show (fp 6 5 204).2.2 = 209 from rfl, cx.2.2.2.2.2.2.2.2.1 209 (by omega)]) rfl (in_t2 (List.mem_of_getElem? (i := 102) rfl) rfl) rfl rfl (fun _ => rfl) (fun _ => rfl) (pc := 41) (by decide +kernel) (fun H1 locs1 sx => ?_)
  rw [← eZ5] at sx
  refine n_ald cx hl (i := 0) (k3 := 0) (t := 6) (k := 204) (pc := 44) rfl rfl (by omega) (by decide +kernel) ?_
  refine lv_bipush cx.1.1 cx.1.2.1 (n := 6) (v := Int32.ofNat 6) (pc := 45) (by decide +kernel) (by decide) ?_
  refine n_newa (t := 20) (N := 6) (n := 210) (aty := .int) (ty := .int) (index := 0) rfl (by omega) rfl (.inl ⟨rfl, rfl⟩) cx sx (hqZ5.fz fz hm) (show WF[210]? = some (20, 6, 210) from rfl) (in_t1 (List.mem_of_getElem? (i := 124) rfl) rfl) (Nat.le_of_ble_eq_true rfl) (Nat.le_of_ble_eq_true rfl) (pc := 47) (by decide +kernel) (fun H1 sx => ?_)
  refine n_putF (t := 6) (k := 204) (j := 6) (index := 27) cx sx (by omega) (by decide) (show WF[204]? = some (6, 0, 204) from rfl) (by decide) rfl (by rw [show (fp 6 6 204).2.2 = 210 from rfl, cx.2.2.2.2.2.2.2.2.1 210 (by omega)]) rfl (in_t2 (List.mem_of_getElem? (i := 106) rfl) rfl) rfl rfl (fun _ => rfl) (fun _ => rfl) (pc := 49) (by decide +kernel) (fun H1 locs1 sx => ?_)
  rw [← eZ6] at sx
  refine n_ald cx hl (i := 0) (k3 := 0) (t := 6) (k := 204) (pc := 52) rfl rfl (by omega) (by decide +kernel) ?_
  refine n_ald cx hl (i := 1) (k3 := 1) (t := 9) (k := 3) (pc := 53) rfl rfl (by omega) (by decide +kernel) ?_
  refine n_putF (t := 6) (k := 204) (j := 10) (index := 30) cx sx (by omega) (by decide) (show WF[204]? = some (6, 0, 204) from rfl) (by decide) rfl (by rw [show (fp 6 10 204).2.2 = 3 from rfl, cx.2.2.2.2.2.2.2.2.1 3 (by omega)]) rfl (in_t2 (List.mem_of_getElem? (i := 116) rfl) rfl) rfl rfl (fun _ => rfl) (fun _ => rfl) (pc := 54) (by decide +kernel) (fun H1 locs1 sx => ?_)
  rw [← eZ7] at sx
  refine n_ald cx hl (i := 0) (k3 := 0) (t := 6) (k := 204) (pc := 57) rfl rfl (by omega) (by decide +kernel) ?_
  refine n_evI (x := 5) (t := 6) (k := 204) (index := 34) (as := []) (ks := (List.range 23).map (· + 3) ++ (List.range 7).map (· + 204)) rfl ev1 rfl (by decide +kernel) (by decide) rfl (by decide +kernel) (by decide +kernel) (Clo_of (by decide +kernel)) (WT_of (by decide +kernel)) (by decide +kernel)
    (fun i hi b => by
      rcases (show ∀ i ∈ (List.range 23).map (· + 3) ++ (List.range 7).map (· + 204), (3 ≤ i ∧ i ≤ 25) ∨ (204 ≤ i ∧ i < 211) from by decide +kernel) i hi with z | z
      · rw [pz.1 i b (.inl (by omega))]; exact hY i z.1 z.2 b
      · exact pz.2 i z.1 z.2 b) hfr (fun v hv => by rcases List.mem_singleton.mp hv with rfl; exact .inl (show ((6, 0, 204) : Ref3) ∈ wI ((List.range 23).map (· + 3) ++ (List.range 7).map (· + 204)) from by decide +kernel)) cx sx (by rw [hsz]) (by decide) hls (in_t2 (List.mem_of_getElem? (i := 77) rfl) rfl) (in_t2 (List.mem_of_getElem? (i := 78) rfl) rfl) (in_t2 (List.mem_of_getElem? (i := 79) rfl) rfl) rfl ⟨Nat.le_of_ble_eq_true rfl, Nat.le_of_ble_eq_true rfl⟩ ⟨Nat.le_of_ble_eq_true rfl, Nat.le_of_ble_eq_true rfl⟩ (Nat.le_of_ble_eq_true rfl) (pc := 58) (by decide +kernel) (fun H1 locs1 sx => ?_)
  exact n_ret cx sx (Nat.le_of_ble_eq_true rfl) (Nat.le_of_ble_eq_true rfl) (pc := 61) (by decide +kernel)
set_option maxRecDepth 20000 in
set_option maxHeartbeats 1000000 in
theorem c_State211 (fz : Fz 211 M Z) (hm : Mz 211 M) (hY : ∀ a, 3 ≤ a → a ≤ 25 → ∀ b, Z a b = false) : ∃ M' Z', CNt ⟨"IceParliament$State", "<init>", "(LIceParliament$Yard;)V"⟩ prog_8_method_1_code 2 3 6 36 [vR 6 0 211, vR 9 0 3] 212 M Z 218 M' Z' ∧ PZ 211 218 Z Z' ∧ SC (staS M.1) 211 M' ∧ Fr (fun c _ => 211 ≤ c ∧ c ≤ 211 + 6) M M' := by
  have hq : QZ 211 [] 212 Z Z := QZ.start
  have hqa := hq.arr fz (show WF[212]? = some (20, 6, 212) from rfl) (by decide)
  obtain ⟨Z1, eZ1⟩ : ∃ Z1, Z1 = uZ Z 211 1 := ⟨_, rfl⟩
  have hqZ1 := hqa.put eZ1
  have hqZ1a := hqZ1.arr fz (show WF[213]? = some (20, 6, 213) from rfl) (by decide)
  obtain ⟨Z2, eZ2⟩ : ∃ Z2, Z2 = uZ Z1 211 2 := ⟨_, rfl⟩
  have hqZ2 := hqZ1a.put eZ2
  have hqZ2a := hqZ2.arr fz (show WF[214]? = some (20, 6, 214) from rfl) (by decide)
  obtain ⟨Z3, eZ3⟩ : ∃ Z3, Z3 = uZ Z2 211 3 := ⟨_, rfl⟩
  have hqZ3 := hqZ2a.put eZ3
  have hqZ3a := hqZ3.arr fz (show WF[215]? = some (20, 6, 215) from rfl) (by decide)
  obtain ⟨Z4, eZ4⟩ : ∃ Z4, Z4 = uZ Z3 211 4 := ⟨_, rfl⟩
  have hqZ4 := hqZ3a.put eZ4
  have hqZ4a := hqZ4.arr fz (show WF[216]? = some (20, 6, 216) from rfl) (by decide)
  obtain ⟨Z5, eZ5⟩ : ∃ Z5, Z5 = uZ Z4 211 5 := ⟨_, rfl⟩
  have hqZ5 := hqZ4a.put eZ5
  have hqZ5a := hqZ5.arr fz (show WF[217]? = some (20, 6, 217) from rfl) (by decide)
  obtain ⟨Z6, eZ6⟩ : ∃ Z6, Z6 = uZ Z5 211 6 := ⟨_, rfl⟩
  have hqZ6 := hqZ5a.put eZ6
  obtain ⟨Z7, eZ7⟩ : ∃ Z7, Z7 = uZ Z6 211 10 := ⟨_, rfl⟩
  have hqZ7 := hqZ6.put eZ7
  obtain ⟨a1, M1, ev1, ha1, sc1, fr1⟩ := sp5 (d := 0) (Y := M.1) (M := M) (k := 211) ⟨rfl, rfl, rfl, rfl, rfl, rfl, rfl, rfl, rfl, rfl, rfl, rfl, rfl, rfl, rfl, rfl, rfl, rfl⟩ (by decide)
  subst ha1
  have pz := hqZ7.fin fz (show WF[211]? = some (6, 0, 211) from rfl) (by decide)
  have hfr : Fr (fun c _ => c ∈ (List.range 23).map (· + 3) ++ (List.range 7).map (· + 211)) M M1 := fr1.up (fun c j z => (show ∀ c, 211 ≤ c → c < 218 → c ∈ (List.range 23).map (· + 3) ++ (List.range 7).map (· + 211) from fun c h1 h2 => by rcases (show c = 211 ∨ c = 212 ∨ c = 213 ∨ c = 214 ∨ c = 215 ∨ c = 216 ∨ c = 217 by omega) with rfl | rfl | rfl | rfl | rfl | rfl | rfl <;> decide) c z.1 (by omega))
  refine ⟨M1, Z7, CNt_of (own := "IceParliament$State") (by decide) rfl rfl (Nat.le_of_ble_eq_true rfl) (fun B => Nat.le_add_right B _) ?_, hqZ7.fin fz (show WF[211]? = some (6, 0, 211) from rfl) (by decide), sc1, fr1⟩
  intro p l e s m args below meth c dC dI cA ρ B ls cx sx hsz hl
  have hls : ls.size = 2 := by obtain ⟨l0, h0, -⟩ := hl; exact h0.1
  refine n_ald cx hl (i := 0) (k3 := 0) (t := 6) (k := 211) (pc := 0) rfl rfl (by omega) (by decide +kernel) ?_
  refine n_obj (k := 211) (index := 3) cx hl (in_t2 (List.mem_of_getElem? (i := 76) rfl) rfl) (in_t1 (List.mem_of_getElem? (i := 33) rfl) rfl) (in_t1 (List.mem_of_getElem? (i := 34) rfl) rfl) ⟨Nat.le_of_ble_eq_true rfl, Nat.le_of_ble_eq_true rfl⟩ (by decide) (pc := 1) (by decide +kernel) ?_
  refine n_ald cx hl (i := 0) (k3 := 0) (t := 6) (k := 211) (pc := 4) rfl rfl (by omega) (by decide +kernel) ?_
  refine lv_bipush cx.1.1 cx.1.2.1 (n := 6) (v := Int32.ofNat 6) (pc := 5) (by decide +kernel) (by decide) ?_
  refine n_newa (t := 20) (N := 6) (n := 212) (aty := .int) (ty := .int) (index := 0) rfl (by omega) rfl (.inl ⟨rfl, rfl⟩) cx sx (hq.fz fz hm) (show WF[212]? = some (20, 6, 212) from rfl) (in_t1 (List.mem_of_getElem? (i := 124) rfl) rfl) (Nat.le_of_ble_eq_true rfl) (Nat.le_of_ble_eq_true rfl) (pc := 7) (by decide +kernel) (fun H1 sx => ?_)
  refine n_putF (t := 6) (k := 211) (j := 1) (index := 9) cx sx (by omega) (by decide) (show WF[211]? = some (6, 0, 211) from rfl) (by decide) rfl (by rw [show (fp 6 1 211).2.2 = 212 from rfl, cx.2.2.2.2.2.2.2.2.1 212 (by omega)]) rfl (in_t2 (List.mem_of_getElem? (i := 88) rfl) rfl) rfl rfl (fun _ => rfl) (fun _ => rfl) (pc := 9) (by decide +kernel) (fun H1 locs1 sx => ?_)
  rw [← eZ1] at sx
  refine n_ald cx hl (i := 0) (k3 := 0) (t := 6) (k := 211) (pc := 12) rfl rfl (by omega) (by decide +kernel) ?_
  refine lv_bipush cx.1.1 cx.1.2.1 (n := 6) (v := Int32.ofNat 6) (pc := 13) (by decide +kernel) (by decide) ?_
  refine n_newa (t := 20) (N := 6) (n := 213) (aty := .int) (ty := .int) (index := 0) rfl (by omega) rfl (.inl ⟨rfl, rfl⟩) cx sx (hqZ1.fz fz hm) (show WF[213]? = some (20, 6, 213) from rfl) (in_t1 (List.mem_of_getElem? (i := 124) rfl) rfl) (Nat.le_of_ble_eq_true rfl) (Nat.le_of_ble_eq_true rfl) (pc := 15) (by decide +kernel) (fun H1 sx => ?_)
  refine n_putF (t := 6) (k := 211) (j := 2) (index := 15) cx sx (by omega) (by decide) (show WF[211]? = some (6, 0, 211) from rfl) (by decide) rfl (by rw [show (fp 6 2 211).2.2 = 213 from rfl, cx.2.2.2.2.2.2.2.2.1 213 (by omega)]) rfl (in_t2 (List.mem_of_getElem? (i := 92) rfl) rfl) rfl rfl (fun _ => rfl) (fun _ => rfl) (pc := 17) (by decide +kernel) (fun H1 locs1 sx => ?_)
  rw [← eZ2] at sx
  refine n_ald cx hl (i := 0) (k3 := 0) (t := 6) (k := 211) (pc := 20) rfl rfl (by omega) (by decide +kernel) ?_
  refine lv_bipush cx.1.1 cx.1.2.1 (n := 6) (v := Int32.ofNat 6) (pc := 21) (by decide +kernel) (by decide) ?_
  refine n_newa (t := 20) (N := 6) (n := 214) (aty := .int) (ty := .int) (index := 0) rfl (by omega) rfl (.inl ⟨rfl, rfl⟩) cx sx (hqZ2.fz fz hm) (show WF[214]? = some (20, 6, 214) from rfl) (in_t1 (List.mem_of_getElem? (i := 124) rfl) rfl) (Nat.le_of_ble_eq_true rfl) (Nat.le_of_ble_eq_true rfl) (pc := 23) (by decide +kernel) (fun H1 sx => ?_)
  refine n_putF (t := 6) (k := 211) (j := 3) (index := 18) cx sx (by omega) (by decide) (show WF[211]? = some (6, 0, 211) from rfl) (by decide) rfl (by rw [show (fp 6 3 211).2.2 = 214 from rfl, cx.2.2.2.2.2.2.2.2.1 214 (by omega)]) rfl (in_t2 (List.mem_of_getElem? (i := 95) rfl) rfl) rfl rfl (fun _ => rfl) (fun _ => rfl) (pc := 25) (by decide +kernel) (fun H1 locs1 sx => ?_)
  rw [← eZ3] at sx
  refine n_ald cx hl (i := 0) (k3 := 0) (t := 6) (k := 211) (pc := 28) rfl rfl (by omega) (by decide +kernel) ?_
  refine lv_bipush cx.1.1 cx.1.2.1 (n := 6) (v := Int32.ofNat 6) (pc := 29) (by decide +kernel) (by decide) ?_
  refine n_newa (t := 20) (N := 6) (n := 215) (aty := .int) (ty := .int) (index := 0) rfl (by omega) rfl (.inl ⟨rfl, rfl⟩) cx sx (hqZ3.fz fz hm) (show WF[215]? = some (20, 6, 215) from rfl) (in_t1 (List.mem_of_getElem? (i := 124) rfl) rfl) (Nat.le_of_ble_eq_true rfl) (Nat.le_of_ble_eq_true rfl) (pc := 31) (by decide +kernel) (fun H1 sx => ?_)
  refine n_putF (t := 6) (k := 211) (j := 4) (index := 21) cx sx (by omega) (by decide) (show WF[211]? = some (6, 0, 211) from rfl) (by decide) rfl (by rw [show (fp 6 4 211).2.2 = 215 from rfl, cx.2.2.2.2.2.2.2.2.1 215 (by omega)]) rfl (in_t2 (List.mem_of_getElem? (i := 99) rfl) rfl) rfl rfl (fun _ => rfl) (fun _ => rfl) (pc := 33) (by decide +kernel) (fun H1 locs1 sx => ?_)
  rw [← eZ4] at sx
  refine n_ald cx hl (i := 0) (k3 := 0) (t := 6) (k := 211) (pc := 36) rfl rfl (by omega) (by decide +kernel) ?_
  refine lv_bipush cx.1.1 cx.1.2.1 (n := 6) (v := Int32.ofNat 6) (pc := 37) (by decide +kernel) (by decide) ?_
  refine n_newa (t := 20) (N := 6) (n := 216) (aty := .int) (ty := .int) (index := 0) rfl (by omega) rfl (.inl ⟨rfl, rfl⟩) cx sx (hqZ4.fz fz hm) (show WF[216]? = some (20, 6, 216) from rfl) (in_t1 (List.mem_of_getElem? (i := 124) rfl) rfl) (Nat.le_of_ble_eq_true rfl) (Nat.le_of_ble_eq_true rfl) (pc := 39) (by decide +kernel) (fun H1 sx => ?_)
  refine n_putF (t := 6) (k := 211) (j := 5) (index := 24) cx sx (by omega) (by decide) (show WF[211]? = some (6, 0, 211) from rfl) (by decide) rfl (by rw [show (fp 6 5 211).2.2 = 216 from rfl, cx.2.2.2.2.2.2.2.2.1 216 (by omega)]) rfl (in_t2 (List.mem_of_getElem? (i := 102) rfl) rfl) rfl rfl (fun _ => rfl) (fun _ => rfl) (pc := 41) (by decide +kernel) (fun H1 locs1 sx => ?_)
  rw [← eZ5] at sx
  refine n_ald cx hl (i := 0) (k3 := 0) (t := 6) (k := 211) (pc := 44) rfl rfl (by omega) (by decide +kernel) ?_
  refine lv_bipush cx.1.1 cx.1.2.1 (n := 6) (v := Int32.ofNat 6) (pc := 45) (by decide +kernel) (by decide) ?_
  refine n_newa (t := 20) (N := 6) (n := 217) (aty := .int) (ty := .int) (index := 0) rfl (by omega) rfl (.inl ⟨rfl, rfl⟩) cx sx (hqZ5.fz fz hm) (show WF[217]? = some (20, 6, 217) from rfl) (in_t1 (List.mem_of_getElem? (i := 124) rfl) rfl) (Nat.le_of_ble_eq_true rfl) (Nat.le_of_ble_eq_true rfl) (pc := 47) (by decide +kernel) (fun H1 sx => ?_)
  refine n_putF (t := 6) (k := 211) (j := 6) (index := 27) cx sx (by omega) (by decide) (show WF[211]? = some (6, 0, 211) from rfl) (by decide) rfl (by rw [show (fp 6 6 211).2.2 = 217 from rfl, cx.2.2.2.2.2.2.2.2.1 217 (by omega)]) rfl (in_t2 (List.mem_of_getElem? (i := 106) rfl) rfl) rfl rfl (fun _ => rfl) (fun _ => rfl) (pc := 49) (by decide +kernel) (fun H1 locs1 sx => ?_)
  rw [← eZ6] at sx
  refine n_ald cx hl (i := 0) (k3 := 0) (t := 6) (k := 211) (pc := 52) rfl rfl (by omega) (by decide +kernel) ?_
  refine n_ald cx hl (i := 1) (k3 := 1) (t := 9) (k := 3) (pc := 53) rfl rfl (by omega) (by decide +kernel) ?_
  refine n_putF (t := 6) (k := 211) (j := 10) (index := 30) cx sx (by omega) (by decide) (show WF[211]? = some (6, 0, 211) from rfl) (by decide) rfl (by rw [show (fp 6 10 211).2.2 = 3 from rfl, cx.2.2.2.2.2.2.2.2.1 3 (by omega)]) rfl (in_t2 (List.mem_of_getElem? (i := 116) rfl) rfl) rfl rfl (fun _ => rfl) (fun _ => rfl) (pc := 54) (by decide +kernel) (fun H1 locs1 sx => ?_)
  rw [← eZ7] at sx
  refine n_ald cx hl (i := 0) (k3 := 0) (t := 6) (k := 211) (pc := 57) rfl rfl (by omega) (by decide +kernel) ?_
  refine n_evI (x := 5) (t := 6) (k := 211) (index := 34) (as := []) (ks := (List.range 23).map (· + 3) ++ (List.range 7).map (· + 211)) rfl ev1 rfl (by decide +kernel) (by decide) rfl (by decide +kernel) (by decide +kernel) (Clo_of (by decide +kernel)) (WT_of (by decide +kernel)) (by decide +kernel)
    (fun i hi b => by
      rcases (show ∀ i ∈ (List.range 23).map (· + 3) ++ (List.range 7).map (· + 211), (3 ≤ i ∧ i ≤ 25) ∨ (211 ≤ i ∧ i < 218) from by decide +kernel) i hi with z | z
      · rw [pz.1 i b (.inl (by omega))]; exact hY i z.1 z.2 b
      · exact pz.2 i z.1 z.2 b) hfr (fun v hv => by rcases List.mem_singleton.mp hv with rfl; exact .inl (show ((6, 0, 211) : Ref3) ∈ wI ((List.range 23).map (· + 3) ++ (List.range 7).map (· + 211)) from by decide +kernel)) cx sx (by rw [hsz]) (by decide) hls (in_t2 (List.mem_of_getElem? (i := 77) rfl) rfl) (in_t2 (List.mem_of_getElem? (i := 78) rfl) rfl) (in_t2 (List.mem_of_getElem? (i := 79) rfl) rfl) rfl ⟨Nat.le_of_ble_eq_true rfl, Nat.le_of_ble_eq_true rfl⟩ ⟨Nat.le_of_ble_eq_true rfl, Nat.le_of_ble_eq_true rfl⟩ (Nat.le_of_ble_eq_true rfl) (pc := 58) (by decide +kernel) (fun H1 locs1 sx => ?_)
  exact n_ret cx sx (Nat.le_of_ble_eq_true rfl) (Nat.le_of_ble_eq_true rfl) (pc := 61) (by decide +kernel)
set_option maxRecDepth 20000 in
set_option maxHeartbeats 1000000 in
theorem c_State218 (fz : Fz 218 M Z) (hm : Mz 218 M) (hY : ∀ a, 3 ≤ a → a ≤ 25 → ∀ b, Z a b = false) : ∃ M' Z', CNt ⟨"IceParliament$State", "<init>", "(LIceParliament$Yard;)V"⟩ prog_8_method_1_code 2 3 6 36 [vR 6 0 218, vR 9 0 3] 219 M Z 225 M' Z' ∧ PZ 218 225 Z Z' ∧ SC (staS M.1) 218 M' ∧ Fr (fun c _ => 218 ≤ c ∧ c ≤ 218 + 6) M M' := by
  have hq : QZ 218 [] 219 Z Z := QZ.start
  have hqa := hq.arr fz (show WF[219]? = some (20, 6, 219) from rfl) (by decide)
  obtain ⟨Z1, eZ1⟩ : ∃ Z1, Z1 = uZ Z 218 1 := ⟨_, rfl⟩
  have hqZ1 := hqa.put eZ1
  have hqZ1a := hqZ1.arr fz (show WF[220]? = some (20, 6, 220) from rfl) (by decide)
  obtain ⟨Z2, eZ2⟩ : ∃ Z2, Z2 = uZ Z1 218 2 := ⟨_, rfl⟩
  have hqZ2 := hqZ1a.put eZ2
  have hqZ2a := hqZ2.arr fz (show WF[221]? = some (20, 6, 221) from rfl) (by decide)
  obtain ⟨Z3, eZ3⟩ : ∃ Z3, Z3 = uZ Z2 218 3 := ⟨_, rfl⟩
  have hqZ3 := hqZ2a.put eZ3
  have hqZ3a := hqZ3.arr fz (show WF[222]? = some (20, 6, 222) from rfl) (by decide)
  obtain ⟨Z4, eZ4⟩ : ∃ Z4, Z4 = uZ Z3 218 4 := ⟨_, rfl⟩
  have hqZ4 := hqZ3a.put eZ4
  have hqZ4a := hqZ4.arr fz (show WF[223]? = some (20, 6, 223) from rfl) (by decide)
  obtain ⟨Z5, eZ5⟩ : ∃ Z5, Z5 = uZ Z4 218 5 := ⟨_, rfl⟩
  have hqZ5 := hqZ4a.put eZ5
  have hqZ5a := hqZ5.arr fz (show WF[224]? = some (20, 6, 224) from rfl) (by decide)
  obtain ⟨Z6, eZ6⟩ : ∃ Z6, Z6 = uZ Z5 218 6 := ⟨_, rfl⟩
  have hqZ6 := hqZ5a.put eZ6
  obtain ⟨Z7, eZ7⟩ : ∃ Z7, Z7 = uZ Z6 218 10 := ⟨_, rfl⟩
  have hqZ7 := hqZ6.put eZ7
  obtain ⟨a1, M1, ev1, ha1, sc1, fr1⟩ := sp5 (d := 0) (Y := M.1) (M := M) (k := 218) ⟨rfl, rfl, rfl, rfl, rfl, rfl, rfl, rfl, rfl, rfl, rfl, rfl, rfl, rfl, rfl, rfl, rfl, rfl⟩ (by decide)
  subst ha1
  have pz := hqZ7.fin fz (show WF[218]? = some (6, 0, 218) from rfl) (by decide)
  have hfr : Fr (fun c _ => c ∈ (List.range 23).map (· + 3) ++ (List.range 7).map (· + 218)) M M1 := fr1.up (fun c j z => (show ∀ c, 218 ≤ c → c < 225 → c ∈ (List.range 23).map (· + 3) ++ (List.range 7).map (· + 218) from fun c h1 h2 => by rcases (show c = 218 ∨ c = 219 ∨ c = 220 ∨ c = 221 ∨ c = 222 ∨ c = 223 ∨ c = 224 by omega) with rfl | rfl | rfl | rfl | rfl | rfl | rfl <;> decide) c z.1 (by omega))
  refine ⟨M1, Z7, CNt_of (own := "IceParliament$State") (by decide) rfl rfl (Nat.le_of_ble_eq_true rfl) (fun B => Nat.le_add_right B _) ?_, hqZ7.fin fz (show WF[218]? = some (6, 0, 218) from rfl) (by decide), sc1, fr1⟩
  intro p l e s m args below meth c dC dI cA ρ B ls cx sx hsz hl
  have hls : ls.size = 2 := by obtain ⟨l0, h0, -⟩ := hl; exact h0.1
  refine n_ald cx hl (i := 0) (k3 := 0) (t := 6) (k := 218) (pc := 0) rfl rfl (by omega) (by decide +kernel) ?_
  refine n_obj (k := 218) (index := 3) cx hl (in_t2 (List.mem_of_getElem? (i := 76) rfl) rfl) (in_t1 (List.mem_of_getElem? (i := 33) rfl) rfl) (in_t1 (List.mem_of_getElem? (i := 34) rfl) rfl) ⟨Nat.le_of_ble_eq_true rfl, Nat.le_of_ble_eq_true rfl⟩ (by decide) (pc := 1) (by decide +kernel) ?_
  refine n_ald cx hl (i := 0) (k3 := 0) (t := 6) (k := 218) (pc := 4) rfl rfl (by omega) (by decide +kernel) ?_
  refine lv_bipush cx.1.1 cx.1.2.1 (n := 6) (v := Int32.ofNat 6) (pc := 5) (by decide +kernel) (by decide) ?_
  refine n_newa (t := 20) (N := 6) (n := 219) (aty := .int) (ty := .int) (index := 0) rfl (by omega) rfl (.inl ⟨rfl, rfl⟩) cx sx (hq.fz fz hm) (show WF[219]? = some (20, 6, 219) from rfl) (in_t1 (List.mem_of_getElem? (i := 124) rfl) rfl) (Nat.le_of_ble_eq_true rfl) (Nat.le_of_ble_eq_true rfl) (pc := 7) (by decide +kernel) (fun H1 sx => ?_)
  refine n_putF (t := 6) (k := 218) (j := 1) (index := 9) cx sx (by omega) (by decide) (show WF[218]? = some (6, 0, 218) from rfl) (by decide) rfl (by rw [show (fp 6 1 218).2.2 = 219 from rfl, cx.2.2.2.2.2.2.2.2.1 219 (by omega)]) rfl (in_t2 (List.mem_of_getElem? (i := 88) rfl) rfl) rfl rfl (fun _ => rfl) (fun _ => rfl) (pc := 9) (by decide +kernel) (fun H1 locs1 sx => ?_)
  rw [← eZ1] at sx
  refine n_ald cx hl (i := 0) (k3 := 0) (t := 6) (k := 218) (pc := 12) rfl rfl (by omega) (by decide +kernel) ?_
  refine lv_bipush cx.1.1 cx.1.2.1 (n := 6) (v := Int32.ofNat 6) (pc := 13) (by decide +kernel) (by decide) ?_
  refine n_newa (t := 20) (N := 6) (n := 220) (aty := .int) (ty := .int) (index := 0) rfl (by omega) rfl (.inl ⟨rfl, rfl⟩) cx sx (hqZ1.fz fz hm) (show WF[220]? = some (20, 6, 220) from rfl) (in_t1 (List.mem_of_getElem? (i := 124) rfl) rfl) (Nat.le_of_ble_eq_true rfl) (Nat.le_of_ble_eq_true rfl) (pc := 15) (by decide +kernel) (fun H1 sx => ?_)
  refine n_putF (t := 6) (k := 218) (j := 2) (index := 15) cx sx (by omega) (by decide) (show WF[218]? = some (6, 0, 218) from rfl) (by decide) rfl (by rw [show (fp 6 2 218).2.2 = 220 from rfl, cx.2.2.2.2.2.2.2.2.1 220 (by omega)]) rfl (in_t2 (List.mem_of_getElem? (i := 92) rfl) rfl) rfl rfl (fun _ => rfl) (fun _ => rfl) (pc := 17) (by decide +kernel) (fun H1 locs1 sx => ?_)
  rw [← eZ2] at sx
  refine n_ald cx hl (i := 0) (k3 := 0) (t := 6) (k := 218) (pc := 20) rfl rfl (by omega) (by decide +kernel) ?_
  refine lv_bipush cx.1.1 cx.1.2.1 (n := 6) (v := Int32.ofNat 6) (pc := 21) (by decide +kernel) (by decide) ?_
  refine n_newa (t := 20) (N := 6) (n := 221) (aty := .int) (ty := .int) (index := 0) rfl (by omega) rfl (.inl ⟨rfl, rfl⟩) cx sx (hqZ2.fz fz hm) (show WF[221]? = some (20, 6, 221) from rfl) (in_t1 (List.mem_of_getElem? (i := 124) rfl) rfl) (Nat.le_of_ble_eq_true rfl) (Nat.le_of_ble_eq_true rfl) (pc := 23) (by decide +kernel) (fun H1 sx => ?_)
  refine n_putF (t := 6) (k := 218) (j := 3) (index := 18) cx sx (by omega) (by decide) (show WF[218]? = some (6, 0, 218) from rfl) (by decide) rfl (by rw [show (fp 6 3 218).2.2 = 221 from rfl, cx.2.2.2.2.2.2.2.2.1 221 (by omega)]) rfl (in_t2 (List.mem_of_getElem? (i := 95) rfl) rfl) rfl rfl (fun _ => rfl) (fun _ => rfl) (pc := 25) (by decide +kernel) (fun H1 locs1 sx => ?_)
  rw [← eZ3] at sx
  refine n_ald cx hl (i := 0) (k3 := 0) (t := 6) (k := 218) (pc := 28) rfl rfl (by omega) (by decide +kernel) ?_
  refine lv_bipush cx.1.1 cx.1.2.1 (n := 6) (v := Int32.ofNat 6) (pc := 29) (by decide +kernel) (by decide) ?_
  refine n_newa (t := 20) (N := 6) (n := 222) (aty := .int) (ty := .int) (index := 0) rfl (by omega) rfl (.inl ⟨rfl, rfl⟩) cx sx (hqZ3.fz fz hm) (show WF[222]? = some (20, 6, 222) from rfl) (in_t1 (List.mem_of_getElem? (i := 124) rfl) rfl) (Nat.le_of_ble_eq_true rfl) (Nat.le_of_ble_eq_true rfl) (pc := 31) (by decide +kernel) (fun H1 sx => ?_)
  refine n_putF (t := 6) (k := 218) (j := 4) (index := 21) cx sx (by omega) (by decide) (show WF[218]? = some (6, 0, 218) from rfl) (by decide) rfl (by rw [show (fp 6 4 218).2.2 = 222 from rfl, cx.2.2.2.2.2.2.2.2.1 222 (by omega)]) rfl (in_t2 (List.mem_of_getElem? (i := 99) rfl) rfl) rfl rfl (fun _ => rfl) (fun _ => rfl) (pc := 33) (by decide +kernel) (fun H1 locs1 sx => ?_)
  rw [← eZ4] at sx
  refine n_ald cx hl (i := 0) (k3 := 0) (t := 6) (k := 218) (pc := 36) rfl rfl (by omega) (by decide +kernel) ?_
  refine lv_bipush cx.1.1 cx.1.2.1 (n := 6) (v := Int32.ofNat 6) (pc := 37) (by decide +kernel) (by decide) ?_
  refine n_newa (t := 20) (N := 6) (n := 223) (aty := .int) (ty := .int) (index := 0) rfl (by omega) rfl (.inl ⟨rfl, rfl⟩) cx sx (hqZ4.fz fz hm) (show WF[223]? = some (20, 6, 223) from rfl) (in_t1 (List.mem_of_getElem? (i := 124) rfl) rfl) (Nat.le_of_ble_eq_true rfl) (Nat.le_of_ble_eq_true rfl) (pc := 39) (by decide +kernel) (fun H1 sx => ?_)
  refine n_putF (t := 6) (k := 218) (j := 5) (index := 24) cx sx (by omega) (by decide) (show WF[218]? = some (6, 0, 218) from rfl) (by decide) rfl (by rw [show (fp 6 5 218).2.2 = 223 from rfl, cx.2.2.2.2.2.2.2.2.1 223 (by omega)]) rfl (in_t2 (List.mem_of_getElem? (i := 102) rfl) rfl) rfl rfl (fun _ => rfl) (fun _ => rfl) (pc := 41) (by decide +kernel) (fun H1 locs1 sx => ?_)
  rw [← eZ5] at sx
  refine n_ald cx hl (i := 0) (k3 := 0) (t := 6) (k := 218) (pc := 44) rfl rfl (by omega) (by decide +kernel) ?_
  refine lv_bipush cx.1.1 cx.1.2.1 (n := 6) (v := Int32.ofNat 6) (pc := 45) (by decide +kernel) (by decide) ?_
  refine n_newa (t := 20) (N := 6) (n := 224) (aty := .int) (ty := .int) (index := 0) rfl (by omega) rfl (.inl ⟨rfl, rfl⟩) cx sx (hqZ5.fz fz hm) (show WF[224]? = some (20, 6, 224) from rfl) (in_t1 (List.mem_of_getElem? (i := 124) rfl) rfl) (Nat.le_of_ble_eq_true rfl) (Nat.le_of_ble_eq_true rfl) (pc := 47) (by decide +kernel) (fun H1 sx => ?_)
  refine n_putF (t := 6) (k := 218) (j := 6) (index := 27) cx sx (by omega) (by decide) (show WF[218]? = some (6, 0, 218) from rfl) (by decide) rfl (by rw [show (fp 6 6 218).2.2 = 224 from rfl, cx.2.2.2.2.2.2.2.2.1 224 (by omega)]) rfl (in_t2 (List.mem_of_getElem? (i := 106) rfl) rfl) rfl rfl (fun _ => rfl) (fun _ => rfl) (pc := 49) (by decide +kernel) (fun H1 locs1 sx => ?_)
  rw [← eZ6] at sx
  refine n_ald cx hl (i := 0) (k3 := 0) (t := 6) (k := 218) (pc := 52) rfl rfl (by omega) (by decide +kernel) ?_
  refine n_ald cx hl (i := 1) (k3 := 1) (t := 9) (k := 3) (pc := 53) rfl rfl (by omega) (by decide +kernel) ?_
  refine n_putF (t := 6) (k := 218) (j := 10) (index := 30) cx sx (by omega) (by decide) (show WF[218]? = some (6, 0, 218) from rfl) (by decide) rfl (by rw [show (fp 6 10 218).2.2 = 3 from rfl, cx.2.2.2.2.2.2.2.2.1 3 (by omega)]) rfl (in_t2 (List.mem_of_getElem? (i := 116) rfl) rfl) rfl rfl (fun _ => rfl) (fun _ => rfl) (pc := 54) (by decide +kernel) (fun H1 locs1 sx => ?_)
  rw [← eZ7] at sx
  refine n_ald cx hl (i := 0) (k3 := 0) (t := 6) (k := 218) (pc := 57) rfl rfl (by omega) (by decide +kernel) ?_
  refine n_evI (x := 5) (t := 6) (k := 218) (index := 34) (as := []) (ks := (List.range 23).map (· + 3) ++ (List.range 7).map (· + 218)) rfl ev1 rfl (by decide +kernel) (by decide) rfl (by decide +kernel) (by decide +kernel) (Clo_of (by decide +kernel)) (WT_of (by decide +kernel)) (by decide +kernel)
    (fun i hi b => by
      rcases (show ∀ i ∈ (List.range 23).map (· + 3) ++ (List.range 7).map (· + 218), (3 ≤ i ∧ i ≤ 25) ∨ (218 ≤ i ∧ i < 225) from by decide +kernel) i hi with z | z
      · rw [pz.1 i b (.inl (by omega))]; exact hY i z.1 z.2 b
      · exact pz.2 i z.1 z.2 b) hfr (fun v hv => by rcases List.mem_singleton.mp hv with rfl; exact .inl (show ((6, 0, 218) : Ref3) ∈ wI ((List.range 23).map (· + 3) ++ (List.range 7).map (· + 218)) from by decide +kernel)) cx sx (by rw [hsz]) (by decide) hls (in_t2 (List.mem_of_getElem? (i := 77) rfl) rfl) (in_t2 (List.mem_of_getElem? (i := 78) rfl) rfl) (in_t2 (List.mem_of_getElem? (i := 79) rfl) rfl) rfl ⟨Nat.le_of_ble_eq_true rfl, Nat.le_of_ble_eq_true rfl⟩ ⟨Nat.le_of_ble_eq_true rfl, Nat.le_of_ble_eq_true rfl⟩ (Nat.le_of_ble_eq_true rfl) (pc := 58) (by decide +kernel) (fun H1 locs1 sx => ?_)
  exact n_ret cx sx (Nat.le_of_ble_eq_true rfl) (Nat.le_of_ble_eq_true rfl) (pc := 61) (by decide +kernel)
set_option maxRecDepth 20000 in
set_option maxHeartbeats 1000000 in
theorem c_State225 (fz : Fz 225 M Z) (hm : Mz 225 M) (hY : ∀ a, 3 ≤ a → a ≤ 25 → ∀ b, Z a b = false) : ∃ M' Z', CNt ⟨"IceParliament$State", "<init>", "(LIceParliament$Yard;)V"⟩ prog_8_method_1_code 2 3 6 36 [vR 6 0 225, vR 9 0 3] 226 M Z 232 M' Z' ∧ PZ 225 232 Z Z' ∧ SC (staS M.1) 225 M' ∧ Fr (fun c _ => 225 ≤ c ∧ c ≤ 225 + 6) M M' := by
  have hq : QZ 225 [] 226 Z Z := QZ.start
  have hqa := hq.arr fz (show WF[226]? = some (20, 6, 226) from rfl) (by decide)
  obtain ⟨Z1, eZ1⟩ : ∃ Z1, Z1 = uZ Z 225 1 := ⟨_, rfl⟩
  have hqZ1 := hqa.put eZ1
  have hqZ1a := hqZ1.arr fz (show WF[227]? = some (20, 6, 227) from rfl) (by decide)
  obtain ⟨Z2, eZ2⟩ : ∃ Z2, Z2 = uZ Z1 225 2 := ⟨_, rfl⟩
  have hqZ2 := hqZ1a.put eZ2
  have hqZ2a := hqZ2.arr fz (show WF[228]? = some (20, 6, 228) from rfl) (by decide)
  obtain ⟨Z3, eZ3⟩ : ∃ Z3, Z3 = uZ Z2 225 3 := ⟨_, rfl⟩
  have hqZ3 := hqZ2a.put eZ3
  have hqZ3a := hqZ3.arr fz (show WF[229]? = some (20, 6, 229) from rfl) (by decide)
  obtain ⟨Z4, eZ4⟩ : ∃ Z4, Z4 = uZ Z3 225 4 := ⟨_, rfl⟩
  have hqZ4 := hqZ3a.put eZ4
  have hqZ4a := hqZ4.arr fz (show WF[230]? = some (20, 6, 230) from rfl) (by decide)
  obtain ⟨Z5, eZ5⟩ : ∃ Z5, Z5 = uZ Z4 225 5 := ⟨_, rfl⟩
  have hqZ5 := hqZ4a.put eZ5
  have hqZ5a := hqZ5.arr fz (show WF[231]? = some (20, 6, 231) from rfl) (by decide)
  obtain ⟨Z6, eZ6⟩ : ∃ Z6, Z6 = uZ Z5 225 6 := ⟨_, rfl⟩
  have hqZ6 := hqZ5a.put eZ6
  obtain ⟨Z7, eZ7⟩ : ∃ Z7, Z7 = uZ Z6 225 10 := ⟨_, rfl⟩
  have hqZ7 := hqZ6.put eZ7
  obtain ⟨a1, M1, ev1, ha1, sc1, fr1⟩ := sp5 (d := 0) (Y := M.1) (M := M) (k := 225) ⟨rfl, rfl, rfl, rfl, rfl, rfl, rfl, rfl, rfl, rfl, rfl, rfl, rfl, rfl, rfl, rfl, rfl, rfl⟩ (by decide)
  subst ha1
  have pz := hqZ7.fin fz (show WF[225]? = some (6, 0, 225) from rfl) (by decide)
  have hfr : Fr (fun c _ => c ∈ (List.range 23).map (· + 3) ++ (List.range 7).map (· + 225)) M M1 := fr1.up (fun c j z => (show ∀ c, 225 ≤ c → c < 232 → c ∈ (List.range 23).map (· + 3) ++ (List.range 7).map (· + 225) from fun c h1 h2 => by rcases (show c = 225 ∨ c = 226 ∨ c = 227 ∨ c = 228 ∨ c = 229 ∨ c = 230 ∨ c = 231 by omega) with rfl | rfl | rfl | rfl | rfl | rfl | rfl <;> decide) c z.1 (by omega))
  refine ⟨M1, Z7, CNt_of (own := "IceParliament$State") (by decide) rfl rfl (Nat.le_of_ble_eq_true rfl) (fun B => Nat.le_add_right B _) ?_, hqZ7.fin fz (show WF[225]? = some (6, 0, 225) from rfl) (by decide), sc1, fr1⟩
  intro p l e s m args below meth c dC dI cA ρ B ls cx sx hsz hl
  have hls : ls.size = 2 := by obtain ⟨l0, h0, -⟩ := hl; exact h0.1
  refine n_ald cx hl (i := 0) (k3 := 0) (t := 6) (k := 225) (pc := 0) rfl rfl (by omega) (by decide +kernel) ?_
  refine n_obj (k := 225) (index := 3) cx hl (in_t2 (List.mem_of_getElem? (i := 76) rfl) rfl) (in_t1 (List.mem_of_getElem? (i := 33) rfl) rfl) (in_t1 (List.mem_of_getElem? (i := 34) rfl) rfl) ⟨Nat.le_of_ble_eq_true rfl, Nat.le_of_ble_eq_true rfl⟩ (by decide) (pc := 1) (by decide +kernel) ?_
  refine n_ald cx hl (i := 0) (k3 := 0) (t := 6) (k := 225) (pc := 4) rfl rfl (by omega) (by decide +kernel) ?_
  refine lv_bipush cx.1.1 cx.1.2.1 (n := 6) (v := Int32.ofNat 6) (pc := 5) (by decide +kernel) (by decide) ?_
  refine n_newa (t := 20) (N := 6) (n := 226) (aty := .int) (ty := .int) (index := 0) rfl (by omega) rfl (.inl ⟨rfl, rfl⟩) cx sx (hq.fz fz hm) (show WF[226]? = some (20, 6, 226) from rfl) (in_t1 (List.mem_of_getElem? (i := 124) rfl) rfl) (Nat.le_of_ble_eq_true rfl) (Nat.le_of_ble_eq_true rfl) (pc := 7) (by decide +kernel) (fun H1 sx => ?_)
  refine n_putF (t := 6) (k := 225) (j := 1) (index := 9) cx sx (by omega) (by decide) (show WF[225]? = some (6, 0, 225) from rfl) (by decide) rfl (by rw [show (fp 6 1 225).2.2 = 226 from rfl, cx.2.2.2.2.2.2.2.2.1 226 (by omega)]) rfl (in_t2 (List.mem_of_getElem? (i := 88) rfl) rfl) rfl rfl (fun _ => rfl) (fun _ => rfl) (pc := 9) (by decide +kernel) (fun H1 locs1 sx => ?_)
  rw [← eZ1] at sx
  refine n_ald cx hl (i := 0) (k3 := 0) (t := 6) (k := 225) (pc := 12) rfl rfl (by omega) (by decide +kernel) ?_
  refine lv_bipush cx.1.1 cx.1.2.1 (n := 6) (v := Int32.ofNat 6) (pc := 13) (by decide +kernel) (by decide) ?_
  refine n_newa (t := 20) (N := 6) (n := 227) (aty := .int) (ty := .int) (index := 0) rfl (by omega) rfl (.inl ⟨rfl, rfl⟩) cx sx (hqZ1.fz fz hm) (show WF[227]? = some (20, 6, 227) from rfl) (in_t1 (List.mem_of_getElem? (i := 124) rfl) rfl) (Nat.le_of_ble_eq_true rfl) (Nat.le_of_ble_eq_true rfl) (pc := 15) (by decide +kernel) (fun H1 sx => ?_)
  refine n_putF (t := 6) (k := 225) (j := 2) (index := 15) cx sx (by omega) (by decide) (show WF[225]? = some (6, 0, 225) from rfl) (by decide) rfl (by rw [show (fp 6 2 225).2.2 = 227 from rfl, cx.2.2.2.2.2.2.2.2.1 227 (by omega)]) rfl (in_t2 (List.mem_of_getElem? (i := 92) rfl) rfl) rfl rfl (fun _ => rfl) (fun _ => rfl) (pc := 17) (by decide +kernel) (fun H1 locs1 sx => ?_)
  rw [← eZ2] at sx
  refine n_ald cx hl (i := 0) (k3 := 0) (t := 6) (k := 225) (pc := 20) rfl rfl (by omega) (by decide +kernel) ?_
  refine lv_bipush cx.1.1 cx.1.2.1 (n := 6) (v := Int32.ofNat 6) (pc := 21) (by decide +kernel) (by decide) ?_
  refine n_newa (t := 20) (N := 6) (n := 228) (aty := .int) (ty := .int) (index := 0) rfl (by omega) rfl (.inl ⟨rfl, rfl⟩) cx sx (hqZ2.fz fz hm) (show WF[228]? = some (20, 6, 228) from rfl) (in_t1 (List.mem_of_getElem? (i := 124) rfl) rfl) (Nat.le_of_ble_eq_true rfl) (Nat.le_of_ble_eq_true rfl) (pc := 23) (by decide +kernel) (fun H1 sx => ?_)
  refine n_putF (t := 6) (k := 225) (j := 3) (index := 18) cx sx (by omega) (by decide) (show WF[225]? = some (6, 0, 225) from rfl) (by decide) rfl (by rw [show (fp 6 3 225).2.2 = 228 from rfl, cx.2.2.2.2.2.2.2.2.1 228 (by omega)]) rfl (in_t2 (List.mem_of_getElem? (i := 95) rfl) rfl) rfl rfl (fun _ => rfl) (fun _ => rfl) (pc := 25) (by decide +kernel) (fun H1 locs1 sx => ?_)
  rw [← eZ3] at sx
  refine n_ald cx hl (i := 0) (k3 := 0) (t := 6) (k := 225) (pc := 28) rfl rfl (by omega) (by decide +kernel) ?_
  refine lv_bipush cx.1.1 cx.1.2.1 (n := 6) (v := Int32.ofNat 6) (pc := 29) (by decide +kernel) (by decide) ?_
  refine n_newa (t := 20) (N := 6) (n := 229) (aty := .int) (ty := .int) (index := 0) rfl (by omega) rfl (.inl ⟨rfl, rfl⟩) cx sx (hqZ3.fz fz hm) (show WF[229]? = some (20, 6, 229) from rfl) (in_t1 (List.mem_of_getElem? (i := 124) rfl) rfl) (Nat.le_of_ble_eq_true rfl) (Nat.le_of_ble_eq_true rfl) (pc := 31) (by decide +kernel) (fun H1 sx => ?_)
  refine n_putF (t := 6) (k := 225) (j := 4) (index := 21) cx sx (by omega) (by decide) (show WF[225]? = some (6, 0, 225) from rfl) (by decide) rfl (by rw [show (fp 6 4 225).2.2 = 229 from rfl, cx.2.2.2.2.2.2.2.2.1 229 (by omega)]) rfl (in_t2 (List.mem_of_getElem? (i := 99) rfl) rfl) rfl rfl (fun _ => rfl) (fun _ => rfl) (pc := 33) (by decide +kernel) (fun H1 locs1 sx => ?_)
  rw [← eZ4] at sx
  refine n_ald cx hl (i := 0) (k3 := 0) (t := 6) (k := 225) (pc := 36) rfl rfl (by omega) (by decide +kernel) ?_
  refine lv_bipush cx.1.1 cx.1.2.1 (n := 6) (v := Int32.ofNat 6) (pc := 37) (by decide +kernel) (by decide) ?_
  refine n_newa (t := 20) (N := 6) (n := 230) (aty := .int) (ty := .int) (index := 0) rfl (by omega) rfl (.inl ⟨rfl, rfl⟩) cx sx (hqZ4.fz fz hm) (show WF[230]? = some (20, 6, 230) from rfl) (in_t1 (List.mem_of_getElem? (i := 124) rfl) rfl) (Nat.le_of_ble_eq_true rfl) (Nat.le_of_ble_eq_true rfl) (pc := 39) (by decide +kernel) (fun H1 sx => ?_)
  refine n_putF (t := 6) (k := 225) (j := 5) (index := 24) cx sx (by omega) (by decide) (show WF[225]? = some (6, 0, 225) from rfl) (by decide) rfl (by rw [show (fp 6 5 225).2.2 = 230 from rfl, cx.2.2.2.2.2.2.2.2.1 230 (by omega)]) rfl (in_t2 (List.mem_of_getElem? (i := 102) rfl) rfl) rfl rfl (fun _ => rfl) (fun _ => rfl) (pc := 41) (by decide +kernel) (fun H1 locs1 sx => ?_)
  rw [← eZ5] at sx
  refine n_ald cx hl (i := 0) (k3 := 0) (t := 6) (k := 225) (pc := 44) rfl rfl (by omega) (by decide +kernel) ?_
  refine lv_bipush cx.1.1 cx.1.2.1 (n := 6) (v := Int32.ofNat 6) (pc := 45) (by decide +kernel) (by decide) ?_
  refine n_newa (t := 20) (N := 6) (n := 231) (aty := .int) (ty := .int) (index := 0) rfl (by omega) rfl (.inl ⟨rfl, rfl⟩) cx sx (hqZ5.fz fz hm) (show WF[231]? = some (20, 6, 231) from rfl) (in_t1 (List.mem_of_getElem? (i := 124) rfl) rfl) (Nat.le_of_ble_eq_true rfl) (Nat.le_of_ble_eq_true rfl) (pc := 47) (by decide +kernel) (fun H1 sx => ?_)
  refine n_putF (t := 6) (k := 225) (j := 6) (index := 27) cx sx (by omega) (by decide) (show WF[225]? = some (6, 0, 225) from rfl) (by decide) rfl (by rw [show (fp 6 6 225).2.2 = 231 from rfl, cx.2.2.2.2.2.2.2.2.1 231 (by omega)]) rfl (in_t2 (List.mem_of_getElem? (i := 106) rfl) rfl) rfl rfl (fun _ => rfl) (fun _ => rfl) (pc := 49) (by decide +kernel) (fun H1 locs1 sx => ?_)
  rw [← eZ6] at sx
  refine n_ald cx hl (i := 0) (k3 := 0) (t := 6) (k := 225) (pc := 52) rfl rfl (by omega) (by decide +kernel) ?_
  refine n_ald cx hl (i := 1) (k3 := 1) (t := 9) (k := 3) (pc := 53) rfl rfl (by omega) (by decide +kernel) ?_
  refine n_putF (t := 6) (k := 225) (j := 10) (index := 30) cx sx (by omega) (by decide) (show WF[225]? = some (6, 0, 225) from rfl) (by decide) rfl (by rw [show (fp 6 10 225).2.2 = 3 from rfl, cx.2.2.2.2.2.2.2.2.1 3 (by omega)]) rfl (in_t2 (List.mem_of_getElem? (i := 116) rfl) rfl) rfl rfl (fun _ => rfl) (fun _ => rfl) (pc := 54) (by decide +kernel) (fun H1 locs1 sx => ?_)
  rw [← eZ7] at sx
  refine n_ald cx hl (i := 0) (k3 := 0) (t := 6) (k := 225) (pc := 57) rfl rfl (by omega) (by decide +kernel) ?_
  refine n_evI (x := 5) (t := 6) (k := 225) (index := 34) (as := []) (ks := (List.range 23).map (· + 3) ++ (List.range 7).map (· + 225)) rfl ev1 rfl (by decide +kernel) (by decide) rfl (by decide +kernel) (by decide +kernel) (Clo_of (by decide +kernel)) (WT_of (by decide +kernel)) (by decide +kernel)
    (fun i hi b => by
      rcases (show ∀ i ∈ (List.range 23).map (· + 3) ++ (List.range 7).map (· + 225), (3 ≤ i ∧ i ≤ 25) ∨ (225 ≤ i ∧ i < 232) from by decide +kernel) i hi with z | z
      · rw [pz.1 i b (.inl (by omega))]; exact hY i z.1 z.2 b
      · exact pz.2 i z.1 z.2 b) hfr (fun v hv => by rcases List.mem_singleton.mp hv with rfl; exact .inl (show ((6, 0, 225) : Ref3) ∈ wI ((List.range 23).map (· + 3) ++ (List.range 7).map (· + 225)) from by decide +kernel)) cx sx (by rw [hsz]) (by decide) hls (in_t2 (List.mem_of_getElem? (i := 77) rfl) rfl) (in_t2 (List.mem_of_getElem? (i := 78) rfl) rfl) (in_t2 (List.mem_of_getElem? (i := 79) rfl) rfl) rfl ⟨Nat.le_of_ble_eq_true rfl, Nat.le_of_ble_eq_true rfl⟩ ⟨Nat.le_of_ble_eq_true rfl, Nat.le_of_ble_eq_true rfl⟩ (Nat.le_of_ble_eq_true rfl) (pc := 58) (by decide +kernel) (fun H1 locs1 sx => ?_)
  exact n_ret cx sx (Nat.le_of_ble_eq_true rfl) (Nat.le_of_ble_eq_true rfl) (pc := 61) (by decide +kernel)
set_option maxRecDepth 20000 in
set_option maxHeartbeats 1000000 in
theorem c_State232 (fz : Fz 232 M Z) (hm : Mz 232 M) (hY : ∀ a, 3 ≤ a → a ≤ 25 → ∀ b, Z a b = false) : ∃ M' Z', CNt ⟨"IceParliament$State", "<init>", "(LIceParliament$Yard;)V"⟩ prog_8_method_1_code 2 3 6 36 [vR 6 0 232, vR 9 0 3] 233 M Z 239 M' Z' ∧ PZ 232 239 Z Z' ∧ SC (staS M.1) 232 M' ∧ Fr (fun c _ => 232 ≤ c ∧ c ≤ 232 + 6) M M' := by
  have hq : QZ 232 [] 233 Z Z := QZ.start
  have hqa := hq.arr fz (show WF[233]? = some (20, 6, 233) from rfl) (by decide)
  obtain ⟨Z1, eZ1⟩ : ∃ Z1, Z1 = uZ Z 232 1 := ⟨_, rfl⟩
  have hqZ1 := hqa.put eZ1
  have hqZ1a := hqZ1.arr fz (show WF[234]? = some (20, 6, 234) from rfl) (by decide)
  obtain ⟨Z2, eZ2⟩ : ∃ Z2, Z2 = uZ Z1 232 2 := ⟨_, rfl⟩
  have hqZ2 := hqZ1a.put eZ2
  have hqZ2a := hqZ2.arr fz (show WF[235]? = some (20, 6, 235) from rfl) (by decide)
  obtain ⟨Z3, eZ3⟩ : ∃ Z3, Z3 = uZ Z2 232 3 := ⟨_, rfl⟩
  have hqZ3 := hqZ2a.put eZ3
  have hqZ3a := hqZ3.arr fz (show WF[236]? = some (20, 6, 236) from rfl) (by decide)
  obtain ⟨Z4, eZ4⟩ : ∃ Z4, Z4 = uZ Z3 232 4 := ⟨_, rfl⟩
  have hqZ4 := hqZ3a.put eZ4
  have hqZ4a := hqZ4.arr fz (show WF[237]? = some (20, 6, 237) from rfl) (by decide)
  obtain ⟨Z5, eZ5⟩ : ∃ Z5, Z5 = uZ Z4 232 5 := ⟨_, rfl⟩
  have hqZ5 := hqZ4a.put eZ5
  have hqZ5a := hqZ5.arr fz (show WF[238]? = some (20, 6, 238) from rfl) (by decide)
  obtain ⟨Z6, eZ6⟩ : ∃ Z6, Z6 = uZ Z5 232 6 := ⟨_, rfl⟩
  have hqZ6 := hqZ5a.put eZ6
  obtain ⟨Z7, eZ7⟩ : ∃ Z7, Z7 = uZ Z6 232 10 := ⟨_, rfl⟩
  have hqZ7 := hqZ6.put eZ7
  obtain ⟨a1, M1, ev1, ha1, sc1, fr1⟩ := sp5 (d := 0) (Y := M.1) (M := M) (k := 232) ⟨rfl, rfl, rfl, rfl, rfl, rfl, rfl, rfl, rfl, rfl, rfl, rfl, rfl, rfl, rfl, rfl, rfl, rfl⟩ (by decide)
  subst ha1
  have pz := hqZ7.fin fz (show WF[232]? = some (6, 0, 232) from rfl) (by decide)
  have hfr : Fr (fun c _ => c ∈ (List.range 23).map (· + 3) ++ (List.range 7).map (· + 232)) M M1 := fr1.up (fun c j z => (show ∀ c, 232 ≤ c → c < 239 → c ∈ (List.range 23).map (· + 3) ++ (List.range 7).map (· + 232) from fun c h1 h2 => by rcases (show c = 232 ∨ c = 233 ∨ c = 234 ∨ c = 235 ∨ c = 236 ∨ c = 237 ∨ c = 238 by omega) with rfl | rfl | rfl | rfl | rfl | rfl | rfl <;> decide) c z.1 (by omega))
  refine ⟨M1, Z7, CNt_of (own := "IceParliament$State") (by decide) rfl rfl (Nat.le_of_ble_eq_true rfl) (fun B => Nat.le_add_right B _) ?_, hqZ7.fin fz (show WF[232]? = some (6, 0, 232) from rfl) (by decide), sc1, fr1⟩
  intro p l e s m args below meth c dC dI cA ρ B ls cx sx hsz hl
  have hls : ls.size = 2 := by obtain ⟨l0, h0, -⟩ := hl; exact h0.1
  refine n_ald cx hl (i := 0) (k3 := 0) (t := 6) (k := 232) (pc := 0) rfl rfl (by omega) (by decide +kernel) ?_
  refine n_obj (k := 232) (index := 3) cx hl (in_t2 (List.mem_of_getElem? (i := 76) rfl) rfl) (in_t1 (List.mem_of_getElem? (i := 33) rfl) rfl) (in_t1 (List.mem_of_getElem? (i := 34) rfl) rfl) ⟨Nat.le_of_ble_eq_true rfl, Nat.le_of_ble_eq_true rfl⟩ (by decide) (pc := 1) (by decide +kernel) ?_
  refine n_ald cx hl (i := 0) (k3 := 0) (t := 6) (k := 232) (pc := 4) rfl rfl (by omega) (by decide +kernel) ?_
  refine lv_bipush cx.1.1 cx.1.2.1 (n := 6) (v := Int32.ofNat 6) (pc := 5) (by decide +kernel) (by decide) ?_
  refine n_newa (t := 20) (N := 6) (n := 233) (aty := .int) (ty := .int) (index := 0) rfl (by omega) rfl (.inl ⟨rfl, rfl⟩) cx sx (hq.fz fz hm) (show WF[233]? = some (20, 6, 233) from rfl) (in_t1 (List.mem_of_getElem? (i := 124) rfl) rfl) (Nat.le_of_ble_eq_true rfl) (Nat.le_of_ble_eq_true rfl) (pc := 7) (by decide +kernel) (fun H1 sx => ?_)
  refine n_putF (t := 6) (k := 232) (j := 1) (index := 9) cx sx (by omega) (by decide) (show WF[232]? = some (6, 0, 232) from rfl) (by decide) rfl (by rw [show (fp 6 1 232).2.2 = 233 from rfl, cx.2.2.2.2.2.2.2.2.1 233 (by omega)]) rfl (in_t2 (List.mem_of_getElem? (i := 88) rfl) rfl) rfl rfl (fun _ => rfl) (fun _ => rfl) (pc := 9) (by decide +kernel) (fun H1 locs1 sx => ?_)
  rw [← eZ1] at sx
  refine n_ald cx hl (i := 0) (k3 := 0) (t := 6) (k := 232) (pc := 12) rfl rfl (by omega) (by decide +kernel) ?_
  refine lv_bipush cx.1.1 cx.1.2.1 (n := 6) (v := Int32.ofNat 6) (pc := 13) (by decide +kernel) (by decide) ?_
  refine n_newa (t := 20) (N := 6) (n := 234) (aty := .int) (ty := .int) (index := 0) rfl (by omega) rfl (.inl ⟨rfl, rfl⟩) cx sx (hqZ1.fz fz hm) (show WF[234]? = some (20, 6, 234) from rfl) (in_t1 (List.mem_of_getElem? (i := 124) rfl) rfl) (Nat.le_of_ble_eq_true rfl) (Nat.le_of_ble_eq_true rfl) (pc := 15) (by decide +kernel) (fun H1 sx => ?_)
  refine n_putF (t := 6) (k := 232) (j := 2) (index := 15) cx sx (by omega) (by decide) (show WF[232]? = some (6, 0, 232) from rfl) (by decide) rfl (by rw [show (fp 6 2 232).2.2 = 234 from rfl, cx.2.2.2.2.2.2.2.2.1 234 (by omega)]) rfl (in_t2 (List.mem_of_getElem? (i := 92) rfl) rfl) rfl rfl (fun _ => rfl) (fun _ => rfl) (pc := 17) (by decide +kernel) (fun H1 locs1 sx => ?_)
  rw [← eZ2] at sx
  refine n_ald cx hl (i := 0) (k3 := 0) (t := 6) (k := 232) (pc := 20) rfl rfl (by omega) (by decide +kernel) ?_
  refine lv_bipush cx.1.1 cx.1.2.1 (n := 6) (v := Int32.ofNat 6) (pc := 21) (by decide +kernel) (by decide) ?_
  refine n_newa (t := 20) (N := 6) (n := 235) (aty := .int) (ty := .int) (index := 0) rfl (by omega) rfl (.inl ⟨rfl, rfl⟩) cx sx (hqZ2.fz fz hm) (show WF[235]? = some (20, 6, 235) from rfl) (in_t1 (List.mem_of_getElem? (i := 124) rfl) rfl) (Nat.le_of_ble_eq_true rfl) (Nat.le_of_ble_eq_true rfl) (pc := 23) (by decide +kernel) (fun H1 sx => ?_)
  refine n_putF (t := 6) (k := 232) (j := 3) (index := 18) cx sx (by omega) (by decide) (show WF[232]? = some (6, 0, 232) from rfl) (by decide) rfl (by rw [show (fp 6 3 232).2.2 = 235 from rfl, cx.2.2.2.2.2.2.2.2.1 235 (by omega)]) rfl (in_t2 (List.mem_of_getElem? (i := 95) rfl) rfl) rfl rfl (fun _ => rfl) (fun _ => rfl) (pc := 25) (by decide +kernel) (fun H1 locs1 sx => ?_)
  rw [← eZ3] at sx
  refine n_ald cx hl (i := 0) (k3 := 0) (t := 6) (k := 232) (pc := 28) rfl rfl (by omega) (by decide +kernel) ?_
  refine lv_bipush cx.1.1 cx.1.2.1 (n := 6) (v := Int32.ofNat 6) (pc := 29) (by decide +kernel) (by decide) ?_
  refine n_newa (t := 20) (N := 6) (n := 236) (aty := .int) (ty := .int) (index := 0) rfl (by omega) rfl (.inl ⟨rfl, rfl⟩) cx sx (hqZ3.fz fz hm) (show WF[236]? = some (20, 6, 236) from rfl) (in_t1 (List.mem_of_getElem? (i := 124) rfl) rfl) (Nat.le_of_ble_eq_true rfl) (Nat.le_of_ble_eq_true rfl) (pc := 31) (by decide +kernel) (fun H1 sx => ?_)
  refine n_putF (t := 6) (k := 232) (j := 4) (index := 21) cx sx (by omega) (by decide) (show WF[232]? = some (6, 0, 232) from rfl) (by decide) rfl (by rw [show (fp 6 4 232).2.2 = 236 from rfl, cx.2.2.2.2.2.2.2.2.1 236 (by omega)]) rfl (in_t2 (List.mem_of_getElem? (i := 99) rfl) rfl) rfl rfl (fun _ => rfl) (fun _ => rfl) (pc := 33) (by decide +kernel) (fun H1 locs1 sx => ?_)
  rw [← eZ4] at sx
  refine n_ald cx hl (i := 0) (k3 := 0) (t := 6) (k := 232) (pc := 36) rfl rfl (by omega) (by decide +kernel) ?_
  refine lv_bipush cx.1.1 cx.1.2.1 (n := 6) (v := Int32.ofNat 6) (pc := 37) (by decide +kernel) (by decide) ?_
  refine n_newa (t := 20) (N := 6) (n := 237) (aty := .int) (ty := .int) (index := 0) rfl (by omega) rfl (.inl ⟨rfl, rfl⟩) cx sx (hqZ4.fz fz hm) (show WF[237]? = some (20, 6, 237) from rfl) (in_t1 (List.mem_of_getElem? (i := 124) rfl) rfl) (Nat.le_of_ble_eq_true rfl) (Nat.le_of_ble_eq_true rfl) (pc := 39) (by decide +kernel) (fun H1 sx => ?_)
  refine n_putF (t := 6) (k := 232) (j := 5) (index := 24) cx sx (by omega) (by decide) (show WF[232]? = some (6, 0, 232) from rfl) (by decide) rfl (by rw [show (fp 6 5 232).2.2 = 237 from rfl, cx.2.2.2.2.2.2.2.2.1 237 (by omega)]) rfl (in_t2 (List.mem_of_getElem? (i := 102) rfl) rfl) rfl rfl (fun _ => rfl) (fun _ => rfl) (pc := 41) (by decide +kernel) (fun H1 locs1 sx => ?_)
  rw [← eZ5] at sx
  refine n_ald cx hl (i := 0) (k3 := 0) (t := 6) (k := 232) (pc := 44) rfl rfl (by omega) (by decide +kernel) ?_
  refine lv_bipush cx.1.1 cx.1.2.1 (n := 6) (v := Int32.ofNat 6) (pc := 45) (by decide +kernel) (by decide) ?_
  refine n_newa (t := 20) (N := 6) (n := 238) (aty := .int) (ty := .int) (index := 0) rfl (by omega) rfl (.inl ⟨rfl, rfl⟩) cx sx (hqZ5.fz fz hm) (show WF[238]? = some (20, 6, 238) from rfl) (in_t1 (List.mem_of_getElem? (i := 124) rfl) rfl) (Nat.le_of_ble_eq_true rfl) (Nat.le_of_ble_eq_true rfl) (pc := 47) (by decide +kernel) (fun H1 sx => ?_)
  refine n_putF (t := 6) (k := 232) (j := 6) (index := 27) cx sx (by omega) (by decide) (show WF[232]? = some (6, 0, 232) from rfl) (by decide) rfl (by rw [show (fp 6 6 232).2.2 = 238 from rfl, cx.2.2.2.2.2.2.2.2.1 238 (by omega)]) rfl (in_t2 (List.mem_of_getElem? (i := 106) rfl) rfl) rfl rfl (fun _ => rfl) (fun _ => rfl) (pc := 49) (by decide +kernel) (fun H1 locs1 sx => ?_)
  rw [← eZ6] at sx
  refine n_ald cx hl (i := 0) (k3 := 0) (t := 6) (k := 232) (pc := 52) rfl rfl (by omega) (by decide +kernel) ?_
  refine n_ald cx hl (i := 1) (k3 := 1) (t := 9) (k := 3) (pc := 53) rfl rfl (by omega) (by decide +kernel) ?_
  refine n_putF (t := 6) (k := 232) (j := 10) (index := 30) cx sx (by omega) (by decide) (show WF[232]? = some (6, 0, 232) from rfl) (by decide) rfl (by rw [show (fp 6 10 232).2.2 = 3 from rfl, cx.2.2.2.2.2.2.2.2.1 3 (by omega)]) rfl (in_t2 (List.mem_of_getElem? (i := 116) rfl) rfl) rfl rfl (fun _ => rfl) (fun _ => rfl) (pc := 54) (by decide +kernel) (fun H1 locs1 sx => ?_)
  rw [← eZ7] at sx
  refine n_ald cx hl (i := 0) (k3 := 0) (t := 6) (k := 232) (pc := 57) rfl rfl (by omega) (by decide +kernel) ?_
  refine n_evI (x := 5) (t := 6) (k := 232) (index := 34) (as := []) (ks := (List.range 23).map (· + 3) ++ (List.range 7).map (· + 232)) rfl ev1 rfl (by decide +kernel) (by decide) rfl (by decide +kernel) (by decide +kernel) (Clo_of (by decide +kernel)) (WT_of (by decide +kernel)) (by decide +kernel)
    (fun i hi b => by
      rcases (show ∀ i ∈ (List.range 23).map (· + 3) ++ (List.range 7).map (· + 232), (3 ≤ i ∧ i ≤ 25) ∨ (232 ≤ i ∧ i < 239) from by decide +kernel) i hi with z | z
      · rw [pz.1 i b (.inl (by omega))]; exact hY i z.1 z.2 b
      · exact pz.2 i z.1 z.2 b) hfr (fun v hv => by rcases List.mem_singleton.mp hv with rfl; exact .inl (show ((6, 0, 232) : Ref3) ∈ wI ((List.range 23).map (· + 3) ++ (List.range 7).map (· + 232)) from by decide +kernel)) cx sx (by rw [hsz]) (by decide) hls (in_t2 (List.mem_of_getElem? (i := 77) rfl) rfl) (in_t2 (List.mem_of_getElem? (i := 78) rfl) rfl) (in_t2 (List.mem_of_getElem? (i := 79) rfl) rfl) rfl ⟨Nat.le_of_ble_eq_true rfl, Nat.le_of_ble_eq_true rfl⟩ ⟨Nat.le_of_ble_eq_true rfl, Nat.le_of_ble_eq_true rfl⟩ (Nat.le_of_ble_eq_true rfl) (pc := 58) (by decide +kernel) (fun H1 locs1 sx => ?_)
  exact n_ret cx sx (Nat.le_of_ble_eq_true rfl) (Nat.le_of_ble_eq_true rfl) (pc := 61) (by decide +kernel)
set_option maxRecDepth 20000 in
set_option maxHeartbeats 1000000 in
theorem c_State239 (fz : Fz 239 M Z) (hm : Mz 239 M) (hY : ∀ a, 3 ≤ a → a ≤ 25 → ∀ b, Z a b = false) : ∃ M' Z', CNt ⟨"IceParliament$State", "<init>", "(LIceParliament$Yard;)V"⟩ prog_8_method_1_code 2 3 6 36 [vR 6 0 239, vR 9 0 3] 240 M Z 246 M' Z' ∧ PZ 239 246 Z Z' ∧ SC (staS M.1) 239 M' ∧ Fr (fun c _ => 239 ≤ c ∧ c ≤ 239 + 6) M M' := by
  have hq : QZ 239 [] 240 Z Z := QZ.start
  have hqa := hq.arr fz (show WF[240]? = some (20, 6, 240) from rfl) (by decide)
  obtain ⟨Z1, eZ1⟩ : ∃ Z1, Z1 = uZ Z 239 1 := ⟨_, rfl⟩
  have hqZ1 := hqa.put eZ1
  have hqZ1a := hqZ1.arr fz (show WF[241]? = some (20, 6, 241) from rfl) (by decide)
  obtain ⟨Z2, eZ2⟩ : ∃ Z2, Z2 = uZ Z1 239 2 := ⟨_, rfl⟩
  have hqZ2 := hqZ1a.put eZ2
  have hqZ2a := hqZ2.arr fz (show WF[242]? = some (20, 6, 242) from rfl) (by decide)
  obtain ⟨Z3, eZ3⟩ : ∃ Z3, Z3 = uZ Z2 239 3 := ⟨_, rfl⟩
  have hqZ3 := hqZ2a.put eZ3
  have hqZ3a := hqZ3.arr fz (show WF[243]? = some (20, 6, 243) from rfl) (by decide)
  obtain ⟨Z4, eZ4⟩ : ∃ Z4, Z4 = uZ Z3 239 4 := ⟨_, rfl⟩
  have hqZ4 := hqZ3a.put eZ4
  have hqZ4a := hqZ4.arr fz (show WF[244]? = some (20, 6, 244) from rfl) (by decide)
  obtain ⟨Z5, eZ5⟩ : ∃ Z5, Z5 = uZ Z4 239 5 := ⟨_, rfl⟩
  have hqZ5 := hqZ4a.put eZ5
  have hqZ5a := hqZ5.arr fz (show WF[245]? = some (20, 6, 245) from rfl) (by decide)
  obtain ⟨Z6, eZ6⟩ : ∃ Z6, Z6 = uZ Z5 239 6 := ⟨_, rfl⟩
  have hqZ6 := hqZ5a.put eZ6
  obtain ⟨Z7, eZ7⟩ : ∃ Z7, Z7 = uZ Z6 239 10 := ⟨_, rfl⟩
  have hqZ7 := hqZ6.put eZ7
  obtain ⟨a1, M1, ev1, ha1, sc1, fr1⟩ := sp5 (d := 0) (Y := M.1) (M := M) (k := 239) ⟨rfl, rfl, rfl, rfl, rfl, rfl, rfl, rfl, rfl, rfl, rfl, rfl, rfl, rfl, rfl, rfl, rfl, rfl⟩ (by decide)
  subst ha1
  have pz := hqZ7.fin fz (show WF[239]? = some (6, 0, 239) from rfl) (by decide)
  have hfr : Fr (fun c _ => c ∈ (List.range 23).map (· + 3) ++ (List.range 7).map (· + 239)) M M1 := fr1.up (fun c j z => (show ∀ c, 239 ≤ c → c < 246 → c ∈ (List.range 23).map (· + 3) ++ (List.range 7).map (· + 239) from fun c h1 h2 => by rcases (show c = 239 ∨ c = 240 ∨ c = 241 ∨ c = 242 ∨ c = 243 ∨ c = 244 ∨ c = 245 by omega) with rfl | rfl | rfl | rfl | rfl | rfl | rfl <;> decide) c z.1 (by omega))
  refine ⟨M1, Z7, CNt_of (own := "IceParliament$State") (by decide) rfl rfl (Nat.le_of_ble_eq_true rfl) (fun B => Nat.le_add_right B _) ?_, hqZ7.fin fz (show WF[239]? = some (6, 0, 239) from rfl) (by decide), sc1, fr1⟩
  intro p l e s m args below meth c dC dI cA ρ B ls cx sx hsz hl
  have hls : ls.size = 2 := by obtain ⟨l0, h0, -⟩ := hl; exact h0.1
  refine n_ald cx hl (i := 0) (k3 := 0) (t := 6) (k := 239) (pc := 0) rfl rfl (by omega) (by decide +kernel) ?_
  refine n_obj (k := 239) (index := 3) cx hl (in_t2 (List.mem_of_getElem? (i := 76) rfl) rfl) (in_t1 (List.mem_of_getElem? (i := 33) rfl) rfl) (in_t1 (List.mem_of_getElem? (i := 34) rfl) rfl) ⟨Nat.le_of_ble_eq_true rfl, Nat.le_of_ble_eq_true rfl⟩ (by decide) (pc := 1) (by decide +kernel) ?_
  refine n_ald cx hl (i := 0) (k3 := 0) (t := 6) (k := 239) (pc := 4) rfl rfl (by omega) (by decide +kernel) ?_
  refine lv_bipush cx.1.1 cx.1.2.1 (n := 6) (v := Int32.ofNat 6) (pc := 5) (by decide +kernel) (by decide) ?_
  refine n_newa (t := 20) (N := 6) (n := 240) (aty := .int) (ty := .int) (index := 0) rfl (by omega) rfl (.inl ⟨rfl, rfl⟩) cx sx (hq.fz fz hm) (show WF[240]? = some (20, 6, 240) from rfl) (in_t1 (List.mem_of_getElem? (i := 124) rfl) rfl) (Nat.le_of_ble_eq_true rfl) (Nat.le_of_ble_eq_true rfl) (pc := 7) (by decide +kernel) (fun H1 sx => ?_)
  refine n_putF (t := 6) (k := 239) (j := 1) (index := 9) cx sx (by omega) (by decide) (show WF[239]? = some (6, 0, 239) from rfl) (by decide) rfl (by rw [show (fp 6 1 239).2.2 = 240 from rfl, cx.2.2.2.2.2.2.2.2.1 240 (by omega)]) rfl (in_t2 (List.mem_of_getElem? (i := 88) rfl) rfl) rfl rfl (fun _ => rfl) (fun _ => rfl) (pc := 9) (by decide +kernel) (fun H1 locs1 sx => ?_)
  rw [← eZ1] at sx
  refine n_ald cx hl (i := 0) (k3 := 0) (t := 6) (k := 239) (pc := 12) rfl rfl (by omega) (by decide +kernel) ?_
  refine lv_bipush cx.1.1 cx.1.2.1 (n := 6) (v := Int32.ofNat 6) (pc := 13) (by decide +kernel) (by decide) ?_
  refine n_newa (t := 20) (N := 6) (n := 241) (aty := .int) (ty := .int) (index := 0) rfl (by omega) rfl (.inl ⟨rfl, rfl⟩) cx sx (hqZ1.fz fz hm) (show WF[241]? = some (20, 6, 241) from rfl) (in_t1 (List.mem_of_getElem? (i := 124) rfl) rfl) (Nat.le_of_ble_eq_true rfl) (Nat.le_of_ble_eq_true rfl) (pc := 15) (by decide +kernel) (fun H1 sx => ?_)
  refine n_putF (t := 6) (k := 239) (j := 2) (index := 15) cx sx (by omega) (by decide) (show WF[239]? = some (6, 0, 239) from rfl) (by decide) rfl (by rw [show (fp 6 2 239).2.2 = 241 from rfl, cx.2.2.2.2.2.2.2.2.1 241 (by omega)]) rfl (in_t2 (List.mem_of_getElem? (i := 92) rfl) rfl) rfl rfl (fun _ => rfl) (fun _ => rfl) (pc := 17) (by decide +kernel) (fun H1 locs1 sx => ?_)
  rw [← eZ2] at sx
  refine n_ald cx hl (i := 0) (k3 := 0) (t := 6) (k := 239) (pc := 20) rfl rfl (by omega) (by decide +kernel) ?_
  refine lv_bipush cx.1.1 cx.1.2.1 (n := 6) (v := Int32.ofNat 6) (pc := 21) (by decide +kernel) (by decide) ?_
  refine n_newa (t := 20) (N := 6) (n := 242) (aty := .int) (ty := .int) (index := 0) rfl (by omega) rfl (.inl ⟨rfl, rfl⟩) cx sx (hqZ2.fz fz hm) (show WF[242]? = some (20, 6, 242) from rfl) (in_t1 (List.mem_of_getElem? (i := 124) rfl) rfl) (Nat.le_of_ble_eq_true rfl) (Nat.le_of_ble_eq_true rfl) (pc := 23) (by decide +kernel) (fun H1 sx => ?_)
  refine n_putF (t := 6) (k := 239) (j := 3) (index := 18) cx sx (by omega) (by decide) (show WF[239]? = some (6, 0, 239) from rfl) (by decide) rfl (by rw [show (fp 6 3 239).2.2 = 242 from rfl, cx.2.2.2.2.2.2.2.2.1 242 (by omega)]) rfl (in_t2 (List.mem_of_getElem? (i := 95) rfl) rfl) rfl rfl (fun _ => rfl) (fun _ => rfl) (pc := 25) (by decide +kernel) (fun H1 locs1 sx => ?_)
  rw [← eZ3] at sx
  refine n_ald cx hl (i := 0) (k3 := 0) (t := 6) (k := 239) (pc := 28) rfl rfl (by omega) (by decide +kernel) ?_
  refine lv_bipush cx.1.1 cx.1.2.1 (n := 6) (v := Int32.ofNat 6) (pc := 29) (by decide +kernel) (by decide) ?_
  refine n_newa (t := 20) (N := 6) (n := 243) (aty := .int) (ty := .int) (index := 0) rfl (by omega) rfl (.inl ⟨rfl, rfl⟩) cx sx (hqZ3.fz fz hm) (show WF[243]? = some (20, 6, 243) from rfl) (in_t1 (List.mem_of_getElem? (i := 124) rfl) rfl) (Nat.le_of_ble_eq_true rfl) (Nat.le_of_ble_eq_true rfl) (pc := 31) (by decide +kernel) (fun H1 sx => ?_)
  refine n_putF (t := 6) (k := 239) (j := 4) (index := 21) cx sx (by omega) (by decide) (show WF[239]? = some (6, 0, 239) from rfl) (by decide) rfl (by rw [show (fp 6 4 239).2.2 = 243 from rfl, cx.2.2.2.2.2.2.2.2.1 243 (by omega)]) rfl (in_t2 (List.mem_of_getElem? (i := 99) rfl) rfl) rfl rfl (fun _ => rfl) (fun _ => rfl) (pc := 33) (by decide +kernel) (fun H1 locs1 sx => ?_)
  rw [← eZ4] at sx
  refine n_ald cx hl (i := 0) (k3 := 0) (t := 6) (k := 239) (pc := 36) rfl rfl (by omega) (by decide +kernel) ?_
  refine lv_bipush cx.1.1 cx.1.2.1 (n := 6) (v := Int32.ofNat 6) (pc := 37) (by decide +kernel) (by decide) ?_
  refine n_newa (t := 20) (N := 6) (n := 244) (aty := .int) (ty := .int) (index := 0) rfl (by omega) rfl (.inl ⟨rfl, rfl⟩) cx sx (hqZ4.fz fz hm) (show WF[244]? = some (20, 6, 244) from rfl) (in_t1 (List.mem_of_getElem? (i := 124) rfl) rfl) (Nat.le_of_ble_eq_true rfl) (Nat.le_of_ble_eq_true rfl) (pc := 39) (by decide +kernel) (fun H1 sx => ?_)
  refine n_putF (t := 6) (k := 239) (j := 5) (index := 24) cx sx (by omega) (by decide) (show WF[239]? = some (6, 0, 239) from rfl) (by decide) rfl (by rw [show (fp 6 5 239).2.2 = 244 from rfl, cx.2.2.2.2.2.2.2.2.1 244 (by omega)]) rfl (in_t2 (List.mem_of_getElem? (i := 102) rfl) rfl) rfl rfl (fun _ => rfl) (fun _ => rfl) (pc := 41) (by decide +kernel) (fun H1 locs1 sx => ?_)
  rw [← eZ5] at sx
  refine n_ald cx hl (i := 0) (k3 := 0) (t := 6) (k := 239) (pc := 44) rfl rfl (by omega) (by decide +kernel) ?_
  refine lv_bipush cx.1.1 cx.1.2.1 (n := 6) (v := Int32.ofNat 6) (pc := 45) (by decide +kernel) (by decide) ?_
  refine n_newa (t := 20) (N := 6) (n := 245) (aty := .int) (ty := .int) (index := 0) rfl (by omega) rfl (.inl ⟨rfl, rfl⟩) cx sx (hqZ5.fz fz hm) (show WF[245]? = some (20, 6, 245) from rfl) (in_t1 (List.mem_of_getElem? (i := 124) rfl) rfl) (Nat.le_of_ble_eq_true rfl) (Nat.le_of_ble_eq_true rfl) (pc := 47) (by decide +kernel) (fun H1 sx => ?_)
  refine n_putF (t := 6) (k := 239) (j := 6) (index := 27) cx sx (by omega) (by decide) (show WF[239]? = some (6, 0, 239) from rfl) (by decide) rfl (by rw [show (fp 6 6 239).2.2 = 245 from rfl, cx.2.2.2.2.2.2.2.2.1 245 (by omega)]) rfl (in_t2 (List.mem_of_getElem? (i := 106) rfl) rfl) rfl rfl (fun _ => rfl) (fun _ => rfl) (pc := 49) (by decide +kernel) (fun H1 locs1 sx => ?_)
  rw [← eZ6] at sx
  refine n_ald cx hl (i := 0) (k3 := 0) (t := 6) (k := 239) (pc := 52) rfl rfl (by omega) (by decide +kernel) ?_
  refine n_ald cx hl (i := 1) (k3 := 1) (t := 9) (k := 3) (pc := 53) rfl rfl (by omega) (by decide +kernel) ?_
  refine n_putF (t := 6) (k := 239) (j := 10) (index := 30) cx sx (by omega) (by decide) (show WF[239]? = some (6, 0, 239) from rfl) (by decide) rfl (by rw [show (fp 6 10 239).2.2 = 3 from rfl, cx.2.2.2.2.2.2.2.2.1 3 (by omega)]) rfl (in_t2 (List.mem_of_getElem? (i := 116) rfl) rfl) rfl rfl (fun _ => rfl) (fun _ => rfl) (pc := 54) (by decide +kernel) (fun H1 locs1 sx => ?_)
  rw [← eZ7] at sx
  refine n_ald cx hl (i := 0) (k3 := 0) (t := 6) (k := 239) (pc := 57) rfl rfl (by omega) (by decide +kernel) ?_
  refine n_evI (x := 5) (t := 6) (k := 239) (index := 34) (as := []) (ks := (List.range 23).map (· + 3) ++ (List.range 7).map (· + 239)) rfl ev1 rfl (by decide +kernel) (by decide) rfl (by decide +kernel) (by decide +kernel) (Clo_of (by decide +kernel)) (WT_of (by decide +kernel)) (by decide +kernel)
    (fun i hi b => by
      rcases (show ∀ i ∈ (List.range 23).map (· + 3) ++ (List.range 7).map (· + 239), (3 ≤ i ∧ i ≤ 25) ∨ (239 ≤ i ∧ i < 246) from by decide +kernel) i hi with z | z
      · rw [pz.1 i b (.inl (by omega))]; exact hY i z.1 z.2 b
      · exact pz.2 i z.1 z.2 b) hfr (fun v hv => by rcases List.mem_singleton.mp hv with rfl; exact .inl (show ((6, 0, 239) : Ref3) ∈ wI ((List.range 23).map (· + 3) ++ (List.range 7).map (· + 239)) from by decide +kernel)) cx sx (by rw [hsz]) (by decide) hls (in_t2 (List.mem_of_getElem? (i := 77) rfl) rfl) (in_t2 (List.mem_of_getElem? (i := 78) rfl) rfl) (in_t2 (List.mem_of_getElem? (i := 79) rfl) rfl) rfl ⟨Nat.le_of_ble_eq_true rfl, Nat.le_of_ble_eq_true rfl⟩ ⟨Nat.le_of_ble_eq_true rfl, Nat.le_of_ble_eq_true rfl⟩ (Nat.le_of_ble_eq_true rfl) (pc := 58) (by decide +kernel) (fun H1 locs1 sx => ?_)
  exact n_ret cx sx (Nat.le_of_ble_eq_true rfl) (Nat.le_of_ble_eq_true rfl) (pc := 61) (by decide +kernel)
set_option maxRecDepth 20000 in
set_option maxHeartbeats 1000000 in
theorem c_State246 (fz : Fz 246 M Z) (hm : Mz 246 M) (hY : ∀ a, 3 ≤ a → a ≤ 25 → ∀ b, Z a b = false) : ∃ M' Z', CNt ⟨"IceParliament$State", "<init>", "(LIceParliament$Yard;)V"⟩ prog_8_method_1_code 2 3 6 36 [vR 6 0 246, vR 9 0 3] 247 M Z 253 M' Z' ∧ PZ 246 253 Z Z' ∧ SC (staS M.1) 246 M' ∧ Fr (fun c _ => 246 ≤ c ∧ c ≤ 246 + 6) M M' := by
  have hq : QZ 246 [] 247 Z Z := QZ.start
  have hqa := hq.arr fz (show WF[247]? = some (20, 6, 247) from rfl) (by decide)
  obtain ⟨Z1, eZ1⟩ : ∃ Z1, Z1 = uZ Z 246 1 := ⟨_, rfl⟩
  have hqZ1 := hqa.put eZ1
  have hqZ1a := hqZ1.arr fz (show WF[248]? = some (20, 6, 248) from rfl) (by decide)
  obtain ⟨Z2, eZ2⟩ : ∃ Z2, Z2 = uZ Z1 246 2 := ⟨_, rfl⟩
  have hqZ2 := hqZ1a.put eZ2
  have hqZ2a := hqZ2.arr fz (show WF[249]? = some (20, 6, 249) from rfl) (by decide)
  obtain ⟨Z3, eZ3⟩ : ∃ Z3, Z3 = uZ Z2 246 3 := ⟨_, rfl⟩
  have hqZ3 := hqZ2a.put eZ3
  have hqZ3a := hqZ3.arr fz (show WF[250]? = some (20, 6, 250) from rfl) (by decide)
  obtain ⟨Z4, eZ4⟩ : ∃ Z4, Z4 = uZ Z3 246 4 := ⟨_, rfl⟩
  have hqZ4 := hqZ3a.put eZ4
  have hqZ4a := hqZ4.arr fz (show WF[251]? = some (20, 6, 251) from rfl) (by decide)
  obtain ⟨Z5, eZ5⟩ : ∃ Z5, Z5 = uZ Z4 246 5 := ⟨_, rfl⟩
  have hqZ5 := hqZ4a.put eZ5
  have hqZ5a := hqZ5.arr fz (show WF[252]? = some (20, 6, 252) from rfl) (by decide)
  obtain ⟨Z6, eZ6⟩ : ∃ Z6, Z6 = uZ Z5 246 6 := ⟨_, rfl⟩
  have hqZ6 := hqZ5a.put eZ6
  obtain ⟨Z7, eZ7⟩ : ∃ Z7, Z7 = uZ Z6 246 10 := ⟨_, rfl⟩
  have hqZ7 := hqZ6.put eZ7
  obtain ⟨a1, M1, ev1, ha1, sc1, fr1⟩ := sp5 (d := 0) (Y := M.1) (M := M) (k := 246) ⟨rfl, rfl, rfl, rfl, rfl, rfl, rfl, rfl, rfl, rfl, rfl, rfl, rfl, rfl, rfl, rfl, rfl, rfl⟩ (by decide)
  subst ha1
  have pz := hqZ7.fin fz (show WF[246]? = some (6, 0, 246) from rfl) (by decide)
  have hfr : Fr (fun c _ => c ∈ (List.range 23).map (· + 3) ++ (List.range 7).map (· + 246)) M M1 := fr1.up (fun c j z => (show ∀ c, 246 ≤ c → c < 253 → c ∈ (List.range 23).map (· + 3) ++ (List.range 7).map (· + 246) from fun c h1 h2 => by rcases (show c = 246 ∨ c = 247 ∨ c = 248 ∨ c = 249 ∨ c = 250 ∨ c = 251 ∨ c = 252 by omega) with rfl | rfl | rfl | rfl | rfl | rfl | rfl <;> decide) c z.1 (by omega))
  refine ⟨M1, Z7, CNt_of (own := "IceParliament$State") (by decide) rfl rfl (Nat.le_of_ble_eq_true rfl) (fun B => Nat.le_add_right B _) ?_, hqZ7.fin fz (show WF[246]? = some (6, 0, 246) from rfl) (by decide), sc1, fr1⟩
  intro p l e s m args below meth c dC dI cA ρ B ls cx sx hsz hl
  have hls : ls.size = 2 := by obtain ⟨l0, h0, -⟩ := hl; exact h0.1
  refine n_ald cx hl (i := 0) (k3 := 0) (t := 6) (k := 246) (pc := 0) rfl rfl (by omega) (by decide +kernel) ?_
  refine n_obj (k := 246) (index := 3) cx hl (in_t2 (List.mem_of_getElem? (i := 76) rfl) rfl) (in_t1 (List.mem_of_getElem? (i := 33) rfl) rfl) (in_t1 (List.mem_of_getElem? (i := 34) rfl) rfl) ⟨Nat.le_of_ble_eq_true rfl, Nat.le_of_ble_eq_true rfl⟩ (by decide) (pc := 1) (by decide +kernel) ?_
  refine n_ald cx hl (i := 0) (k3 := 0) (t := 6) (k := 246) (pc := 4) rfl rfl (by omega) (by decide +kernel) ?_
  refine lv_bipush cx.1.1 cx.1.2.1 (n := 6) (v := Int32.ofNat 6) (pc := 5) (by decide +kernel) (by decide) ?_
  refine n_newa (t := 20) (N := 6) (n := 247) (aty := .int) (ty := .int) (index := 0) rfl (by omega) rfl (.inl ⟨rfl, rfl⟩) cx sx (hq.fz fz hm) (show WF[247]? = some (20, 6, 247) from rfl) (in_t1 (List.mem_of_getElem? (i := 124) rfl) rfl) (Nat.le_of_ble_eq_true rfl) (Nat.le_of_ble_eq_true rfl) (pc := 7) (by decide +kernel) (fun H1 sx => ?_)
  refine n_putF (t := 6) (k := 246) (j := 1) (index := 9) cx sx (by omega) (by decide) (show WF[246]? = some (6, 0, 246) from rfl) (by decide) rfl (by rw [show (fp 6 1 246).2.2 = 247 from rfl, cx.2.2.2.2.2.2.2.2.1 247 (by omega)]) rfl (in_t2 (List.mem_of_getElem? (i := 88) rfl) rfl) rfl rfl (fun _ => rfl) (fun _ => rfl) (pc := 9) (by decide +kernel) (fun H1 locs1 sx => ?_)
  rw [← eZ1] at sx
  refine n_ald cx hl (i := 0) (k3 := 0) (t := 6) (k := 246) (pc := 12) rfl rfl (by omega) (by decide +kernel) ?_
  refine lv_bipush cx.1.1 cx.1.2.1 (n := 6) (v := Int32.ofNat 6) (pc := 13) (by decide +kernel) (by decide) ?_
  refine n_newa (t := 20) (N := 6) (n := 248) (aty := .int) (ty := .int) (index := 0) rfl (by omega) rfl (.inl ⟨rfl, rfl⟩) cx sx (hqZ1.fz fz hm) (show WF[248]? = some (20, 6, 248) from rfl) (in_t1 (List.mem_of_getElem? (i := 124) rfl) rfl) (Nat.le_of_ble_eq_true rfl) (Nat.le_of_ble_eq_true rfl) (pc := 15) (by decide +kernel) (fun H1 sx => ?_)
  refine n_putF (t := 6) (k := 246) (j := 2) (index := 15) cx sx (by omega) (by decide) (show WF[246]? = some (6, 0, 246) from rfl) (by decide) rfl (by rw [show (fp 6 2 246).2.2 = 248 from rfl, cx.2.2.2.2.2.2.2.2.1 248 (by omega)]) rfl (in_t2 (List.mem_of_getElem? (i := 92) rfl) rfl) rfl rfl (fun _ => rfl) (fun _ => rfl) (pc := 17) (by decide +kernel) (fun H1 locs1 sx => ?_)
  rw [← eZ2] at sx
  refine n_ald cx hl (i := 0) (k3 := 0) (t := 6) (k := 246) (pc := 20) rfl rfl (by omega) (by decide +kernel) ?_
  refine lv_bipush cx.1.1 cx.1.2.1 (n := 6) (v := Int32.ofNat 6) (pc := 21) (by decide +kernel) (by decide) ?_
  refine n_newa (t := 20) (N := 6) (n := 249) (aty := .int) (ty := .int) (index := 0) rfl (by omega) rfl (.inl ⟨rfl, rfl⟩) cx sx (hqZ2.fz fz hm) (show WF[249]? = some (20, 6, 249) from rfl) (in_t1 (List.mem_of_getElem? (i := 124) rfl) rfl) (Nat.le_of_ble_eq_true rfl) (Nat.le_of_ble_eq_true rfl) (pc := 23) (by decide +kernel) (fun H1 sx => ?_)
  refine n_putF (t := 6) (k := 246) (j := 3) (index := 18) cx sx (by omega) (by decide) (show WF[246]? = some (6, 0, 246) from rfl) (by decide) rfl (by rw [show (fp 6 3 246).2.2 = 249 from rfl, cx.2.2.2.2.2.2.2.2.1 249 (by omega)]) rfl (in_t2 (List.mem_of_getElem? (i := 95) rfl) rfl) rfl rfl (fun _ => rfl) (fun _ => rfl) (pc := 25) (by decide +kernel) (fun H1 locs1 sx => ?_)
  rw [← eZ3] at sx
  refine n_ald cx hl (i := 0) (k3 := 0) (t := 6) (k := 246) (pc := 28) rfl rfl (by omega) (by decide +kernel) ?_
  refine lv_bipush cx.1.1 cx.1.2.1 (n := 6) (v := Int32.ofNat 6) (pc := 29) (by decide +kernel) (by decide) ?_
  refine n_newa (t := 20) (N := 6) (n := 250) (aty := .int) (ty := .int) (index := 0) rfl (by omega) rfl (.inl ⟨rfl, rfl⟩) cx sx (hqZ3.fz fz hm) (show WF[250]? = some (20, 6, 250) from rfl) (in_t1 (List.mem_of_getElem? (i := 124) rfl) rfl) (Nat.le_of_ble_eq_true rfl) (Nat.le_of_ble_eq_true rfl) (pc := 31) (by decide +kernel) (fun H1 sx => ?_)
  refine n_putF (t := 6) (k := 246) (j := 4) (index := 21) cx sx (by omega) (by decide) (show WF[246]? = some (6, 0, 246) from rfl) (by decide) rfl (by rw [show (fp 6 4 246).2.2 = 250 from rfl, cx.2.2.2.2.2.2.2.2.1 250 (by omega)]) rfl (in_t2 (List.mem_of_getElem? (i := 99) rfl) rfl) rfl rfl (fun _ => rfl) (fun _ => rfl) (pc := 33) (by decide +kernel) (fun H1 locs1 sx => ?_)
  rw [← eZ4] at sx
  refine n_ald cx hl (i := 0) (k3 := 0) (t := 6) (k := 246) (pc := 36) rfl rfl (by omega) (by decide +kernel) ?_
  refine lv_bipush cx.1.1 cx.1.2.1 (n := 6) (v := Int32.ofNat 6) (pc := 37) (by decide +kernel) (by decide) ?_
  refine n_newa (t := 20) (N := 6) (n := 251) (aty := .int) (ty := .int) (index := 0) rfl (by omega) rfl (.inl ⟨rfl, rfl⟩) cx sx (hqZ4.fz fz hm) (show WF[251]? = some (20, 6, 251) from rfl) (in_t1 (List.mem_of_getElem? (i := 124) rfl) rfl) (Nat.le_of_ble_eq_true rfl) (Nat.le_of_ble_eq_true rfl) (pc := 39) (by decide +kernel) (fun H1 sx => ?_)
  refine n_putF (t := 6) (k := 246) (j := 5) (index := 24) cx sx (by omega) (by decide) (show WF[246]? = some (6, 0, 246) from rfl) (by decide) rfl (by rw [show (fp 6 5 246).2.2 = 251 from rfl, cx.2.2.2.2.2.2.2.2.1 251 (by omega)]) rfl (in_t2 (List.mem_of_getElem? (i := 102) rfl) rfl) rfl rfl (fun _ => rfl) (fun _ => rfl) (pc := 41) (by decide +kernel) (fun H1 locs1 sx => ?_)
  rw [← eZ5] at sx
  refine n_ald cx hl (i := 0) (k3 := 0) (t := 6) (k := 246) (pc := 44) rfl rfl (by omega) (by decide +kernel) ?_
  refine lv_bipush cx.1.1 cx.1.2.1 (n := 6) (v := Int32.ofNat 6) (pc := 45) (by decide +kernel) (by decide) ?_
  refine n_newa (t := 20) (N := 6) (n := 252) (aty := .int) (ty := .int) (index := 0) rfl (by omega) rfl (.inl ⟨rfl, rfl⟩) cx sx (hqZ5.fz fz hm) (show WF[252]? = some (20, 6, 252) from rfl) (in_t1 (List.mem_of_getElem? (i := 124) rfl) rfl) (Nat.le_of_ble_eq_true rfl) (Nat.le_of_ble_eq_true rfl) (pc := 47) (by decide +kernel) (fun H1 sx => ?_)
  refine n_putF (t := 6) (k := 246) (j := 6) (index := 27) cx sx (by omega) (by decide) (show WF[246]? = some (6, 0, 246) from rfl) (by decide) rfl (by rw [show (fp 6 6 246).2.2 = 252 from rfl, cx.2.2.2.2.2.2.2.2.1 252 (by omega)]) rfl (in_t2 (List.mem_of_getElem? (i := 106) rfl) rfl) rfl rfl (fun _ => rfl) (fun _ => rfl) (pc := 49) (by decide +kernel) (fun H1 locs1 sx => ?_)
  rw [← eZ6] at sx
  refine n_ald cx hl (i := 0) (k3 := 0) (t := 6) (k := 246) (pc := 52) rfl rfl (by omega) (by decide +kernel) ?_
  refine n_ald cx hl (i := 1) (k3 := 1) (t := 9) (k := 3) (pc := 53) rfl rfl (by omega) (by decide +kernel) ?_
  refine n_putF (t := 6) (k := 246) (j := 10) (index := 30) cx sx (by omega) (by decide) (show WF[246]? = some (6, 0, 246) from rfl) (by decide) rfl (by rw [show (fp 6 10 246).2.2 = 3 from rfl, cx.2.2.2.2.2.2.2.2.1 3 (by omega)]) rfl (in_t2 (List.mem_of_getElem? (i := 116) rfl) rfl) rfl rfl (fun _ => rfl) (fun _ => rfl) (pc := 54) (by decide +kernel) (fun H1 locs1 sx => ?_)
  rw [← eZ7] at sx
  refine n_ald cx hl (i := 0) (k3 := 0) (t := 6) (k := 246) (pc := 57) rfl rfl (by omega) (by decide +kernel) ?_
  refine n_evI (x := 5) (t := 6) (k := 246) (index := 34) (as := []) (ks := (List.range 23).map (· + 3) ++ (List.range 7).map (· + 246)) rfl ev1 rfl (by decide +kernel) (by decide) rfl (by decide +kernel) (by decide +kernel) (Clo_of (by decide +kernel)) (WT_of (by decide +kernel)) (by decide +kernel)
    (fun i hi b => by
      rcases (show ∀ i ∈ (List.range 23).map (· + 3) ++ (List.range 7).map (· + 246), (3 ≤ i ∧ i ≤ 25) ∨ (246 ≤ i ∧ i < 253) from by decide +kernel) i hi with z | z
      · rw [pz.1 i b (.inl (by omega))]; exact hY i z.1 z.2 b
      · exact pz.2 i z.1 z.2 b) hfr (fun v hv => by rcases List.mem_singleton.mp hv with rfl; exact .inl (show ((6, 0, 246) : Ref3) ∈ wI ((List.range 23).map (· + 3) ++ (List.range 7).map (· + 246)) from by decide +kernel)) cx sx (by rw [hsz]) (by decide) hls (in_t2 (List.mem_of_getElem? (i := 77) rfl) rfl) (in_t2 (List.mem_of_getElem? (i := 78) rfl) rfl) (in_t2 (List.mem_of_getElem? (i := 79) rfl) rfl) rfl ⟨Nat.le_of_ble_eq_true rfl, Nat.le_of_ble_eq_true rfl⟩ ⟨Nat.le_of_ble_eq_true rfl, Nat.le_of_ble_eq_true rfl⟩ (Nat.le_of_ble_eq_true rfl) (pc := 58) (by decide +kernel) (fun H1 locs1 sx => ?_)
  exact n_ret cx sx (Nat.le_of_ble_eq_true rfl) (Nat.le_of_ble_eq_true rfl) (pc := 61) (by decide +kernel)
end NCON2
