/-! CONSTRUCTORS with what they call, by a program (gen98c.py) -/
section NCON2
variable {M M' : Mem} {Z Z' : Zs}
set_option maxRecDepth 20000 in
set_option maxHeartbeats 1000000 in
theorem c_Yard3 (fz : Fz 3 M Z) (hm : Mz 3 M) : ∃ M' Z', CNt ⟨"IceParliament$Yard", "<init>", "()V"⟩ prog_11_method_1_code 1 3 22 2164 [vR 9 0 3] 4 M Z 26 M' Z' ∧ PZ 3 26 Z Z' ∧ Fr (fun c _ => 3 ≤ c ∧ c ≤ 25) M M' ∧ M'.1 4 0 = 0 ∧ M'.1 6 0 = 0 ∧ M'.1 8 0 = 0 ∧ (∀ a, a < 6 → M'.1 18 a = 0) ∧ M'.1 3 12 = 0 ∧ M'.1 3 14 = 0 ∧ M'.1 3 15 = 0 ∧ LCd 20 dM none M' ∧ LCd 23 dK none M' := by
  have hq : QZ 3 [] 4 Z Z := QZ.start
  obtain ⟨Z1, cc1, p1⟩ := c_Roll (M := M) (Z := Z) (k := 4) (by omega) (show WF[4]? = some (4, 0, 4) from rfl) (show WF[5]? = some (23, 6, 5) from rfl) ((hq.fz fz hm).le (Nat.le_refl _)) ((hq.fz fz hm).mz)
  have hqZ1 := hq.sub p1 (by omega)
  obtain ⟨Z2, eZ2⟩ : ∃ Z2, Z2 = uZ Z1 3 0 := ⟨_, rfl⟩
  have hqZ2 := hqZ1.put eZ2
  obtain ⟨Z3, cc2, p2⟩ := c_Roll (M := M) (Z := Z2) (k := 6) (by omega) (show WF[6]? = some (4, 0, 6) from rfl) (show WF[7]? = some (23, 6, 7) from rfl) ((hqZ2.fz fz hm).le (Nat.le_refl _)) ((hqZ2.fz fz hm).mz)
  have hqZ3 := hqZ2.sub p2 (by omega)
  obtain ⟨Z4, eZ4⟩ : ∃ Z4, Z4 = uZ Z3 3 1 := ⟨_, rfl⟩
  have hqZ4 := hqZ3.put eZ4
  obtain ⟨Z5, cc3, p3⟩ := c_Roll (M := M) (Z := Z4) (k := 8) (by omega) (show WF[8]? = some (4, 0, 8) from rfl) (show WF[9]? = some (23, 6, 9) from rfl) ((hqZ4.fz fz hm).le (Nat.le_refl _)) ((hqZ4.fz fz hm).mz)
  have hqZ5 := hqZ4.sub p3 (by omega)
  obtain ⟨Z6, eZ6⟩ : ∃ Z6, Z6 = uZ Z5 3 2 := ⟨_, rfl⟩
  have hqZ6 := hqZ5.put eZ6
  have hqZ6a := hqZ6.arr fz (show WF[10]? = some (20, 6, 10) from rfl) (by decide)
  obtain ⟨Z7, eZ7⟩ : ∃ Z7, Z7 = uZ Z6 3 3 := ⟨_, rfl⟩
  have hqZ7 := hqZ6a.put eZ7
  have hqZ7a := hqZ7.arr fz (show WF[11]? = some (20, 6, 11) from rfl) (by decide)
  obtain ⟨Z8, eZ8⟩ : ∃ Z8, Z8 = uZ Z7 3 4 := ⟨_, rfl⟩
  have hqZ8 := hqZ7a.put eZ8
  have hqZ8a := hqZ8.arr fz (show WF[12]? = some (20, 6, 12) from rfl) (by decide)
  obtain ⟨Z9, eZ9⟩ : ∃ Z9, Z9 = uZ Z8 3 5 := ⟨_, rfl⟩
  have hqZ9 := hqZ8a.put eZ9
  have hqZ9a := hqZ9.arr fz (show WF[13]? = some (20, 6, 13) from rfl) (by decide)
  obtain ⟨Z10, eZ10⟩ : ∃ Z10, Z10 = uZ Z9 3 6 := ⟨_, rfl⟩
  have hqZ10 := hqZ9a.put eZ10
  have hqZ10a := hqZ10.arr fz (show WF[14]? = some (20, 6, 14) from rfl) (by decide)
  obtain ⟨Z11, eZ11⟩ : ∃ Z11, Z11 = uZ Z10 3 7 := ⟨_, rfl⟩
  have hqZ11 := hqZ10a.put eZ11
  have hqZ11a := hqZ11.arr fz (show WF[15]? = some (20, 6, 15) from rfl) (by decide)
  obtain ⟨Z12, eZ12⟩ : ∃ Z12, Z12 = uZ Z11 3 8 := ⟨_, rfl⟩
  have hqZ12 := hqZ11a.put eZ12
  have hqZ12a := hqZ12.arr fz (show WF[16]? = some (20, 6, 16) from rfl) (by decide)
  obtain ⟨Z13, eZ13⟩ : ∃ Z13, Z13 = uZ Z12 3 9 := ⟨_, rfl⟩
  have hqZ13 := hqZ12a.put eZ13
  have hqZ13a := hqZ13.arr fz (show WF[17]? = some (20, 6, 17) from rfl) (by decide)
  obtain ⟨Z14, eZ14⟩ : ∃ Z14, Z14 = uZ Z13 3 10 := ⟨_, rfl⟩
  have hqZ14 := hqZ13a.put eZ14
  have hqZ14a := hqZ14.arr fz (show WF[18]? = some (20, 6, 18) from rfl) (by decide)
  obtain ⟨Z15, eZ15⟩ : ∃ Z15, Z15 = uZ Z14 3 11 := ⟨_, rfl⟩
  have hqZ15 := hqZ14a.put eZ15
  have hqZ15a := hqZ15.arr fz (show WF[19]? = some (20, 14, 19) from rfl) (by decide)
  obtain ⟨Z16, eZ16⟩ : ∃ Z16, Z16 = uZ Z15 3 13 := ⟨_, rfl⟩
  have hqZ16 := hqZ15a.put eZ16
  obtain ⟨Z17, cc4, p4⟩ := c_Law (M := M) (Z := Z16) (k := 20) (by omega) (show WF[20]? = some (1, 0, 20) from rfl) (show WF[21]? = some (20, 1000, 21) from rfl) (show WF[22]? = some (20, 32, 22) from rfl) ((hqZ16.fz fz hm).le (Nat.le_refl _)) ((hqZ16.fz fz hm).mz)
  have hqZ17 := hqZ16.sub p4 (by omega)
  obtain ⟨Z18, eZ18⟩ : ∃ Z18, Z18 = uZ Z17 3 16 := ⟨_, rfl⟩
  have hqZ18 := hqZ17.put eZ18
  obtain ⟨Z19, cc5, p5⟩ := c_Law (M := M) (Z := Z18) (k := 23) (by omega) (show WF[23]? = some (1, 0, 23) from rfl) (show WF[24]? = some (20, 1000, 24) from rfl) (show WF[25]? = some (20, 32, 25) from rfl) ((hqZ18.fz fz hm).le (Nat.le_refl _)) ((hqZ18.fz fz hm).mz)
  have hqZ19 := hqZ18.sub p5 (by omega)
  obtain ⟨Z20, eZ20⟩ : ∃ Z20, Z20 = uZ Z19 3 17 := ⟨_, rfl⟩
  have hqZ20 := hqZ19.put eZ20
  obtain ⟨a1, M1, ev1, ha1, fr1, fa1⟩ := sp0e (d := 0) (M := M)
  subst ha1
  have pz := hqZ20.fin fz (show WF[3]? = some (9, 0, 3) from rfl) (by decide)
  have hfr : Fr (fun c _ => c ∈ (List.range 23).map (· + 3)) M M1 := fr1.up (fun c j z => (show ∀ c, 3 ≤ c → c < 26 → c ∈ (List.range 23).map (· + 3) from fun c h1 h2 => by rcases (show c = 3 ∨ c = 4 ∨ c = 5 ∨ c = 6 ∨ c = 7 ∨ c = 8 ∨ c = 9 ∨ c = 10 ∨ c = 11 ∨ c = 12 ∨ c = 13 ∨ c = 14 ∨ c = 15 ∨ c = 16 ∨ c = 17 ∨ c = 18 ∨ c = 19 ∨ c = 20 ∨ c = 21 ∨ c = 22 ∨ c = 23 ∨ c = 24 ∨ c = 25 by omega) with rfl | rfl | rfl | rfl | rfl | rfl | rfl | rfl | rfl | rfl | rfl | rfl | rfl | rfl | rfl | rfl | rfl | rfl | rfl | rfl | rfl | rfl | rfl <;> decide) c z.1 (by omega))
  refine ⟨M1, Z20, CNt_of (own := "IceParliament$Yard") (by decide) rfl rfl (Nat.le_of_ble_eq_true rfl) (fun B => Nat.le_add_right B _) ?_, hqZ20.fin fz (show WF[3]? = some (9, 0, 3) from rfl) (by decide), fr1, fa1⟩
  intro p l e s m args below meth c dC dI cA ρ B ls cx sx hsz hl
  have hls : ls.size = 1 := by obtain ⟨l0, h0, -⟩ := hl; exact h0.1
  refine n_ald cx hl (i := 0) (k3 := 0) (t := 9) (k := 3) (pc := 0) rfl rfl (by omega) (by decide +kernel) ?_
  refine n_obj (k := 3) (index := 3) cx hl (in_t1 (List.mem_of_getElem? (i := 82) rfl) rfl) (in_t1 (List.mem_of_getElem? (i := 33) rfl) rfl) (in_t1 (List.mem_of_getElem? (i := 34) rfl) rfl) ⟨Nat.le_of_ble_eq_true rfl, Nat.le_of_ble_eq_true rfl⟩ (by decide) (pc := 1) (by decide +kernel) ?_
  refine n_ald cx hl (i := 0) (k3 := 0) (t := 9) (k := 3) (pc := 4) rfl rfl (by omega) (by decide +kernel) ?_
  refine n_new (t := 4) (n := 4) (index := 9) cx sx (hq.fz fz hm) (by decide) (show WF[4]? = some (4, 0, 4) from rfl) (in_t1 (List.mem_of_getElem? (i := 83) rfl) rfl) (in_t1 (List.mem_of_getElem? (i := 84) rfl) rfl) (in_t1 (List.mem_of_getElem? (i := 4) rfl) rfl) (Nat.le_of_ble_eq_true rfl) (Nat.le_of_ble_eq_true rfl) (pc := 5) (by decide +kernel) (fun H1 sx => ?_)
  refine lv_dup cx.1.1 cx.1.2.1 (pc := 8) (by decide +kernel) rfl ?_
  refine n_init (t := 4) (k := 4) (index := 11) (as := []) cc1 cx sx (by omega) hls (in_t1 (List.mem_of_getElem? (i := 87) rfl) rfl) (in_t1 (List.mem_of_getElem? (i := 4) rfl) rfl) (.inr ⟨"IceParliament$Roll", by decide, rfl⟩) (in_t1 (List.mem_of_getElem? (i := 86) rfl) rfl) rfl ⟨by decide, by decide, rfl⟩ ⟨Nat.le_of_ble_eq_true rfl, Nat.le_of_ble_eq_true rfl⟩ ⟨Nat.le_of_ble_eq_true rfl, Nat.le_of_ble_eq_true rfl⟩ (Nat.le_of_ble_eq_true rfl) (pc := 9) (by decide +kernel) (fun H1 locs1 sx => ?_)
  refine n_putF (t := 9) (k := 3) (j := 0) (index := 12) cx sx (by omega) (by decide) (show WF[3]? = some (9, 0, 3) from rfl) (by decide) rfl (by rw [show (fp 9 0 3).2.2 = 4 from rfl, cx.2.2.2.2.2.2.2.2.1 4 (by omega)]) rfl (in_t1 (List.mem_of_getElem? (i := 144) rfl) rfl) rfl rfl (fun _ => rfl) (fun _ => rfl) (pc := 12) (by decide +kernel) (fun H1 locs1 sx => ?_)
  rw [← eZ2] at sx
  refine n_ald cx hl (i := 0) (k3 := 0) (t := 9) (k := 3) (pc := 15) rfl rfl (by omega) (by decide +kernel) ?_
  refine n_new (t := 4) (n := 6) (index := 9) cx sx (hqZ2.fz fz hm) (by decide) (show WF[6]? = some (4, 0, 6) from rfl) (in_t1 (List.mem_of_getElem? (i := 83) rfl) rfl) (in_t1 (List.mem_of_getElem? (i := 84) rfl) rfl) (in_t1 (List.mem_of_getElem? (i := 4) rfl) rfl) (Nat.le_of_ble_eq_true rfl) (Nat.le_of_ble_eq_true rfl) (pc := 16) (by decide +kernel) (fun H1 sx => ?_)
  refine lv_dup cx.1.1 cx.1.2.1 (pc := 19) (by decide +kernel) rfl ?_
  refine n_init (t := 4) (k := 6) (index := 11) (as := []) cc2 cx sx (by omega) hls (in_t1 (List.mem_of_getElem? (i := 87) rfl) rfl) (in_t1 (List.mem_of_getElem? (i := 4) rfl) rfl) (.inr ⟨"IceParliament$Roll", by decide, rfl⟩) (in_t1 (List.mem_of_getElem? (i := 86) rfl) rfl) rfl ⟨by decide, by decide, rfl⟩ ⟨Nat.le_of_ble_eq_true rfl, Nat.le_of_ble_eq_true rfl⟩ ⟨Nat.le_of_ble_eq_true rfl, Nat.le_of_ble_eq_true rfl⟩ (Nat.le_of_ble_eq_true rfl) (pc := 20) (by decide +kernel) (fun H1 locs1 sx => ?_)
  refine n_putF (t := 9) (k := 3) (j := 1) (index := 18) cx sx (by omega) (by decide) (show WF[3]? = some (9, 0, 3) from rfl) (by decide) rfl (by rw [show (fp 9 1 3).2.2 = 6 from rfl, cx.2.2.2.2.2.2.2.2.1 6 (by omega)]) rfl (in_t1 (List.mem_of_getElem? (i := 150) rfl) rfl) rfl rfl (fun _ => rfl) (fun _ => rfl) (pc := 23) (by decide +kernel) (fun H1 locs1 sx => ?_)
  rw [← eZ4] at sx
  refine n_ald cx hl (i := 0) (k3 := 0) (t := 9) (k := 3) (pc := 26) rfl rfl (by omega) (by decide +kernel) ?_
  refine n_new (t := 4) (n := 8) (index := 9) cx sx (hqZ4.fz fz hm) (by decide) (show WF[8]? = some (4, 0, 8) from rfl) (in_t1 (List.mem_of_getElem? (i := 83) rfl) rfl) (in_t1 (List.mem_of_getElem? (i := 84) rfl) rfl) (in_t1 (List.mem_of_getElem? (i := 4) rfl) rfl) (Nat.le_of_ble_eq_true rfl) (Nat.le_of_ble_eq_true rfl) (pc := 27) (by decide +kernel) (fun H1 sx => ?_)
  refine lv_dup cx.1.1 cx.1.2.1 (pc := 30) (by decide +kernel) rfl ?_
  refine n_init (t := 4) (k := 8) (index := 11) (as := []) cc3 cx sx (by omega) hls (in_t1 (List.mem_of_getElem? (i := 87) rfl) rfl) (in_t1 (List.mem_of_getElem? (i := 4) rfl) rfl) (.inr ⟨"IceParliament$Roll", by decide, rfl⟩) (in_t1 (List.mem_of_getElem? (i := 86) rfl) rfl) rfl ⟨by decide, by decide, rfl⟩ ⟨Nat.le_of_ble_eq_true rfl, Nat.le_of_ble_eq_true rfl⟩ ⟨Nat.le_of_ble_eq_true rfl, Nat.le_of_ble_eq_true rfl⟩ (Nat.le_of_ble_eq_true rfl) (pc := 31) (by decide +kernel) (fun H1 locs1 sx => ?_)
  refine n_putF (t := 9) (k := 3) (j := 2) (index := 21) cx sx (by omega) (by decide) (show WF[3]? = some (9, 0, 3) from rfl) (by decide) rfl (by rw [show (fp 9 2 3).2.2 = 8 from rfl, cx.2.2.2.2.2.2.2.2.1 8 (by omega)]) rfl (in_t1 (List.mem_of_getElem? (i := 157) rfl) rfl) rfl rfl (fun _ => rfl) (fun _ => rfl) (pc := 34) (by decide +kernel) (fun H1 locs1 sx => ?_)
  rw [← eZ6] at sx
  refine n_ald cx hl (i := 0) (k3 := 0) (t := 9) (k := 3) (pc := 37) rfl rfl (by omega) (by decide +kernel) ?_
  refine lv_bipush cx.1.1 cx.1.2.1 (n := 6) (v := Int32.ofNat 6) (pc := 38) (by decide +kernel) (by decide) ?_
  refine n_newa (t := 20) (N := 6) (n := 10) (aty := .int) (ty := .int) (index := 0) rfl (by omega) rfl (.inl ⟨rfl, rfl⟩) cx sx (hqZ6.fz fz hm) (show WF[10]? = some (20, 6, 10) from rfl) (in_t1 (List.mem_of_getElem? (i := 124) rfl) rfl) (Nat.le_of_ble_eq_true rfl) (Nat.le_of_ble_eq_true rfl) (pc := 40) (by decide +kernel) (fun H1 sx => ?_)
  refine n_putF (t := 9) (k := 3) (j := 3) (index := 24) cx sx (by omega) (by decide) (show WF[3]? = some (9, 0, 3) from rfl) (by decide) rfl (by rw [show (fp 9 3 3).2.2 = 10 from rfl, cx.2.2.2.2.2.2.2.2.1 10 (by omega)]) rfl (in_t1 (List.mem_of_getElem? (i := 165) rfl) rfl) rfl rfl (fun _ => rfl) (fun _ => rfl) (pc := 42) (by decide +kernel) (fun H1 locs1 sx => ?_)
  rw [← eZ7] at sx
  refine n_ald cx hl (i := 0) (k3 := 0) (t := 9) (k := 3) (pc := 45) rfl rfl (by omega) (by decide +kernel) ?_
  refine lv_bipush cx.1.1 cx.1.2.1 (n := 6) (v := Int32.ofNat 6) (pc := 46) (by decide +kernel) (by decide) ?_
  refine n_newa (t := 20) (N := 6) (n := 11) (aty := .int) (ty := .int) (index := 0) rfl (by omega) rfl (.inl ⟨rfl, rfl⟩) cx sx (hqZ7.fz fz hm) (show WF[11]? = some (20, 6, 11) from rfl) (in_t1 (List.mem_of_getElem? (i := 124) rfl) rfl) (Nat.le_of_ble_eq_true rfl) (Nat.le_of_ble_eq_true rfl) (pc := 48) (by decide +kernel) (fun H1 sx => ?_)
  refine n_putF (t := 9) (k := 3) (j := 4) (index := 28) cx sx (by omega) (by decide) (show WF[3]? = some (9, 0, 3) from rfl) (by decide) rfl (by rw [show (fp 9 4 3).2.2 = 11 from rfl, cx.2.2.2.2.2.2.2.2.1 11 (by omega)]) rfl (in_t1 (List.mem_of_getElem? (i := 167) rfl) rfl) rfl rfl (fun _ => rfl) (fun _ => rfl) (pc := 50) (by decide +kernel) (fun H1 locs1 sx => ?_)
  rw [← eZ8] at sx
  refine n_ald cx hl (i := 0) (k3 := 0) (t := 9) (k := 3) (pc := 53) rfl rfl (by omega) (by decide +kernel) ?_
  refine lv_bipush cx.1.1 cx.1.2.1 (n := 6) (v := Int32.ofNat 6) (pc := 54) (by decide +kernel) (by decide) ?_
  refine n_newa (t := 20) (N := 6) (n := 12) (aty := .int) (ty := .int) (index := 0) rfl (by omega) rfl (.inl ⟨rfl, rfl⟩) cx sx (hqZ8.fz fz hm) (show WF[12]? = some (20, 6, 12) from rfl) (in_t1 (List.mem_of_getElem? (i := 124) rfl) rfl) (Nat.le_of_ble_eq_true rfl) (Nat.le_of_ble_eq_true rfl) (pc := 56) (by decide +kernel) (fun H1 sx => ?_)
  refine n_putF (t := 9) (k := 3) (j := 5) (index := 31) cx sx (by omega) (by decide) (show WF[3]? = some (9, 0, 3) from rfl) (by decide) rfl (by rw [show (fp 9 5 3).2.2 = 12 from rfl, cx.2.2.2.2.2.2.2.2.1 12 (by omega)]) rfl (in_t1 (List.mem_of_getElem? (i := 170) rfl) rfl) rfl rfl (fun _ => rfl) (fun _ => rfl) (pc := 58) (by decide +kernel) (fun H1 locs1 sx => ?_)
  rw [← eZ9] at sx
  refine n_ald cx hl (i := 0) (k3 := 0) (t := 9) (k := 3) (pc := 61) rfl rfl (by omega) (by decide +kernel) ?_
  refine lv_bipush cx.1.1 cx.1.2.1 (n := 6) (v := Int32.ofNat 6) (pc := 62) (by decide +kernel) (by decide) ?_
  refine n_newa (t := 20) (N := 6) (n := 13) (aty := .int) (ty := .int) (index := 0) rfl (by omega) rfl (.inl ⟨rfl, rfl⟩) cx sx (hqZ9.fz fz hm) (show WF[13]? = some (20, 6, 13) from rfl) (in_t1 (List.mem_of_getElem? (i := 124) rfl) rfl) (Nat.le_of_ble_eq_true rfl) (Nat.le_of_ble_eq_true rfl) (pc := 64) (by decide +kernel) (fun H1 sx => ?_)
  refine n_putF (t := 9) (k := 3) (j := 6) (index := 34) cx sx (by omega) (by decide) (show WF[3]? = some (9, 0, 3) from rfl) (by decide) rfl (by rw [show (fp 9 6 3).2.2 = 13 from rfl, cx.2.2.2.2.2.2.2.2.1 13 (by omega)]) rfl (in_t1 (List.mem_of_getElem? (i := 173) rfl) rfl) rfl rfl (fun _ => rfl) (fun _ => rfl) (pc := 66) (by decide +kernel) (fun H1 locs1 sx => ?_)
  rw [← eZ10] at sx
  refine n_ald cx hl (i := 0) (k3 := 0) (t := 9) (k := 3) (pc := 69) rfl rfl (by omega) (by decide +kernel) ?_
  refine lv_bipush cx.1.1 cx.1.2.1 (n := 6) (v := Int32.ofNat 6) (pc := 70) (by decide +kernel) (by decide) ?_
  refine n_newa (t := 20) (N := 6) (n := 14) (aty := .int) (ty := .int) (index := 0) rfl (by omega) rfl (.inl ⟨rfl, rfl⟩) cx sx (hqZ10.fz fz hm) (show WF[14]? = some (20, 6, 14) from rfl) (in_t1 (List.mem_of_getElem? (i := 124) rfl) rfl) (Nat.le_of_ble_eq_true rfl) (Nat.le_of_ble_eq_true rfl) (pc := 72) (by decide +kernel) (fun H1 sx => ?_)
  refine n_putF (t := 9) (k := 3) (j := 7) (index := 37) cx sx (by omega) (by decide) (show WF[3]? = some (9, 0, 3) from rfl) (by decide) rfl (by rw [show (fp 9 7 3).2.2 = 14 from rfl, cx.2.2.2.2.2.2.2.2.1 14 (by omega)]) rfl (in_t1 (List.mem_of_getElem? (i := 176) rfl) rfl) rfl rfl (fun _ => rfl) (fun _ => rfl) (pc := 74) (by decide +kernel) (fun H1 locs1 sx => ?_)
  rw [← eZ11] at sx
  refine n_ald cx hl (i := 0) (k3 := 0) (t := 9) (k := 3) (pc := 77) rfl rfl (by omega) (by decide +kernel) ?_
  refine lv_bipush cx.1.1 cx.1.2.1 (n := 6) (v := Int32.ofNat 6) (pc := 78) (by decide +kernel) (by decide) ?_
  refine n_newa (t := 20) (N := 6) (n := 15) (aty := .int) (ty := .int) (index := 0) rfl (by omega) rfl (.inl ⟨rfl, rfl⟩) cx sx (hqZ11.fz fz hm) (show WF[15]? = some (20, 6, 15) from rfl) (in_t1 (List.mem_of_getElem? (i := 124) rfl) rfl) (Nat.le_of_ble_eq_true rfl) (Nat.le_of_ble_eq_true rfl) (pc := 80) (by decide +kernel) (fun H1 sx => ?_)
  refine n_putF (t := 9) (k := 3) (j := 8) (index := 40) cx sx (by omega) (by decide) (show WF[3]? = some (9, 0, 3) from rfl) (by decide) rfl (by rw [show (fp 9 8 3).2.2 = 15 from rfl, cx.2.2.2.2.2.2.2.2.1 15 (by omega)]) rfl (in_t1 (List.mem_of_getElem? (i := 180) rfl) rfl) rfl rfl (fun _ => rfl) (fun _ => rfl) (pc := 82) (by decide +kernel) (fun H1 locs1 sx => ?_)
  rw [← eZ12] at sx
  refine n_ald cx hl (i := 0) (k3 := 0) (t := 9) (k := 3) (pc := 85) rfl rfl (by omega) (by decide +kernel) ?_
  refine lv_bipush cx.1.1 cx.1.2.1 (n := 6) (v := Int32.ofNat 6) (pc := 86) (by decide +kernel) (by decide) ?_
  refine n_newa (t := 20) (N := 6) (n := 16) (aty := .int) (ty := .int) (index := 0) rfl (by omega) rfl (.inl ⟨rfl, rfl⟩) cx sx (hqZ12.fz fz hm) (show WF[16]? = some (20, 6, 16) from rfl) (in_t1 (List.mem_of_getElem? (i := 124) rfl) rfl) (Nat.le_of_ble_eq_true rfl) (Nat.le_of_ble_eq_true rfl) (pc := 88) (by decide +kernel) (fun H1 sx => ?_)
  refine n_putF (t := 9) (k := 3) (j := 9) (index := 43) cx sx (by omega) (by decide) (show WF[3]? = some (9, 0, 3) from rfl) (by decide) rfl (by rw [show (fp 9 9 3).2.2 = 16 from rfl, cx.2.2.2.2.2.2.2.2.1 16 (by omega)]) rfl (in_t1 (List.mem_of_getElem? (i := 182) rfl) rfl) rfl rfl (fun _ => rfl) (fun _ => rfl) (pc := 90) (by decide +kernel) (fun H1 locs1 sx => ?_)
  rw [← eZ13] at sx
  refine n_ald cx hl (i := 0) (k3 := 0) (t := 9) (k := 3) (pc := 93) rfl rfl (by omega) (by decide +kernel) ?_
  refine lv_bipush cx.1.1 cx.1.2.1 (n := 6) (v := Int32.ofNat 6) (pc := 94) (by decide +kernel) (by decide) ?_
  refine n_newa (t := 20) (N := 6) (n := 17) (aty := .int) (ty := .int) (index := 0) rfl (by omega) rfl (.inl ⟨rfl, rfl⟩) cx sx (hqZ13.fz fz hm) (show WF[17]? = some (20, 6, 17) from rfl) (in_t1 (List.mem_of_getElem? (i := 124) rfl) rfl) (Nat.le_of_ble_eq_true rfl) (Nat.le_of_ble_eq_true rfl) (pc := 96) (by decide +kernel) (fun H1 sx => ?_)
  refine n_putF (t := 9) (k := 3) (j := 10) (index := 46) cx sx (by omega) (by decide) (show WF[3]? = some (9, 0, 3) from rfl) (by decide) rfl (by rw [show (fp 9 10 3).2.2 = 17 from rfl, cx.2.2.2.2.2.2.2.2.1 17 (by omega)]) rfl (in_t1 (List.mem_of_getElem? (i := 186) rfl) rfl) rfl rfl (fun _ => rfl) (fun _ => rfl) (pc := 98) (by decide +kernel) (fun H1 locs1 sx => ?_)
  rw [← eZ14] at sx
  refine n_ald cx hl (i := 0) (k3 := 0) (t := 9) (k := 3) (pc := 101) rfl rfl (by omega) (by decide +kernel) ?_
  refine lv_bipush cx.1.1 cx.1.2.1 (n := 6) (v := Int32.ofNat 6) (pc := 102) (by decide +kernel) (by decide) ?_
  refine n_newa (t := 20) (N := 6) (n := 18) (aty := .int) (ty := .int) (index := 0) rfl (by omega) rfl (.inl ⟨rfl, rfl⟩) cx sx (hqZ14.fz fz hm) (show WF[18]? = some (20, 6, 18) from rfl) (in_t1 (List.mem_of_getElem? (i := 124) rfl) rfl) (Nat.le_of_ble_eq_true rfl) (Nat.le_of_ble_eq_true rfl) (pc := 104) (by decide +kernel) (fun H1 sx => ?_)
  refine n_putF (t := 9) (k := 3) (j := 11) (index := 49) cx sx (by omega) (by decide) (show WF[3]? = some (9, 0, 3) from rfl) (by decide) rfl (by rw [show (fp 9 11 3).2.2 = 18 from rfl, cx.2.2.2.2.2.2.2.2.1 18 (by omega)]) rfl (in_t1 (List.mem_of_getElem? (i := 191) rfl) rfl) rfl rfl (fun _ => rfl) (fun _ => rfl) (pc := 106) (by decide +kernel) (fun H1 locs1 sx => ?_)
  rw [← eZ15] at sx
  refine n_ald cx hl (i := 0) (k3 := 0) (t := 9) (k := 3) (pc := 109) rfl rfl (by omega) (by decide +kernel) ?_
  refine lv_bipush cx.1.1 cx.1.2.1 (n := 14) (v := Int32.ofNat 14) (pc := 110) (by decide +kernel) (by decide) ?_
  refine n_newa (t := 20) (N := 14) (n := 19) (aty := .int) (ty := .int) (index := 0) rfl (by omega) rfl (.inl ⟨rfl, rfl⟩) cx sx (hqZ15.fz fz hm) (show WF[19]? = some (20, 14, 19) from rfl) (in_t1 (List.mem_of_getElem? (i := 124) rfl) rfl) (Nat.le_of_ble_eq_true rfl) (Nat.le_of_ble_eq_true rfl) (pc := 112) (by decide +kernel) (fun H1 sx => ?_)
  refine n_putF (t := 9) (k := 3) (j := 13) (index := 52) cx sx (by omega) (by decide) (show WF[3]? = some (9, 0, 3) from rfl) (by decide) rfl (by rw [show (fp 9 13 3).2.2 = 19 from rfl, cx.2.2.2.2.2.2.2.2.1 19 (by omega)]) rfl (in_t1 (List.mem_of_getElem? (i := 195) rfl) rfl) rfl rfl (fun _ => rfl) (fun _ => rfl) (pc := 114) (by decide +kernel) (fun H1 locs1 sx => ?_)
  rw [← eZ16] at sx
  refine n_ald cx hl (i := 0) (k3 := 0) (t := 9) (k := 3) (pc := 117) rfl rfl (by omega) (by decide +kernel) ?_
  refine n_new (t := 1) (n := 20) (index := 55) cx sx (hqZ16.fz fz hm) (by decide) (show WF[20]? = some (1, 0, 20) from rfl) (in_t1 (List.mem_of_getElem? (i := 104) rfl) rfl) (in_t1 (List.mem_of_getElem? (i := 105) rfl) rfl) (in_t1 (List.mem_of_getElem? (i := 5) rfl) rfl) (Nat.le_of_ble_eq_true rfl) (Nat.le_of_ble_eq_true rfl) (pc := 118) (by decide +kernel) (fun H1 sx => ?_)
  refine lv_dup cx.1.1 cx.1.2.1 (pc := 121) (by decide +kernel) rfl ?_
  refine n_init (t := 1) (k := 20) (index := 57) (as := []) cc4 cx sx (by omega) hls (in_t1 (List.mem_of_getElem? (i := 108) rfl) rfl) (in_t1 (List.mem_of_getElem? (i := 5) rfl) rfl) (.inr ⟨"IceParliament$Law", by decide, rfl⟩) (in_t1 (List.mem_of_getElem? (i := 107) rfl) rfl) rfl ⟨by decide, by decide, rfl⟩ ⟨Nat.le_of_ble_eq_true rfl, Nat.le_of_ble_eq_true rfl⟩ ⟨Nat.le_of_ble_eq_true rfl, Nat.le_of_ble_eq_true rfl⟩ (Nat.le_of_ble_eq_true rfl) (pc := 122) (by decide +kernel) (fun H1 locs1 sx => ?_)
  refine n_putF (t := 9) (k := 3) (j := 16) (index := 58) cx sx (by omega) (by decide) (show WF[3]? = some (9, 0, 3) from rfl) (by decide) rfl (by rw [show (fp 9 16 3).2.2 = 20 from rfl, cx.2.2.2.2.2.2.2.2.1 20 (by omega)]) rfl (in_t1 (List.mem_of_getElem? (i := 203) rfl) rfl) rfl rfl (fun _ => rfl) (fun _ => rfl) (pc := 125) (by decide +kernel) (fun H1 locs1 sx => ?_)
  rw [← eZ18] at sx
  refine n_ald cx hl (i := 0) (k3 := 0) (t := 9) (k := 3) (pc := 128) rfl rfl (by omega) (by decide +kernel) ?_
  refine n_new (t := 1) (n := 23) (index := 55) cx sx (hqZ18.fz fz hm) (by decide) (show WF[23]? = some (1, 0, 23) from rfl) (in_t1 (List.mem_of_getElem? (i := 104) rfl) rfl) (in_t1 (List.mem_of_getElem? (i := 105) rfl) rfl) (in_t1 (List.mem_of_getElem? (i := 5) rfl) rfl) (Nat.le_of_ble_eq_true rfl) (Nat.le_of_ble_eq_true rfl) (pc := 129) (by decide +kernel) (fun H1 sx => ?_)
  refine lv_dup cx.1.1 cx.1.2.1 (pc := 132) (by decide +kernel) rfl ?_
  refine n_init (t := 1) (k := 23) (index := 57) (as := []) cc5 cx sx (by omega) hls (in_t1 (List.mem_of_getElem? (i := 108) rfl) rfl) (in_t1 (List.mem_of_getElem? (i := 5) rfl) rfl) (.inr ⟨"IceParliament$Law", by decide, rfl⟩) (in_t1 (List.mem_of_getElem? (i := 107) rfl) rfl) rfl ⟨by decide, by decide, rfl⟩ ⟨Nat.le_of_ble_eq_true rfl, Nat.le_of_ble_eq_true rfl⟩ ⟨Nat.le_of_ble_eq_true rfl, Nat.le_of_ble_eq_true rfl⟩ (Nat.le_of_ble_eq_true rfl) (pc := 133) (by decide +kernel) (fun H1 locs1 sx => ?_)
  refine n_putF (t := 9) (k := 3) (j := 17) (index := 62) cx sx (by omega) (by decide) (show WF[3]? = some (9, 0, 3) from rfl) (by decide) rfl (by rw [show (fp 9 17 3).2.2 = 23 from rfl, cx.2.2.2.2.2.2.2.2.1 23 (by omega)]) rfl (in_t1 (List.mem_of_getElem? (i := 204) rfl) rfl) rfl rfl (fun _ => rfl) (fun _ => rfl) (pc := 136) (by decide +kernel) (fun H1 locs1 sx => ?_)
  rw [← eZ20] at sx
  refine n_ald cx hl (i := 0) (k3 := 0) (t := 9) (k := 3) (pc := 139) rfl rfl (by omega) (by decide +kernel) ?_
  refine n_evI (x := 0) (t := 9) (k := 3) (index := 65) (as := []) (ks := (List.range 23).map (· + 3)) rfl ev1 rfl (by decide +kernel) (by decide) rfl (by decide +kernel) (by decide +kernel) (Clo_of (by decide +kernel)) (WT_of (by decide +kernel)) (by decide +kernel)
    (fun i hi b => by
      have z := (show ∀ i ∈ (List.range 23).map (· + 3), 3 ≤ i ∧ i < 26 from by decide +kernel) i hi
      exact pz.2 i z.1 z.2 b) hfr (fun v hv => by rcases List.mem_singleton.mp hv with rfl; exact .inl (show ((9, 0, 3) : Ref3) ∈ wI ((List.range 23).map (· + 3)) from by decide +kernel)) cx sx (by rw [hsz]) (by decide) hls (in_t1 (List.mem_of_getElem? (i := 125) rfl) rfl) (in_t1 (List.mem_of_getElem? (i := 126) rfl) rfl) (in_t1 (List.mem_of_getElem? (i := 127) rfl) rfl) rfl ⟨Nat.le_of_ble_eq_true rfl, Nat.le_of_ble_eq_true rfl⟩ ⟨Nat.le_of_ble_eq_true rfl, Nat.le_of_ble_eq_true rfl⟩ (Nat.le_of_ble_eq_true rfl) (pc := 140) (by decide +kernel) (fun H1 locs1 sx => ?_)
  exact n_ret cx sx (Nat.le_of_ble_eq_true rfl) (Nat.le_of_ble_eq_true rfl) (pc := 143) (by decide +kernel)
set_option maxRecDepth 20000 in
set_option maxHeartbeats 1000000 in
theorem c_Yard26 (fz : Fz 26 M Z) (hm : Mz 26 M) : ∃ M' Z', CNt ⟨"IceParliament$Yard", "<init>", "()V"⟩ prog_11_method_1_code 1 3 22 2164 [vR 9 0 26] 27 M Z 49 M' Z' ∧ PZ 26 49 Z Z' ∧ Fr (fun c _ => 26 ≤ c ∧ c ≤ 48) M M' := by
  have hq : QZ 26 [] 27 Z Z := QZ.start
  obtain ⟨Z1, cc1, p1⟩ := c_Roll (M := M) (Z := Z) (k := 27) (by omega) (show WF[27]? = some (4, 0, 27) from rfl) (show WF[28]? = some (23, 6, 28) from rfl) ((hq.fz fz hm).le (Nat.le_refl _)) ((hq.fz fz hm).mz)
  have hqZ1 := hq.sub p1 (by omega)
  obtain ⟨Z2, eZ2⟩ : ∃ Z2, Z2 = uZ Z1 26 0 := ⟨_, rfl⟩
  have hqZ2 := hqZ1.put eZ2
  obtain ⟨Z3, cc2, p2⟩ := c_Roll (M := M) (Z := Z2) (k := 29) (by omega) (show WF[29]? = some (4, 0, 29) from rfl) (show WF[30]? = some (23, 6, 30) from rfl) ((hqZ2.fz fz hm).le (Nat.le_refl _)) ((hqZ2.fz fz hm).mz)
  have hqZ3 := hqZ2.sub p2 (by omega)
  obtain ⟨Z4, eZ4⟩ : ∃ Z4, Z4 = uZ Z3 26 1 := ⟨_, rfl⟩
  have hqZ4 := hqZ3.put eZ4
  obtain ⟨Z5, cc3, p3⟩ := c_Roll (M := M) (Z := Z4) (k := 31) (by omega) (show WF[31]? = some (4, 0, 31) from rfl) (show WF[32]? = some (23, 6, 32) from rfl) ((hqZ4.fz fz hm).le (Nat.le_refl _)) ((hqZ4.fz fz hm).mz)
  have hqZ5 := hqZ4.sub p3 (by omega)
  obtain ⟨Z6, eZ6⟩ : ∃ Z6, Z6 = uZ Z5 26 2 := ⟨_, rfl⟩
  have hqZ6 := hqZ5.put eZ6
  have hqZ6a := hqZ6.arr fz (show WF[33]? = some (20, 6, 33) from rfl) (by decide)
  obtain ⟨Z7, eZ7⟩ : ∃ Z7, Z7 = uZ Z6 26 3 := ⟨_, rfl⟩
  have hqZ7 := hqZ6a.put eZ7
  have hqZ7a := hqZ7.arr fz (show WF[34]? = some (20, 6, 34) from rfl) (by decide)
  obtain ⟨Z8, eZ8⟩ : ∃ Z8, Z8 = uZ Z7 26 4 := ⟨_, rfl⟩
  have hqZ8 := hqZ7a.put eZ8
  have hqZ8a := hqZ8.arr fz (show WF[35]? = some (20, 6, 35) from rfl) (by decide)
  obtain ⟨Z9, eZ9⟩ : ∃ Z9, Z9 = uZ Z8 26 5 := ⟨_, rfl⟩
  have hqZ9 := hqZ8a.put eZ9
  have hqZ9a := hqZ9.arr fz (show WF[36]? = some (20, 6, 36) from rfl) (by decide)
  obtain ⟨Z10, eZ10⟩ : ∃ Z10, Z10 = uZ Z9 26 6 := ⟨_, rfl⟩
  have hqZ10 := hqZ9a.put eZ10
  have hqZ10a := hqZ10.arr fz (show WF[37]? = some (20, 6, 37) from rfl) (by decide)
  obtain ⟨Z11, eZ11⟩ : ∃ Z11, Z11 = uZ Z10 26 7 := ⟨_, rfl⟩
  have hqZ11 := hqZ10a.put eZ11
  have hqZ11a := hqZ11.arr fz (show WF[38]? = some (20, 6, 38) from rfl) (by decide)
  obtain ⟨Z12, eZ12⟩ : ∃ Z12, Z12 = uZ Z11 26 8 := ⟨_, rfl⟩
  have hqZ12 := hqZ11a.put eZ12
  have hqZ12a := hqZ12.arr fz (show WF[39]? = some (20, 6, 39) from rfl) (by decide)
  obtain ⟨Z13, eZ13⟩ : ∃ Z13, Z13 = uZ Z12 26 9 := ⟨_, rfl⟩
  have hqZ13 := hqZ12a.put eZ13
  have hqZ13a := hqZ13.arr fz (show WF[40]? = some (20, 6, 40) from rfl) (by decide)
  obtain ⟨Z14, eZ14⟩ : ∃ Z14, Z14 = uZ Z13 26 10 := ⟨_, rfl⟩
  have hqZ14 := hqZ13a.put eZ14
  have hqZ14a := hqZ14.arr fz (show WF[41]? = some (20, 6, 41) from rfl) (by decide)
  obtain ⟨Z15, eZ15⟩ : ∃ Z15, Z15 = uZ Z14 26 11 := ⟨_, rfl⟩
  have hqZ15 := hqZ14a.put eZ15
  have hqZ15a := hqZ15.arr fz (show WF[42]? = some (20, 14, 42) from rfl) (by decide)
  obtain ⟨Z16, eZ16⟩ : ∃ Z16, Z16 = uZ Z15 26 13 := ⟨_, rfl⟩
  have hqZ16 := hqZ15a.put eZ16
  obtain ⟨Z17, cc4, p4⟩ := c_Law (M := M) (Z := Z16) (k := 43) (by omega) (show WF[43]? = some (1, 0, 43) from rfl) (show WF[44]? = some (20, 1000, 44) from rfl) (show WF[45]? = some (20, 32, 45) from rfl) ((hqZ16.fz fz hm).le (Nat.le_refl _)) ((hqZ16.fz fz hm).mz)
  have hqZ17 := hqZ16.sub p4 (by omega)
  obtain ⟨Z18, eZ18⟩ : ∃ Z18, Z18 = uZ Z17 26 16 := ⟨_, rfl⟩
  have hqZ18 := hqZ17.put eZ18
  obtain ⟨Z19, cc5, p5⟩ := c_Law (M := M) (Z := Z18) (k := 46) (by omega) (show WF[46]? = some (1, 0, 46) from rfl) (show WF[47]? = some (20, 1000, 47) from rfl) (show WF[48]? = some (20, 32, 48) from rfl) ((hqZ18.fz fz hm).le (Nat.le_refl _)) ((hqZ18.fz fz hm).mz)
  have hqZ19 := hqZ18.sub p5 (by omega)
  obtain ⟨Z20, eZ20⟩ : ∃ Z20, Z20 = uZ Z19 26 17 := ⟨_, rfl⟩
  have hqZ20 := hqZ19.put eZ20
  obtain ⟨a1, M1, ev1, ha1, fr1, fa1⟩ := sp0d (d := 0) (M := M)
  subst ha1
  have pz := hqZ20.fin fz (show WF[26]? = some (9, 0, 26) from rfl) (by decide)
  have hfr : Fr (fun c _ => c ∈ (List.range 23).map (· + 26)) M M1 := fr1.up (fun c j z => (show ∀ c, 26 ≤ c → c < 49 → c ∈ (List.range 23).map (· + 26) from fun c h1 h2 => by rcases (show c = 26 ∨ c = 27 ∨ c = 28 ∨ c = 29 ∨ c = 30 ∨ c = 31 ∨ c = 32 ∨ c = 33 ∨ c = 34 ∨ c = 35 ∨ c = 36 ∨ c = 37 ∨ c = 38 ∨ c = 39 ∨ c = 40 ∨ c = 41 ∨ c = 42 ∨ c = 43 ∨ c = 44 ∨ c = 45 ∨ c = 46 ∨ c = 47 ∨ c = 48 by omega) with rfl | rfl | rfl | rfl | rfl | rfl | rfl | rfl | rfl | rfl | rfl | rfl | rfl | rfl | rfl | rfl | rfl | rfl | rfl | rfl | rfl | rfl | rfl <;> decide) c z.1 (by omega))
  refine ⟨M1, Z20, CNt_of (own := "IceParliament$Yard") (by decide) rfl rfl (Nat.le_of_ble_eq_true rfl) (fun B => Nat.le_add_right B _) ?_, hqZ20.fin fz (show WF[26]? = some (9, 0, 26) from rfl) (by decide), fr1⟩
  intro p l e s m args below meth c dC dI cA ρ B ls cx sx hsz hl
  have hls : ls.size = 1 := by obtain ⟨l0, h0, -⟩ := hl; exact h0.1
  refine n_ald cx hl (i := 0) (k3 := 0) (t := 9) (k := 26) (pc := 0) rfl rfl (by omega) (by decide +kernel) ?_
  refine n_obj (k := 26) (index := 3) cx hl (in_t1 (List.mem_of_getElem? (i := 82) rfl) rfl) (in_t1 (List.mem_of_getElem? (i := 33) rfl) rfl) (in_t1 (List.mem_of_getElem? (i := 34) rfl) rfl) ⟨Nat.le_of_ble_eq_true rfl, Nat.le_of_ble_eq_true rfl⟩ (by decide) (pc := 1) (by decide +kernel) ?_
  refine n_ald cx hl (i := 0) (k3 := 0) (t := 9) (k := 26) (pc := 4) rfl rfl (by omega) (by decide +kernel) ?_
  refine n_new (t := 4) (n := 27) (index := 9) cx sx (hq.fz fz hm) (by decide) (show WF[27]? = some (4, 0, 27) from rfl) (in_t1 (List.mem_of_getElem? (i := 83) rfl) rfl) (in_t1 (List.mem_of_getElem? (i := 84) rfl) rfl) (in_t1 (List.mem_of_getElem? (i := 4) rfl) rfl) (Nat.le_of_ble_eq_true rfl) (Nat.le_of_ble_eq_true rfl) (pc := 5) (by decide +kernel) (fun H1 sx => ?_)
  refine lv_dup cx.1.1 cx.1.2.1 (pc := 8) (by decide +kernel) rfl ?_
  refine n_init (t := 4) (k := 27) (index := 11) (as := []) cc1 cx sx (by omega) hls (in_t1 (List.mem_of_getElem? (i := 87) rfl) rfl) (in_t1 (List.mem_of_getElem? (i := 4) rfl) rfl) (.inr ⟨"IceParliament$Roll", by decide, rfl⟩) (in_t1 (List.mem_of_getElem? (i := 86) rfl) rfl) rfl ⟨by decide, by decide, rfl⟩ ⟨Nat.le_of_ble_eq_true rfl, Nat.le_of_ble_eq_true rfl⟩ ⟨Nat.le_of_ble_eq_true rfl, Nat.le_of_ble_eq_true rfl⟩ (Nat.le_of_ble_eq_true rfl) (pc := 9) (by decide +kernel) (fun H1 locs1 sx => ?_)
  refine n_putF (t := 9) (k := 26) (j := 0) (index := 12) cx sx (by omega) (by decide) (show WF[26]? = some (9, 0, 26) from rfl) (by decide) rfl (by rw [show (fp 9 0 26).2.2 = 27 from rfl, cx.2.2.2.2.2.2.2.2.1 27 (by omega)]) rfl (in_t1 (List.mem_of_getElem? (i := 144) rfl) rfl) rfl rfl (fun _ => rfl) (fun _ => rfl) (pc := 12) (by decide +kernel) (fun H1 locs1 sx => ?_)
  rw [← eZ2] at sx
  refine n_ald cx hl (i := 0) (k3 := 0) (t := 9) (k := 26) (pc := 15) rfl rfl (by omega) (by decide +kernel) ?_
  refine n_new (t := 4) (n := 29) (index := 9) cx sx (hqZ2.fz fz hm) (by decide) (show WF[29]? = some (4, 0, 29) from rfl) (in_t1 (List.mem_of_getElem? (i := 83) rfl) rfl) (in_t1 (List.mem_of_getElem? (i := 84) rfl) rfl) (in_t1 (List.mem_of_getElem? (i := 4) rfl) rfl) (Nat.le_of_ble_eq_true rfl) (Nat.le_of_ble_eq_true rfl) (pc := 16) (by decide +kernel) (fun H1 sx => ?_)
  refine lv_dup cx.1.1 cx.1.2.1 (pc := 19) (by decide +kernel) rfl ?_
  refine n_init (t := 4) (k := 29) (index := 11) (as := []) cc2 cx sx (by omega) hls (in_t1 (List.mem_of_getElem? (i := 87) rfl) rfl) (in_t1 (List.mem_of_getElem? (i := 4) rfl) rfl) (.inr ⟨"IceParliament$Roll", by decide, rfl⟩) (in_t1 (List.mem_of_getElem? (i := 86) rfl) rfl) rfl ⟨by decide, by decide, rfl⟩ ⟨Nat.le_of_ble_eq_true rfl, Nat.le_of_ble_eq_true rfl⟩ ⟨Nat.le_of_ble_eq_true rfl, Nat.le_of_ble_eq_true rfl⟩ (Nat.le_of_ble_eq_true rfl) (pc := 20) (by decide +kernel) (fun H1 locs1 sx => ?_)
  refine n_putF (t := 9) (k := 26) (j := 1) (index := 18) cx sx (by omega) (by decide) (show WF[26]? = some (9, 0, 26) from rfl) (by decide) rfl (by rw [show (fp 9 1 26).2.2 = 29 from rfl, cx.2.2.2.2.2.2.2.2.1 29 (by omega)]) rfl (in_t1 (List.mem_of_getElem? (i := 150) rfl) rfl) rfl rfl (fun _ => rfl) (fun _ => rfl) (pc := 23) (by decide +kernel) (fun H1 locs1 sx => ?_)
  rw [← eZ4] at sx
  refine n_ald cx hl (i := 0) (k3 := 0) (t := 9) (k := 26) (pc := 26) rfl rfl (by omega) (by decide +kernel) ?_
  refine n_new (t := 4) (n := 31) (index := 9) cx sx (hqZ4.fz fz hm) (by decide) (show WF[31]? = some (4, 0, 31) from rfl) (in_t1 (List.mem_of_getElem? (i := 83) rfl) rfl) (in_t1 (List.mem_of_getElem? (i := 84) rfl) rfl) (in_t1 (List.mem_of_getElem? (i := 4) rfl) rfl) (Nat.le_of_ble_eq_true rfl) (Nat.le_of_ble_eq_true rfl) (pc := 27) (by decide +kernel) (fun H1 sx => ?_)
  refine lv_dup cx.1.1 cx.1.2.1 (pc := 30) (by decide +kernel) rfl ?_
  refine n_init (t := 4) (k := 31) (index := 11) (as := []) cc3 cx sx (by omega) hls (in_t1 (List.mem_of_getElem? (i := 87) rfl) rfl) (in_t1 (List.mem_of_getElem? (i := 4) rfl) rfl) (.inr ⟨"IceParliament$Roll", by decide, rfl⟩) (in_t1 (List.mem_of_getElem? (i := 86) rfl) rfl) rfl ⟨by decide, by decide, rfl⟩ ⟨Nat.le_of_ble_eq_true rfl, Nat.le_of_ble_eq_true rfl⟩ ⟨Nat.le_of_ble_eq_true rfl, Nat.le_of_ble_eq_true rfl⟩ (Nat.le_of_ble_eq_true rfl) (pc := 31) (by decide +kernel) (fun H1 locs1 sx => ?_)
  refine n_putF (t := 9) (k := 26) (j := 2) (index := 21) cx sx (by omega) (by decide) (show WF[26]? = some (9, 0, 26) from rfl) (by decide) rfl (by rw [show (fp 9 2 26).2.2 = 31 from rfl, cx.2.2.2.2.2.2.2.2.1 31 (by omega)]) rfl (in_t1 (List.mem_of_getElem? (i := 157) rfl) rfl) rfl rfl (fun _ => rfl) (fun _ => rfl) (pc := 34) (by decide +kernel) (fun H1 locs1 sx => ?_)
  rw [← eZ6] at sx
  refine n_ald cx hl (i := 0) (k3 := 0) (t := 9) (k := 26) (pc := 37) rfl rfl (by omega) (by decide +kernel) ?_
  refine lv_bipush cx.1.1 cx.1.2.1 (n := 6) (v := Int32.ofNat 6) (pc := 38) (by decide +kernel) (by decide) ?_
  refine n_newa (t := 20) (N := 6) (n := 33) (aty := .int) (ty := .int) (index := 0) rfl (by omega) rfl (.inl ⟨rfl, rfl⟩) cx sx (hqZ6.fz fz hm) (show WF[33]? = some (20, 6, 33) from rfl) (in_t1 (List.mem_of_getElem? (i := 124) rfl) rfl) (Nat.le_of_ble_eq_true rfl) (Nat.le_of_ble_eq_true rfl) (pc := 40) (by decide +kernel) (fun H1 sx => ?_)
  refine n_putF (t := 9) (k := 26) (j := 3) (index := 24) cx sx (by omega) (by decide) (show WF[26]? = some (9, 0, 26) from rfl) (by decide) rfl (by rw [show (fp 9 3 26).2.2 = 33 from rfl, cx.2.2.2.2.2.2.2.2.1 33 (by omega)]) rfl (in_t1 (List.mem_of_getElem? (i := 165) rfl) rfl) rfl rfl (fun _ => rfl) (fun _ => rfl) (pc := 42) (by decide +kernel) (fun H1 locs1 sx => ?_)
  rw [← eZ7] at sx
  refine n_ald cx hl (i := 0) (k3 := 0) (t := 9) (k := 26) (pc := 45) rfl rfl (by omega) (by decide +kernel) ?_
  refine lv_bipush cx.1.1 cx.1.2.1 (n := 6) (v := Int32.ofNat 6) (pc := 46) (by decide +kernel) (by decide) ?_
  refine n_newa (t := 20) (N := 6) (n := 34) (aty := .int) (ty := .int) (index := 0) rfl (by omega) rfl (.inl ⟨rfl, rfl⟩) cx sx (hqZ7.fz fz hm) (show WF[34]? = some (20, 6, 34) from rfl) (in_t1 (List.mem_of_getElem? (i := 124) rfl) rfl) (Nat.le_of_ble_eq_true rfl) (Nat.le_of_ble_eq_true rfl) (pc := 48) (by decide +kernel) (fun H1 sx => ?_)
  refine n_putF (t := 9) (k := 26) (j := 4) (index := 28) cx sx (by omega) (by decide) (show WF[26]? = some (9, 0, 26) from rfl) (by decide) rfl (by rw [show (fp 9 4 26).2.2 = 34 from rfl, cx.2.2.2.2.2.2.2.2.1 34 (by omega)]) rfl (in_t1 (List.mem_of_getElem? (i := 167) rfl) rfl) rfl rfl (fun _ => rfl) (fun _ => rfl) (pc := 50) (by decide +kernel) (fun H1 locs1 sx => ?_)
  rw [← eZ8] at sx
  refine n_ald cx hl (i := 0) (k3 := 0) (t := 9) (k := 26) (pc := 53) rfl rfl (by omega) (by decide +kernel) ?_
  refine lv_bipush cx.1.1 cx.1.2.1 (n := 6) (v := Int32.ofNat 6) (pc := 54) (by decide +kernel) (by decide) ?_
  refine n_newa (t := 20) (N := 6) (n := 35) (aty := .int) (ty := .int) (index := 0) rfl (by omega) rfl (.inl ⟨rfl, rfl⟩) cx sx (hqZ8.fz fz hm) (show WF[35]? = some (20, 6, 35) from rfl) (in_t1 (List.mem_of_getElem? (i := 124) rfl) rfl) (Nat.le_of_ble_eq_true rfl) (Nat.le_of_ble_eq_true rfl) (pc := 56) (by decide +kernel) (fun H1 sx => ?_)
  refine n_putF (t := 9) (k := 26) (j := 5) (index := 31) cx sx (by omega) (by decide) (show WF[26]? = some (9, 0, 26) from rfl) (by decide) rfl (by rw [show (fp 9 5 26).2.2 = 35 from rfl, cx.2.2.2.2.2.2.2.2.1 35 (by omega)]) rfl (in_t1 (List.mem_of_getElem? (i := 170) rfl) rfl) rfl rfl (fun _ => rfl) (fun _ => rfl) (pc := 58) (by decide +kernel) (fun H1 locs1 sx => ?_)
  rw [← eZ9] at sx
  refine n_ald cx hl (i := 0) (k3 := 0) (t := 9) (k := 26) (pc := 61) rfl rfl (by omega) (by decide +kernel) ?_
  refine lv_bipush cx.1.1 cx.1.2.1 (n := 6) (v := Int32.ofNat 6) (pc := 62) (by decide +kernel) (by decide) ?_
  refine n_newa (t := 20) (N := 6) (n := 36) (aty := .int) (ty := .int) (index := 0) rfl (by omega) rfl (.inl ⟨rfl, rfl⟩) cx sx (hqZ9.fz fz hm) (show WF[36]? = some (20, 6, 36) from rfl) (in_t1 (List.mem_of_getElem? (i := 124) rfl) rfl) (Nat.le_of_ble_eq_true rfl) (Nat.le_of_ble_eq_true rfl) (pc := 64) (by decide +kernel) (fun H1 sx => ?_)
  refine n_putF (t := 9) (k := 26) (j := 6) (index := 34) cx sx (by omega) (by decide) (show WF[26]? = some (9, 0, 26) from rfl) (by decide) rfl (by rw [show (fp 9 6 26).2.2 = 36 from rfl, cx.2.2.2.2.2.2.2.2.1 36 (by omega)]) rfl (in_t1 (List.mem_of_getElem? (i := 173) rfl) rfl) rfl rfl (fun _ => rfl) (fun _ => rfl) (pc := 66) (by decide +kernel) (fun H1 locs1 sx => ?_)
  rw [← eZ10] at sx
  refine n_ald cx hl (i := 0) (k3 := 0) (t := 9) (k := 26) (pc := 69) rfl rfl (by omega) (by decide +kernel) ?_
  refine lv_bipush cx.1.1 cx.1.2.1 (n := 6) (v := Int32.ofNat 6) (pc := 70) (by decide +kernel) (by decide) ?_
  refine n_newa (t := 20) (N := 6) (n := 37) (aty := .int) (ty := .int) (index := 0) rfl (by omega) rfl (.inl ⟨rfl, rfl⟩) cx sx (hqZ10.fz fz hm) (show WF[37]? = some (20, 6, 37) from rfl) (in_t1 (List.mem_of_getElem? (i := 124) rfl) rfl) (Nat.le_of_ble_eq_true rfl) (Nat.le_of_ble_eq_true rfl) (pc := 72) (by decide +kernel) (fun H1 sx => ?_)
  refine n_putF (t := 9) (k := 26) (j := 7) (index := 37) cx sx (by omega) (by decide) (show WF[26]? = some (9, 0, 26) from rfl) (by decide) rfl (by rw [show (fp 9 7 26).2.2 = 37 from rfl, cx.2.2.2.2.2.2.2.2.1 37 (by omega)]) rfl (in_t1 (List.mem_of_getElem? (i := 176) rfl) rfl) rfl rfl (fun _ => rfl) (fun _ => rfl) (pc := 74) (by decide +kernel) (fun H1 locs1 sx => ?_)
  rw [← eZ11] at sx
  refine n_ald cx hl (i := 0) (k3 := 0) (t := 9) (k := 26) (pc := 77) rfl rfl (by omega) (by decide +kernel) ?_
  refine lv_bipush cx.1.1 cx.1.2.1 (n := 6) (v := Int32.ofNat 6) (pc := 78) (by decide +kernel) (by decide) ?_
  refine n_newa (t := 20) (N := 6) (n := 38) (aty := .int) (ty := .int) (index := 0) rfl (by omega) rfl (.inl ⟨rfl, rfl⟩) cx sx (hqZ11.fz fz hm) (show WF[38]? = some (20, 6, 38) from rfl) (in_t1 (List.mem_of_getElem? (i := 124) rfl) rfl) (Nat.le_of_ble_eq_true rfl) (Nat.le_of_ble_eq_true rfl) (pc := 80) (by decide +kernel) (fun H1 sx => ?_)
  refine n_putF (t := 9) (k := 26) (j := 8) (index := 40) cx sx (by omega) (by decide) (show WF[26]? = some (9, 0, 26) from rfl) (by decide) rfl (by rw [show (fp 9 8 26).2.2 = 38 from rfl, cx.2.2.2.2.2.2.2.2.1 38 (by omega)]) rfl (in_t1 (List.mem_of_getElem? (i := 180) rfl) rfl) rfl rfl (fun _ => rfl) (fun _ => rfl) (pc := 82) (by decide +kernel) (fun H1 locs1 sx => ?_)
  rw [← eZ12] at sx
  refine n_ald cx hl (i := 0) (k3 := 0) (t := 9) (k := 26) (pc := 85) rfl rfl (by omega) (by decide +kernel) ?_
  refine lv_bipush cx.1.1 cx.1.2.1 (n := 6) (v := Int32.ofNat 6) (pc := 86) (by decide +kernel) (by decide) ?_
  refine n_newa (t := 20) (N := 6) (n := 39) (aty := .int) (ty := .int) (index := 0) rfl (by omega) rfl (.inl ⟨rfl, rfl⟩) cx sx (hqZ12.fz fz hm) (show WF[39]? = some (20, 6, 39) from rfl) (in_t1 (List.mem_of_getElem? (i := 124) rfl) rfl) (Nat.le_of_ble_eq_true rfl) (Nat.le_of_ble_eq_true rfl) (pc := 88) (by decide +kernel) (fun H1 sx => ?_)
  refine n_putF (t := 9) (k := 26) (j := 9) (index := 43) cx sx (by omega) (by decide) (show WF[26]? = some (9, 0, 26) from rfl) (by decide) rfl (by rw [show (fp 9 9 26).2.2 = 39 from rfl, cx.2.2.2.2.2.2.2.2.1 39 (by omega)]) rfl (in_t1 (List.mem_of_getElem? (i := 182) rfl) rfl) rfl rfl (fun _ => rfl) (fun _ => rfl) (pc := 90) (by decide +kernel) (fun H1 locs1 sx => ?_)
  rw [← eZ13] at sx
  refine n_ald cx hl (i := 0) (k3 := 0) (t := 9) (k := 26) (pc := 93) rfl rfl (by omega) (by decide +kernel) ?_
  refine lv_bipush cx.1.1 cx.1.2.1 (n := 6) (v := Int32.ofNat 6) (pc := 94) (by decide +kernel) (by decide) ?_
  refine n_newa (t := 20) (N := 6) (n := 40) (aty := .int) (ty := .int) (index := 0) rfl (by omega) rfl (.inl ⟨rfl, rfl⟩) cx sx (hqZ13.fz fz hm) (show WF[40]? = some (20, 6, 40) from rfl) (in_t1 (List.mem_of_getElem? (i := 124) rfl) rfl) (Nat.le_of_ble_eq_true rfl) (Nat.le_of_ble_eq_true rfl) (pc := 96) (by decide +kernel) (fun H1 sx => ?_)
  refine n_putF (t := 9) (k := 26) (j := 10) (index := 46) cx sx (by omega) (by decide) (show WF[26]? = some (9, 0, 26) from rfl) (by decide) rfl (by rw [show (fp 9 10 26).2.2 = 40 from rfl, cx.2.2.2.2.2.2.2.2.1 40 (by omega)]) rfl (in_t1 (List.mem_of_getElem? (i := 186) rfl) rfl) rfl rfl (fun _ => rfl) (fun _ => rfl) (pc := 98) (by decide +kernel) (fun H1 locs1 sx => ?_)
  rw [← eZ14] at sx
  refine n_ald cx hl (i := 0) (k3 := 0) (t := 9) (k := 26) (pc := 101) rfl rfl (by omega) (by decide +kernel) ?_
  refine lv_bipush cx.1.1 cx.1.2.1 (n := 6) (v := Int32.ofNat 6) (pc := 102) (by decide +kernel) (by decide) ?_
  refine n_newa (t := 20) (N := 6) (n := 41) (aty := .int) (ty := .int) (index := 0) rfl (by omega) rfl (.inl ⟨rfl, rfl⟩) cx sx (hqZ14.fz fz hm) (show WF[41]? = some (20, 6, 41) from rfl) (in_t1 (List.mem_of_getElem? (i := 124) rfl) rfl) (Nat.le_of_ble_eq_true rfl) (Nat.le_of_ble_eq_true rfl) (pc := 104) (by decide +kernel) (fun H1 sx => ?_)
  refine n_putF (t := 9) (k := 26) (j := 11) (index := 49) cx sx (by omega) (by decide) (show WF[26]? = some (9, 0, 26) from rfl) (by decide) rfl (by rw [show (fp 9 11 26).2.2 = 41 from rfl, cx.2.2.2.2.2.2.2.2.1 41 (by omega)]) rfl (in_t1 (List.mem_of_getElem? (i := 191) rfl) rfl) rfl rfl (fun _ => rfl) (fun _ => rfl) (pc := 106) (by decide +kernel) (fun H1 locs1 sx => ?_)
  rw [← eZ15] at sx
  refine n_ald cx hl (i := 0) (k3 := 0) (t := 9) (k := 26) (pc := 109) rfl rfl (by omega) (by decide +kernel) ?_
  refine lv_bipush cx.1.1 cx.1.2.1 (n := 14) (v := Int32.ofNat 14) (pc := 110) (by decide +kernel) (by decide) ?_
  refine n_newa (t := 20) (N := 14) (n := 42) (aty := .int) (ty := .int) (index := 0) rfl (by omega) rfl (.inl ⟨rfl, rfl⟩) cx sx (hqZ15.fz fz hm) (show WF[42]? = some (20, 14, 42) from rfl) (in_t1 (List.mem_of_getElem? (i := 124) rfl) rfl) (Nat.le_of_ble_eq_true rfl) (Nat.le_of_ble_eq_true rfl) (pc := 112) (by decide +kernel) (fun H1 sx => ?_)
  refine n_putF (t := 9) (k := 26) (j := 13) (index := 52) cx sx (by omega) (by decide) (show WF[26]? = some (9, 0, 26) from rfl) (by decide) rfl (by rw [show (fp 9 13 26).2.2 = 42 from rfl, cx.2.2.2.2.2.2.2.2.1 42 (by omega)]) rfl (in_t1 (List.mem_of_getElem? (i := 195) rfl) rfl) rfl rfl (fun _ => rfl) (fun _ => rfl) (pc := 114) (by decide +kernel) (fun H1 locs1 sx => ?_)
  rw [← eZ16] at sx
  refine n_ald cx hl (i := 0) (k3 := 0) (t := 9) (k := 26) (pc := 117) rfl rfl (by omega) (by decide +kernel) ?_
  refine n_new (t := 1) (n := 43) (index := 55) cx sx (hqZ16.fz fz hm) (by decide) (show WF[43]? = some (1, 0, 43) from rfl) (in_t1 (List.mem_of_getElem? (i := 104) rfl) rfl) (in_t1 (List.mem_of_getElem? (i := 105) rfl) rfl) (in_t1 (List.mem_of_getElem? (i := 5) rfl) rfl) (Nat.le_of_ble_eq_true rfl) (Nat.le_of_ble_eq_true rfl) (pc := 118) (by decide +kernel) (fun H1 sx => ?_)
  refine lv_dup cx.1.1 cx.1.2.1 (pc := 121) (by decide +kernel) rfl ?_
  refine n_init (t := 1) (k := 43) (index := 57) (as := []) cc4 cx sx (by omega) hls (in_t1 (List.mem_of_getElem? (i := 108) rfl) rfl) (in_t1 (List.mem_of_getElem? (i := 5) rfl) rfl) (.inr ⟨"IceParliament$Law", by decide, rfl⟩) (in_t1 (List.mem_of_getElem? (i := 107) rfl) rfl) rfl ⟨by decide, by decide, rfl⟩ ⟨Nat.le_of_ble_eq_true rfl, Nat.le_of_ble_eq_true rfl⟩ ⟨Nat.le_of_ble_eq_true rfl, Nat.le_of_ble_eq_true rfl⟩ (Nat.le_of_ble_eq_true rfl) (pc := 122) (by decide +kernel) (fun H1 locs1 sx => ?_)
  refine n_putF (t := 9) (k := 26) (j := 16) (index := 58) cx sx (by omega) (by decide) (show WF[26]? = some (9, 0, 26) from rfl) (by decide) rfl (by rw [show (fp 9 16 26).2.2 = 43 from rfl, cx.2.2.2.2.2.2.2.2.1 43 (by omega)]) rfl (in_t1 (List.mem_of_getElem? (i := 203) rfl) rfl) rfl rfl (fun _ => rfl) (fun _ => rfl) (pc := 125) (by decide +kernel) (fun H1 locs1 sx => ?_)
  rw [← eZ18] at sx
  refine n_ald cx hl (i := 0) (k3 := 0) (t := 9) (k := 26) (pc := 128) rfl rfl (by omega) (by decide +kernel) ?_
  refine n_new (t := 1) (n := 46) (index := 55) cx sx (hqZ18.fz fz hm) (by decide) (show WF[46]? = some (1, 0, 46) from rfl) (in_t1 (List.mem_of_getElem? (i := 104) rfl) rfl) (in_t1 (List.mem_of_getElem? (i := 105) rfl) rfl) (in_t1 (List.mem_of_getElem? (i := 5) rfl) rfl) (Nat.le_of_ble_eq_true rfl) (Nat.le_of_ble_eq_true rfl) (pc := 129) (by decide +kernel) (fun H1 sx => ?_)
  refine lv_dup cx.1.1 cx.1.2.1 (pc := 132) (by decide +kernel) rfl ?_
  refine n_init (t := 1) (k := 46) (index := 57) (as := []) cc5 cx sx (by omega) hls (in_t1 (List.mem_of_getElem? (i := 108) rfl) rfl) (in_t1 (List.mem_of_getElem? (i := 5) rfl) rfl) (.inr ⟨"IceParliament$Law", by decide, rfl⟩) (in_t1 (List.mem_of_getElem? (i := 107) rfl) rfl) rfl ⟨by decide, by decide, rfl⟩ ⟨Nat.le_of_ble_eq_true rfl, Nat.le_of_ble_eq_true rfl⟩ ⟨Nat.le_of_ble_eq_true rfl, Nat.le_of_ble_eq_true rfl⟩ (Nat.le_of_ble_eq_true rfl) (pc := 133) (by decide +kernel) (fun H1 locs1 sx => ?_)
  refine n_putF (t := 9) (k := 26) (j := 17) (index := 62) cx sx (by omega) (by decide) (show WF[26]? = some (9, 0, 26) from rfl) (by decide) rfl (by rw [show (fp 9 17 26).2.2 = 46 from rfl, cx.2.2.2.2.2.2.2.2.1 46 (by omega)]) rfl (in_t1 (List.mem_of_getElem? (i := 204) rfl) rfl) rfl rfl (fun _ => rfl) (fun _ => rfl) (pc := 136) (by decide +kernel) (fun H1 locs1 sx => ?_)
  rw [← eZ20] at sx
  refine n_ald cx hl (i := 0) (k3 := 0) (t := 9) (k := 26) (pc := 139) rfl rfl (by omega) (by decide +kernel) ?_
  refine n_evI (x := 0) (t := 9) (k := 26) (index := 65) (as := []) (ks := (List.range 23).map (· + 26)) rfl ev1 rfl (by decide +kernel) (by decide) rfl (by decide +kernel) (by decide +kernel) (Clo_of (by decide +kernel)) (WT_of (by decide +kernel)) (by decide +kernel)
    (fun i hi b => by
      have z := (show ∀ i ∈ (List.range 23).map (· + 26), 26 ≤ i ∧ i < 49 from by decide +kernel) i hi
      exact pz.2 i z.1 z.2 b) hfr (fun v hv => by rcases List.mem_singleton.mp hv with rfl; exact .inl (show ((9, 0, 26) : Ref3) ∈ wI ((List.range 23).map (· + 26)) from by decide +kernel)) cx sx (by rw [hsz]) (by decide) hls (in_t1 (List.mem_of_getElem? (i := 125) rfl) rfl) (in_t1 (List.mem_of_getElem? (i := 126) rfl) rfl) (in_t1 (List.mem_of_getElem? (i := 127) rfl) rfl) rfl ⟨Nat.le_of_ble_eq_true rfl, Nat.le_of_ble_eq_true rfl⟩ ⟨Nat.le_of_ble_eq_true rfl, Nat.le_of_ble_eq_true rfl⟩ (Nat.le_of_ble_eq_true rfl) (pc := 140) (by decide +kernel) (fun H1 locs1 sx => ?_)
  exact n_ret cx sx (Nat.le_of_ble_eq_true rfl) (Nat.le_of_ble_eq_true rfl) (pc := 143) (by decide +kernel)
set_option maxRecDepth 20000 in
set_option maxHeartbeats 1000000 in
theorem c_State60 (fz : Fz 60 M Z) (hm : Mz 60 M) (hY : ∀ a, 3 ≤ a → a ≤ 25 → ∀ b, Z a b = false) : ∃ M' Z', CNt ⟨"IceParliament$State", "<init>", "(LIceParliament$Yard;)V"⟩ prog_8_method_1_code 2 3 6 36 [vR 6 0 60, vR 9 0 3] 61 M Z 67 M' Z' ∧ PZ 60 67 Z Z' ∧ SC (staS M.1) 60 M' ∧ Fr (fun c _ => 60 ≤ c ∧ c ≤ 60 + 6) M M' := by
  have hq : QZ 60 [] 61 Z Z := QZ.start
  have hqa := hq.arr fz (show WF[61]? = some (20, 6, 61) from rfl) (by decide)
  obtain ⟨Z1, eZ1⟩ : ∃ Z1, Z1 = uZ Z 60 1 := ⟨_, rfl⟩
  have hqZ1 := hqa.put eZ1
  have hqZ1a := hqZ1.arr fz (show WF[62]? = some (20, 6, 62) from rfl) (by decide)
  obtain ⟨Z2, eZ2⟩ : ∃ Z2, Z2 = uZ Z1 60 2 := ⟨_, rfl⟩
  have hqZ2 := hqZ1a.put eZ2
  have hqZ2a := hqZ2.arr fz (show WF[63]? = some (20, 6, 63) from rfl) (by decide)
  obtain ⟨Z3, eZ3⟩ : ∃ Z3, Z3 = uZ Z2 60 3 := ⟨_, rfl⟩
  have hqZ3 := hqZ2a.put eZ3
  have hqZ3a := hqZ3.arr fz (show WF[64]? = some (20, 6, 64) from rfl) (by decide)
  obtain ⟨Z4, eZ4⟩ : ∃ Z4, Z4 = uZ Z3 60 4 := ⟨_, rfl⟩
  have hqZ4 := hqZ3a.put eZ4
  have hqZ4a := hqZ4.arr fz (show WF[65]? = some (20, 6, 65) from rfl) (by decide)
  obtain ⟨Z5, eZ5⟩ : ∃ Z5, Z5 = uZ Z4 60 5 := ⟨_, rfl⟩
  have hqZ5 := hqZ4a.put eZ5
  have hqZ5a := hqZ5.arr fz (show WF[66]? = some (20, 6, 66) from rfl) (by decide)
  obtain ⟨Z6, eZ6⟩ : ∃ Z6, Z6 = uZ Z5 60 6 := ⟨_, rfl⟩
  have hqZ6 := hqZ5a.put eZ6
  obtain ⟨Z7, eZ7⟩ : ∃ Z7, Z7 = uZ Z6 60 10 := ⟨_, rfl⟩
  have hqZ7 := hqZ6.put eZ7
  obtain ⟨a1, M1, ev1, ha1, sc1, fr1⟩ := sp5 (d := 0) (Y := M.1) (M := M) (k := 60) ⟨rfl, rfl, rfl, rfl, rfl, rfl, rfl, rfl, rfl, rfl, rfl, rfl, rfl, rfl, rfl, rfl, rfl, rfl⟩ (by decide)
  subst ha1
  have pz := hqZ7.fin fz (show WF[60]? = some (6, 0, 60) from rfl) (by decide)
  have hfr : Fr (fun c _ => c ∈ (List.range 23).map (· + 3) ++ (List.range 7).map (· + 60)) M M1 := fr1.up (fun c j z => (show ∀ c, 60 ≤ c → c < 67 → c ∈ (List.range 23).map (· + 3) ++ (List.range 7).map (· + 60) from fun c h1 h2 => by rcases (show c = 60 ∨ c = 61 ∨ c = 62 ∨ c = 63 ∨ c = 64 ∨ c = 65 ∨ c = 66 by omega) with rfl | rfl | rfl | rfl | rfl | rfl | rfl <;> decide) c z.1 (by omega))
  refine ⟨M1, Z7, CNt_of (own := "IceParliament$State") (by decide) rfl rfl (Nat.le_of_ble_eq_true rfl) (fun B => Nat.le_add_right B _) ?_, hqZ7.fin fz (show WF[60]? = some (6, 0, 60) from rfl) (by decide), sc1, fr1⟩
  intro p l e s m args below meth c dC dI cA ρ B ls cx sx hsz hl
  have hls : ls.size = 2 := by obtain ⟨l0, h0, -⟩ := hl; exact h0.1
  refine n_ald cx hl (i := 0) (k3 := 0) (t := 6) (k := 60) (pc := 0) rfl rfl (by omega) (by decide +kernel) ?_
  refine n_obj (k := 60) (index := 3) cx hl (in_t2 (List.mem_of_getElem? (i := 76) rfl) rfl) (in_t1 (List.mem_of_getElem? (i := 33) rfl) rfl) (in_t1 (List.mem_of_getElem? (i := 34) rfl) rfl) ⟨Nat.le_of_ble_eq_true rfl, Nat.le_of_ble_eq_true rfl⟩ (by decide) (pc := 1) (by decide +kernel) ?_
  refine n_ald cx hl (i := 0) (k3 := 0) (t := 6) (k := 60) (pc := 4) rfl rfl (by omega) (by decide +kernel) ?_
  refine lv_bipush cx.1.1 cx.1.2.1 (n := 6) (v := Int32.ofNat 6) (pc := 5) (by decide +kernel) (by decide) ?_
  refine n_newa (t := 20) (N := 6) (n := 61) (aty := .int) (ty := .int) (index := 0) rfl (by omega) rfl (.inl ⟨rfl, rfl⟩) cx sx (hq.fz fz hm) (show WF[61]? = some (20, 6, 61) from rfl) (in_t1 (List.mem_of_getElem? (i := 124) rfl) rfl) (Nat.le_of_ble_eq_true rfl) (Nat.le_of_ble_eq_true rfl) (pc := 7) (by decide +kernel) (fun H1 sx => ?_)
  refine n_putF (t := 6) (k := 60) (j := 1) (index := 9) cx sx (by omega) (by decide) (show WF[60]? = some (6, 0, 60) from rfl) (by decide) rfl (by rw [show (fp 6 1 60).2.2 = 61 from rfl, cx.2.2.2.2.2.2.2.2.1 61 (by omega)]) rfl (in_t2 (List.mem_of_getElem? (i := 88) rfl) rfl) rfl rfl (fun _ => rfl) (fun _ => rfl) (pc := 9) (by decide +kernel) (fun H1 locs1 sx => ?_)
  rw [← eZ1] at sx
  refine n_ald cx hl (i := 0) (k3 := 0) (t := 6) (k := 60) (pc := 12) rfl rfl (by omega) (by decide +kernel) ?_
  refine lv_bipush cx.1.1 cx.1.2.1 (n := 6) (v := Int32.ofNat 6) (pc := 13) (by decide +kernel) (by decide) ?_
  refine n_newa (t := 20) (N := 6) (n := 62) (aty := .int) (ty := .int) (index := 0) rfl (by omega) rfl (.inl ⟨rfl, rfl⟩) cx sx (hqZ1.fz fz hm) (show WF[62]? = some (20, 6, 62) from rfl) (in_t1 (List.mem_of_getElem? (i := 124) rfl) rfl) (Nat.le_of_ble_eq_true rfl) (Nat.le_of_ble_eq_true rfl) (pc := 15) (by decide +kernel) (fun H1 sx => ?_)
  refine n_putF (t := 6) (k := 60) (j := 2) (index := 15) cx sx (by omega) (by decide) (show WF[60]? = some (6, 0, 60) from rfl) (by decide) rfl (by rw [show (fp 6 2 60).2.2 = 62 from rfl, cx.2.2.2.2.2.2.2.2.1 62 (by omega)]) rfl (in_t2 (List.mem_of_getElem? (i := 92) rfl) rfl) rfl rfl (fun _ => rfl) (fun _ => rfl) (pc := 17) (by decide +kernel) (fun H1 locs1 sx => ?_)
  rw [← eZ2] at sx
  refine n_ald cx hl (i := 0) (k3 := 0) (t := 6) (k := 60) (pc := 20) rfl rfl (by omega) (by decide +kernel) ?_
  refine lv_bipush cx.1.1 cx.1.2.1 (n := 6) (v := Int32.ofNat 6) (pc := 21) (by decide +kernel) (by decide) ?_
  refine n_newa (t := 20) (N := 6) (n := 63) (aty := .int) (ty := .int) (index := 0) rfl (by omega) rfl (.inl ⟨rfl, rfl⟩) cx sx (hqZ2.fz fz hm) (show WF[63]? = some (20, 6, 63) from rfl) (in_t1 (List.mem_of_getElem? (i := 124) rfl) rfl) (Nat.le_of_ble_eq_true rfl) (Nat.le_of_ble_eq_true rfl) (pc := 23) (by decide +kernel) (fun H1 sx => ?_)
  refine n_putF (t := 6) (k := 60) (j := 3) (index := 18) cx sx (by omega) (by decide) (show WF[60]? = some (6, 0, 60) from rfl) (by decide) rfl (by rw [show (fp 6 3 60).2.2 = 63 from rfl, cx.2.2.2.2.2.2.2.2.1 63 (by omega)]) rfl (in_t2 (List.mem_of_getElem? (i := 95) rfl) rfl) rfl rfl (fun _ => rfl) (fun _ => rfl) (pc := 25) (by decide +kernel) (fun H1 locs1 sx => ?_)
  rw [← eZ3] at sx
  refine n_ald cx hl (i := 0) (k3 := 0) (t := 6) (k := 60) (pc := 28) rfl rfl (by omega) (by decide +kernel) ?_
  refine lv_bipush cx.1.1 cx.1.2.1 (n := 6) (v := Int32.ofNat 6) (pc := 29) (by decide +kernel) (by decide) ?_
  refine n_newa (t := 20) (N := 6) (n := 64) (aty := .int) (ty := .int) (index := 0) rfl (by omega) rfl (.inl ⟨rfl, rfl⟩) cx sx (hqZ3.fz fz hm) (show WF[64]? = some (20, 6, 64) from rfl) (in_t1 (List.mem_of_getElem? (i := 124) rfl) rfl) (Nat.le_of_ble_eq_true rfl) (Nat.le_of_ble_eq_true rfl) (pc := 31) (by decide +kernel) (fun H1 sx => ?_)
  refine n_putF (t := 6) (k := 60) (j := 4) (index := 21) cx sx (by omega) (by decide) (show WF[60]? = some (6, 0, 60) from rfl) (by decide) rfl (by rw [show (fp 6 4 60).2.2 = 64 from rfl, cx.2.2.2.2.2.2.2.2.1 64 (by omega)]) rfl (in_t2 (List.mem_of_getElem? (i := 99) rfl) rfl) rfl rfl (fun _ => rfl) (fun _ => rfl) (pc := 33) (by decide +kernel) (fun H1 locs1 sx => ?_)
  rw [← eZ4] at sx
  refine n_ald cx hl (i := 0) (k3 := 0) (t := 6) (k := 60) (pc := 36) rfl rfl (by omega) (by decide +kernel) ?_
  refine lv_bipush cx.1.1 cx.1.2.1 (n := 6) (v := Int32.ofNat 6) (pc := 37) (by decide +kernel) (by decide) ?_
  refine n_newa (t := 20) (N := 6) (n := 65) (aty := .int) (ty := .int) (index := 0) rfl (by omega) rfl (.inl ⟨rfl, rfl⟩) cx sx (hqZ4.fz fz hm) (show WF[65]? = some (20, 6, 65) from rfl) (in_t1 (List.mem_of_getElem? (i := 124) rfl) rfl) (Nat.le_of_ble_eq_true rfl) (Nat.le_of_ble_eq_true rfl) (pc := 39) (by decide +kernel) (fun H1 sx => ?_)
  refine n_putF (t := 6) (k := 60) (j := 5) (index := 24) cx sx (by omega) (by decide) (show WF[60]? = some (6, 0, 60) from rfl) (by decide) rfl (by rw [show (fp 6 5 60).2.2 = 65 from rfl, cx.2.2.2.2.2.2.2.2.1 65 (by omega)]) rfl (in_t2 (List.mem_of_getElem? (i := 102) rfl) rfl) rfl rfl (fun _ => rfl) (fun _ => rfl) (pc := 41) (by decide +kernel) (fun H1 locs1 sx => ?_)
  rw [← eZ5] at sx
  refine n_ald cx hl (i := 0) (k3 := 0) (t := 6) (k := 60) (pc := 44) rfl rfl (by omega) (by decide +kernel) ?_
  refine lv_bipush cx.1.1 cx.1.2.1 (n := 6) (v := Int32.ofNat 6) (pc := 45) (by decide +kernel) (by decide) ?_
  refine n_newa (t := 20) (N := 6) (n := 66) (aty := .int) (ty := .int) (index := 0) rfl (by omega) rfl (.inl ⟨rfl, rfl⟩) cx sx (hqZ5.fz fz hm) (show WF[66]? = some (20, 6, 66) from rfl) (in_t1 (List.mem_of_getElem? (i := 124) rfl) rfl) (Nat.le_of_ble_eq_true rfl) (Nat.le_of_ble_eq_true rfl) (pc := 47) (by decide +kernel) (fun H1 sx => ?_)
  refine n_putF (t := 6) (k := 60) (j := 6) (index := 27) cx sx (by omega) (by decide) (show WF[60]? = some (6, 0, 60) from rfl) (by decide) rfl (by rw [show (fp 6 6 60).2.2 = 66 from rfl, cx.2.2.2.2.2.2.2.2.1 66 (by omega)]) rfl (in_t2 (List.mem_of_getElem? (i := 106) rfl) rfl) rfl rfl (fun _ => rfl) (fun _ => rfl) (pc := 49) (by decide +kernel) (fun H1 locs1 sx => ?_)
  rw [← eZ6] at sx
  refine n_ald cx hl (i := 0) (k3 := 0) (t := 6) (k := 60) (pc := 52) rfl rfl (by omega) (by decide +kernel) ?_
  refine n_ald cx hl (i := 1) (k3 := 1) (t := 9) (k := 3) (pc := 53) rfl rfl (by omega) (by decide +kernel) ?_
  refine n_putF (t := 6) (k := 60) (j := 10) (index := 30) cx sx (by omega) (by decide) (show WF[60]? = some (6, 0, 60) from rfl) (by decide) rfl (by rw [show (fp 6 10 60).2.2 = 3 from rfl, cx.2.2.2.2.2.2.2.2.1 3 (by omega)]) rfl (in_t2 (List.mem_of_getElem? (i := 116) rfl) rfl) rfl rfl (fun _ => rfl) (fun _ => rfl) (pc := 54) (by decide +kernel) (fun H1 locs1 sx => ?_)
  rw [← eZ7] at sx
  refine n_ald cx hl (i := 0) (k3 := 0) (t := 6) (k := 60) (pc := 57) rfl rfl (by omega) (by decide +kernel) ?_
  refine n_evI (x := 5) (t := 6) (k := 60) (index := 34) (as := []) (ks := (List.range 23).map (· + 3) ++ (List.range 7).map (· + 60)) rfl ev1 rfl (by decide +kernel) (by decide) rfl (by decide +kernel) (by decide +kernel) (Clo_of (by decide +kernel)) (WT_of (by decide +kernel)) (by decide +kernel)
    (fun i hi b => by
      rcases (show ∀ i ∈ (List.range 23).map (· + 3) ++ (List.range 7).map (· + 60), (3 ≤ i ∧ i ≤ 25) ∨ (60 ≤ i ∧ i < 67) from by decide +kernel) i hi with z | z
      · rw [pz.1 i b (.inl (by omega))]; exact hY i z.1 z.2 b
      · exact pz.2 i z.1 z.2 b) hfr (fun v hv => by rcases List.mem_singleton.mp hv with rfl; exact .inl (show ((6, 0, 60) : Ref3) ∈ wI ((List.range 23).map (· + 3) ++ (List.range 7).map (· + 60)) from by decide +kernel)) cx sx (by rw [hsz]) (by decide) hls (in_t2 (List.mem_of_getElem? (i := 77) rfl) rfl) (in_t2 (List.mem_of_getElem? (i := 78) rfl) rfl) (in_t2 (List.mem_of_getElem? (i := 79) rfl) rfl) rfl ⟨Nat.le_of_ble_eq_true rfl, Nat.le_of_ble_eq_true rfl⟩ ⟨Nat.le_of_ble_eq_true rfl, Nat.le_of_ble_eq_true rfl⟩ (Nat.le_of_ble_eq_true rfl) (pc := 58) (by decide +kernel) (fun H1 locs1 sx => ?_)
  exact n_ret cx sx (Nat.le_of_ble_eq_true rfl) (Nat.le_of_ble_eq_true rfl) (pc := 61) (by decide +kernel)
end NCON2
