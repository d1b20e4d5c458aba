/-! CONSTRUCTORS, by a program (gen98b.py) -/
section NCON
variable {M M' : Mem} {Z Z' : Zs}
set_option maxRecDepth 20000 in
theorem c_Roll {k : Nat} (hk : k < 10000 - 2) (h0 : WF[k]? = some (4, 0, k)) (h1 : WF[k + 1]? = some (23, 6, k + 1)) (fz : Fz k M Z) (hm : Mz k M) : ∃ Z', CNt ⟨"IceParliament$Roll", "<init>", "()V"⟩ prog_6_method_1_code 1 1 1 6 [vR 4 0 k] (k + 1) M Z (k + 2) M Z' ∧ PZ k (k + 2) Z Z' := by
  have hq : QZ k [] (k + 1) Z Z := QZ.start
  have hqa := hq.arr fz h1 (by decide)
  obtain ⟨Z1, eZ1⟩ : ∃ Z1, Z1 = uZ Z k 1 := ⟨_, rfl⟩
  have hqZ1 := hqa.put eZ1
  refine ⟨Z1, CNt_of (own := "IceParliament$Roll") (by decide) rfl rfl (Nat.le_of_ble_eq_true rfl) (fun B => Nat.le_add_right B _) ?_, hqZ1.fin fz h0 (by decide)⟩
  intro p l e s m args below meth c dC dI cA ρ B ls cx sx hsz hl
  have hls : ls.size = 1 := by obtain ⟨l0, h0, -⟩ := hl; exact h0.1
  refine n_ald cx hl (i := 0) (k3 := 0) (t := 4) (k := k) (pc := 0) rfl rfl (by omega) (by decide +kernel) ?_
  refine n_obj (k := k) (index := 3) cx hl (in_t1 (List.mem_of_getElem? (i := 88) rfl) rfl) (in_t1 (List.mem_of_getElem? (i := 33) rfl) rfl) (in_t1 (List.mem_of_getElem? (i := 34) rfl) rfl) ⟨Nat.le_of_ble_eq_true rfl, Nat.le_of_ble_eq_true rfl⟩ (by decide) (pc := 1) (by decide +kernel) ?_
  refine n_ald cx hl (i := 0) (k3 := 0) (t := 4) (k := k) (pc := 4) rfl rfl (by omega) (by decide +kernel) ?_
  refine lv_bipush cx.1.1 cx.1.2.1 (n := 6) (v := Int32.ofNat 6) (pc := 5) (by decide +kernel) (by decide) ?_
  refine n_newa (t := 23) (N := 6) (n := k + 1) (aty := .long) (ty := .long) (index := 0) rfl (by omega) rfl (.inr (.inr (.inr ⟨rfl, rfl⟩))) cx sx (hq.fz fz hm) h1 (in_t1 (List.mem_of_getElem? (i := 103) rfl) rfl) (Nat.le_of_ble_eq_true rfl) (Nat.le_of_ble_eq_true rfl) (pc := 7) (by decide +kernel) (fun H1 sx => ?_)
  refine n_putF (t := 4) (k := k) (j := 1) (index := 9) cx sx (by omega) (by decide) h0 (by decide) rfl (by rw [show (fp 4 1 k).2.2 = k + 1 from rfl, cx.2.2.2.2.2.2.2.2.1 (k + 1) (by omega)]) rfl (in_t1 (List.mem_of_getElem? (i := 97) rfl) rfl) rfl rfl (fun _ => rfl) (fun _ => rfl) (pc := 9) (by decide +kernel) (fun H1 locs1 sx => ?_)
  rw [← eZ1] at sx
  exact n_ret cx sx (Nat.le_of_ble_eq_true rfl) (Nat.le_of_ble_eq_true rfl) (pc := 12) (by decide +kernel)
set_option maxRecDepth 20000 in
theorem c_Law {k : Nat} (hk : k < 10000 - 3) (h0 : WF[k]? = some (1, 0, k)) (h1 : WF[k + 1]? = some (20, 1000, k + 1)) (h2 : WF[k + 2]? = some (20, 32, k + 2)) (fz : Fz k M Z) (hm : Mz k M) : ∃ Z', CNt ⟨"IceParliament$Law", "<init>", "()V"⟩ prog_3_method_1_code 1 1 2 1032 [vR 1 0 k] (k + 1) M Z (k + 3) M Z' ∧ PZ k (k + 3) Z Z' := by
  have hq : QZ k [] (k + 1) Z Z := QZ.start
  have hqa := hq.arr fz h1 (by decide)
  obtain ⟨Z1, eZ1⟩ : ∃ Z1, Z1 = uZ Z k 1 := ⟨_, rfl⟩
  have hqZ1 := hqa.put eZ1
  have hqZ1a := hqZ1.arr fz h2 (by decide)
  obtain ⟨Z2, eZ2⟩ : ∃ Z2, Z2 = uZ Z1 k 3 := ⟨_, rfl⟩
  have hqZ2 := hqZ1a.put eZ2
  refine ⟨Z2, CNt_of (own := "IceParliament$Law") (by decide) rfl rfl (Nat.le_of_ble_eq_true rfl) (fun B => Nat.le_add_right B _) ?_, hqZ2.fin fz h0 (by decide)⟩
  intro p l e s m args below meth c dC dI cA ρ B ls cx sx hsz hl
  have hls : ls.size = 1 := by obtain ⟨l0, h0, -⟩ := hl; exact h0.1
  refine n_ald cx hl (i := 0) (k3 := 0) (t := 1) (k := k) (pc := 0) rfl rfl (by omega) (by decide +kernel) ?_
  refine n_obj (k := k) (index := 1) cx hl (in_t1 (List.mem_of_getElem? (i := 109) rfl) rfl) (in_t1 (List.mem_of_getElem? (i := 33) rfl) rfl) (in_t1 (List.mem_of_getElem? (i := 34) rfl) rfl) ⟨Nat.le_of_ble_eq_true rfl, Nat.le_of_ble_eq_true rfl⟩ (by decide) (pc := 1) (by decide +kernel) ?_
  refine n_ald cx hl (i := 0) (k3 := 0) (t := 1) (k := k) (pc := 4) rfl rfl (by omega) (by decide +kernel) ?_
  refine lv_sipush cx.1.1 cx.1.2.1 (n := 1000) (v := Int32.ofNat 1000) (pc := 5) (by decide +kernel) (by decide) ?_
  refine n_newa (t := 20) (N := 1000) (n := k + 1) (aty := .int) (ty := .int) (index := 0) rfl (by omega) rfl (.inl ⟨rfl, rfl⟩) cx sx (hq.fz fz hm) h1 (in_t1 (List.mem_of_getElem? (i := 124) rfl) rfl) (Nat.le_of_ble_eq_true rfl) (Nat.le_of_ble_eq_true rfl) (pc := 8) (by decide +kernel) (fun H1 sx => ?_)
  refine n_putF (t := 1) (k := k) (j := 1) (index := 9) cx sx (by omega) (by decide) h0 (by decide) rfl (by rw [show (fp 1 1 k).2.2 = k + 1 from rfl, cx.2.2.2.2.2.2.2.2.1 (k + 1) (by omega)]) rfl (in_t1 (List.mem_of_getElem? (i := 112) rfl) rfl) rfl rfl (fun _ => rfl) (fun _ => rfl) (pc := 10) (by decide +kernel) (fun H1 locs1 sx => ?_)
  rw [← eZ1] at sx
  refine n_ald cx hl (i := 0) (k3 := 0) (t := 1) (k := k) (pc := 13) rfl rfl (by omega) (by decide +kernel) ?_
  refine lv_bipush cx.1.1 cx.1.2.1 (n := 32) (v := Int32.ofNat 32) (pc := 14) (by decide +kernel) (by decide) ?_
  refine n_newa (t := 20) (N := 32) (n := k + 2) (aty := .int) (ty := .int) (index := 0) rfl (by omega) rfl (.inl ⟨rfl, rfl⟩) cx sx (hqZ1.fz fz hm) h2 (in_t1 (List.mem_of_getElem? (i := 124) rfl) rfl) (Nat.le_of_ble_eq_true rfl) (Nat.le_of_ble_eq_true rfl) (pc := 16) (by decide +kernel) (fun H1 sx => ?_)
  refine n_putF (t := 1) (k := k) (j := 3) (index := 15) cx sx (by omega) (by decide) h0 (by decide) rfl (by rw [show (fp 1 3 k).2.2 = k + 2 from rfl, cx.2.2.2.2.2.2.2.2.1 (k + 2) (by omega)]) rfl (in_t1 (List.mem_of_getElem? (i := 114) rfl) rfl) rfl rfl (fun _ => rfl) (fun _ => rfl) (pc := 18) (by decide +kernel) (fun H1 locs1 sx => ?_)
  rw [← eZ2] at sx
  exact n_ret cx sx (Nat.le_of_ble_eq_true rfl) (Nat.le_of_ble_eq_true rfl) (pc := 21) (by decide +kernel)
set_option maxRecDepth 20000 in
theorem c_Session {k : Nat} (hk : k < 10000 - 4) (h0 : WF[k]? = some (5, 0, k)) (h1 : WF[k + 1]? = some (20, 40, k + 1)) (h2 : WF[k + 2]? = some (20, 40, k + 2)) (h3 : WF[k + 3]? = some (20, 40, k + 3)) (fz : Fz k M Z) (hm : Mz k M) : ∃ Z', CNt ⟨"IceParliament$Session", "<init>", "()V"⟩ prog_7_method_1_code 1 1 3 120 [vR 5 0 k] (k + 1) M Z (k + 4) M Z' ∧ PZ k (k + 4) Z Z' := by
  have hq : QZ k [] (k + 1) Z Z := QZ.start
  have hqa := hq.arr fz h1 (by decide)
  obtain ⟨Z1, eZ1⟩ : ∃ Z1, Z1 = uZ Z k 0 := ⟨_, rfl⟩
  have hqZ1 := hqa.put eZ1
  have hqZ1a := hqZ1.arr fz h2 (by decide)
  obtain ⟨Z2, eZ2⟩ : ∃ Z2, Z2 = uZ Z1 k 1 := ⟨_, rfl⟩
  have hqZ2 := hqZ1a.put eZ2
  have hqZ2a := hqZ2.arr fz h3 (by decide)
  obtain ⟨Z3, eZ3⟩ : ∃ Z3, Z3 = uZ Z2 k 2 := ⟨_, rfl⟩
  have hqZ3 := hqZ2a.put eZ3
  refine ⟨Z3, CNt_of (own := "IceParliament$Session") (by decide) rfl rfl (Nat.le_of_ble_eq_true rfl) (fun B => Nat.le_add_right B _) ?_, hqZ3.fin fz h0 (by decide)⟩
  intro p l e s m args below meth c dC dI cA ρ B ls cx sx hsz hl
  have hls : ls.size = 1 := by obtain ⟨l0, h0, -⟩ := hl; exact h0.1
  refine n_ald cx hl (i := 0) (k3 := 0) (t := 5) (k := k) (pc := 0) rfl rfl (by omega) (by decide +kernel) ?_
  refine n_obj (k := k) (index := 3) cx hl (in_t2 (List.mem_of_getElem? (i := 52) rfl) rfl) (in_t1 (List.mem_of_getElem? (i := 33) rfl) rfl) (in_t1 (List.mem_of_getElem? (i := 34) rfl) rfl) ⟨Nat.le_of_ble_eq_true rfl, Nat.le_of_ble_eq_true rfl⟩ (by decide) (pc := 1) (by decide +kernel) ?_
  refine n_ald cx hl (i := 0) (k3 := 0) (t := 5) (k := k) (pc := 4) rfl rfl (by omega) (by decide +kernel) ?_
  refine lv_bipush cx.1.1 cx.1.2.1 (n := 40) (v := Int32.ofNat 40) (pc := 5) (by decide +kernel) (by decide) ?_
  refine n_newa (t := 20) (N := 40) (n := k + 1) (aty := .int) (ty := .int) (index := 0) rfl (by omega) rfl (.inl ⟨rfl, rfl⟩) cx sx (hq.fz fz hm) h1 (in_t1 (List.mem_of_getElem? (i := 124) rfl) rfl) (Nat.le_of_ble_eq_true rfl) (Nat.le_of_ble_eq_true rfl) (pc := 7) (by decide +kernel) (fun H1 sx => ?_)
  refine n_putF (t := 5) (k := k) (j := 0) (index := 11) cx sx (by omega) (by decide) h0 (by decide) rfl (by rw [show (fp 5 0 k).2.2 = k + 1 from rfl, cx.2.2.2.2.2.2.2.2.1 (k + 1) (by omega)]) rfl (in_t2 (List.mem_of_getElem? (i := 53) rfl) rfl) rfl rfl (fun _ => rfl) (fun _ => rfl) (pc := 9) (by decide +kernel) (fun H1 locs1 sx => ?_)
  rw [← eZ1] at sx
  refine n_ald cx hl (i := 0) (k3 := 0) (t := 5) (k := k) (pc := 12) rfl rfl (by omega) (by decide +kernel) ?_
  refine lv_bipush cx.1.1 cx.1.2.1 (n := 40) (v := Int32.ofNat 40) (pc := 13) (by decide +kernel) (by decide) ?_
  refine n_newa (t := 20) (N := 40) (n := k + 2) (aty := .int) (ty := .int) (index := 0) rfl (by omega) rfl (.inl ⟨rfl, rfl⟩) cx sx (hqZ1.fz fz hm) h2 (in_t1 (List.mem_of_getElem? (i := 124) rfl) rfl) (Nat.le_of_ble_eq_true rfl) (Nat.le_of_ble_eq_true rfl) (pc := 15) (by decide +kernel) (fun H1 sx => ?_)
  refine n_putF (t := 5) (k := k) (j := 1) (index := 15) cx sx (by omega) (by decide) h0 (by decide) rfl (by rw [show (fp 5 1 k).2.2 = k + 2 from rfl, cx.2.2.2.2.2.2.2.2.1 (k + 2) (by omega)]) rfl (in_t2 (List.mem_of_getElem? (i := 55) rfl) rfl) rfl rfl (fun _ => rfl) (fun _ => rfl) (pc := 17) (by decide +kernel) (fun H1 locs1 sx => ?_)
  rw [← eZ2] at sx
  refine n_ald cx hl (i := 0) (k3 := 0) (t := 5) (k := k) (pc := 20) rfl rfl (by omega) (by decide +kernel) ?_
  refine lv_bipush cx.1.1 cx.1.2.1 (n := 40) (v := Int32.ofNat 40) (pc := 21) (by decide +kernel) (by decide) ?_
  refine n_newa (t := 20) (N := 40) (n := k + 3) (aty := .int) (ty := .int) (index := 0) rfl (by omega) rfl (.inl ⟨rfl, rfl⟩) cx sx (hqZ2.fz fz hm) h3 (in_t1 (List.mem_of_getElem? (i := 124) rfl) rfl) (Nat.le_of_ble_eq_true rfl) (Nat.le_of_ble_eq_true rfl) (pc := 23) (by decide +kernel) (fun H1 sx => ?_)
  refine n_putF (t := 5) (k := k) (j := 2) (index := 18) cx sx (by omega) (by decide) h0 (by decide) rfl (by rw [show (fp 5 2 k).2.2 = k + 3 from rfl, cx.2.2.2.2.2.2.2.2.1 (k + 3) (by omega)]) rfl (in_t2 (List.mem_of_getElem? (i := 57) rfl) rfl) rfl rfl (fun _ => rfl) (fun _ => rfl) (pc := 25) (by decide +kernel) (fun H1 locs1 sx => ?_)
  rw [← eZ3] at sx
  exact n_ret cx sx (Nat.le_of_ble_eq_true rfl) (Nat.le_of_ble_eq_true rfl) (pc := 28) (by decide +kernel)
set_option maxRecDepth 20000 in
theorem c_Tape (fz : Fz 1 M Z) (hm : Mz 1 M) : ∃ Z', CNt ⟨"IceParliament$Tape", "<init>", "()V"⟩ prog_9_method_1_code 1 1 1 1000 [vR 7 0 1] 2 M Z 3 M Z' ∧ PZ 1 3 Z Z' := by
  have hq : QZ 1 [] 2 Z Z := QZ.start
  have hqa := hq.arr fz (show WF[2]? = some (21, 1000, 2) from rfl) (by decide)
  obtain ⟨Z1, eZ1⟩ : ∃ Z1, Z1 = uZ Z 1 4 := ⟨_, rfl⟩
  have hqZ1 := hqa.put eZ1
  refine ⟨Z1, CNt_of (own := "IceParliament$Tape") (by decide) rfl rfl (Nat.le_of_ble_eq_true rfl) (fun B => Nat.le_add_right B _) ?_, hqZ1.fin fz (show WF[1]? = some (7, 0, 1) from rfl) (by decide)⟩
  intro p l e s m args below meth c dC dI cA ρ B ls cx sx hsz hl
  have hls : ls.size = 1 := by obtain ⟨l0, h0, -⟩ := hl; exact h0.1
  refine n_ald cx hl (i := 0) (k3 := 0) (t := 7) (k := 1) (pc := 0) rfl rfl (by omega) (by decide +kernel) ?_
  refine n_obj (k := 1) (index := 3) cx hl (in_t1 (List.mem_of_getElem? (i := 40) rfl) rfl) (in_t1 (List.mem_of_getElem? (i := 33) rfl) rfl) (in_t1 (List.mem_of_getElem? (i := 34) rfl) rfl) ⟨Nat.le_of_ble_eq_true rfl, Nat.le_of_ble_eq_true rfl⟩ (by decide) (pc := 1) (by decide +kernel) ?_
  refine n_ald cx hl (i := 0) (k3 := 0) (t := 7) (k := 1) (pc := 4) rfl rfl (by omega) (by decide +kernel) ?_
  refine lv_sipush cx.1.1 cx.1.2.1 (n := 1000) (v := Int32.ofNat 1000) (pc := 5) (by decide +kernel) (by decide) ?_
  refine n_newa (t := 21) (N := 1000) (n := 2) (aty := .char) (ty := .char) (index := 0) rfl (by omega) rfl (.inr (.inl ⟨rfl, rfl⟩)) cx sx (hq.fz fz hm) (show WF[2]? = some (21, 1000, 2) from rfl) (in_t1 (List.mem_of_getElem? (i := 76) rfl) rfl) (Nat.le_of_ble_eq_true rfl) (Nat.le_of_ble_eq_true rfl) (pc := 8) (by decide +kernel) (fun H1 sx => ?_)
  refine n_putF (t := 7) (k := 1) (j := 4) (index := 11) cx sx (by omega) (by decide) (show WF[1]? = some (7, 0, 1) from rfl) (by decide) rfl (by rw [show (fp 7 4 1).2.2 = 2 from rfl, cx.2.2.2.2.2.2.2.2.1 2 (by omega)]) rfl (in_t1 (List.mem_of_getElem? (i := 52) rfl) rfl) rfl rfl (fun _ => rfl) (fun _ => rfl) (pc := 10) (by decide +kernel) (fun H1 locs1 sx => ?_)
  rw [← eZ1] at sx
  exact n_ret cx sx (Nat.le_of_ble_eq_true rfl) (Nat.le_of_ble_eq_true rfl) (pc := 13) (by decide +kernel)
set_option maxRecDepth 20000 in
theorem c_LawReader (fz : Fz 50 M Z) (hm : Mz 50 M) : ∃ Z', CNt ⟨"IceParliament$LawReader", "<init>", "(LIceParliament$Tape;LIceParliament$Law;)V"⟩ prog_4_method_1_code 3 1 1 48 [vR 2 0 50, vR 7 0 1, vR 1 0 43] 51 M Z 52 (sR M 50 4 43) Z' ∧ PZ 50 52 Z Z' := by
  have hq : QZ 50 [] 51 Z Z := QZ.start
  have hqa := hq.arr fz (show WF[51]? = some (20, 48, 51) from rfl) (by decide)
  obtain ⟨Z1, eZ1⟩ : ∃ Z1, Z1 = uZ Z 50 1 := ⟨_, rfl⟩
  have hqZ1 := hqa.put eZ1
  obtain ⟨Z2, eZ2⟩ : ∃ Z2, Z2 = uZ Z1 50 0 := ⟨_, rfl⟩
  have hqZ2 := hqZ1.put eZ2
  obtain ⟨Z3, eZ3⟩ : ∃ Z3, Z3 = uZ Z2 50 4 := ⟨_, rfl⟩
  have hqZ3 := hqZ2.put eZ3
  refine ⟨Z3, CNt_of (own := "IceParliament$LawReader") (by decide) rfl rfl (Nat.le_of_ble_eq_true rfl) (fun B => Nat.le_add_right B _) ?_, hqZ3.fin fz (show WF[50]? = some (2, 0, 50) from rfl) (by decide)⟩
  intro p l e s m args below meth c dC dI cA ρ B ls cx sx hsz hl
  have hls : ls.size = 3 := by obtain ⟨l0, h0, -⟩ := hl; exact h0.1
  refine n_ald cx hl (i := 0) (k3 := 0) (t := 2) (k := 50) (pc := 0) rfl rfl (by omega) (by decide +kernel) ?_
  refine n_obj (k := 50) (index := 3) cx hl (in_t2 (List.mem_of_getElem? (i := 14) rfl) rfl) (in_t1 (List.mem_of_getElem? (i := 33) rfl) rfl) (in_t1 (List.mem_of_getElem? (i := 34) rfl) rfl) ⟨Nat.le_of_ble_eq_true rfl, Nat.le_of_ble_eq_true rfl⟩ (by decide) (pc := 1) (by decide +kernel) ?_
  refine n_ald cx hl (i := 0) (k3 := 0) (t := 2) (k := 50) (pc := 4) rfl rfl (by omega) (by decide +kernel) ?_
  refine lv_bipush cx.1.1 cx.1.2.1 (n := 48) (v := Int32.ofNat 48) (pc := 5) (by decide +kernel) (by decide) ?_
  refine n_newa (t := 20) (N := 48) (n := 51) (aty := .int) (ty := .int) (index := 0) rfl (by omega) rfl (.inl ⟨rfl, rfl⟩) cx sx (hq.fz fz hm) (show WF[51]? = some (20, 48, 51) from rfl) (in_t1 (List.mem_of_getElem? (i := 124) rfl) rfl) (Nat.le_of_ble_eq_true rfl) (Nat.le_of_ble_eq_true rfl) (pc := 7) (by decide +kernel) (fun H1 sx => ?_)
  refine n_putF (t := 2) (k := 50) (j := 1) (index := 9) cx sx (by omega) (by decide) (show WF[50]? = some (2, 0, 50) from rfl) (by decide) rfl (by rw [show (fp 2 1 50).2.2 = 51 from rfl, cx.2.2.2.2.2.2.2.2.1 51 (by omega)]) rfl (in_t2 (List.mem_of_getElem? (i := 16) rfl) rfl) rfl rfl (fun _ => rfl) (fun _ => rfl) (pc := 9) (by decide +kernel) (fun H1 locs1 sx => ?_)
  rw [← eZ1] at sx
  refine n_ald cx hl (i := 0) (k3 := 0) (t := 2) (k := 50) (pc := 12) rfl rfl (by omega) (by decide +kernel) ?_
  refine n_ald cx hl (i := 1) (k3 := 1) (t := 7) (k := 1) (pc := 13) rfl rfl (by omega) (by decide +kernel) ?_
  refine n_putF (t := 2) (k := 50) (j := 0) (index := 15) cx sx (by omega) (by decide) (show WF[50]? = some (2, 0, 50) from rfl) (by decide) rfl (by rw [show (fp 2 0 50).2.2 = 1 from rfl, cx.2.2.2.2.2.2.2.2.1 1 (by omega)]) rfl (in_t2 (List.mem_of_getElem? (i := 15) rfl) rfl) rfl rfl (fun _ => rfl) (fun _ => rfl) (pc := 14) (by decide +kernel) (fun H1 locs1 sx => ?_)
  rw [← eZ2] at sx
  refine n_ald cx hl (i := 0) (k3 := 0) (t := 2) (k := 50) (pc := 17) rfl rfl (by omega) (by decide +kernel) ?_
  refine n_ald cx hl (i := 2) (k3 := 2) (t := 1) (k := 43) (pc := 18) rfl rfl (by omega) (by decide +kernel) ?_
  refine n_putR (t := 2) (k := 50) (j := 4) (kl := 43) (index := 19) cx sx (by omega) (by decide) (show WF[50]? = some (2, 0, 50) from rfl) (by decide) rfl (by rw [cx.2.2.2.2.2.2.2.2.1 43 (by omega)]) rfl (in_t2 (List.mem_of_getElem? (i := 19) rfl) rfl) rfl rfl (fun _ => rfl) (fun _ => rfl) (pc := 19) (by decide +kernel) (fun H1 locs1 sx => ?_)
  rw [← eZ3] at sx
  exact n_ret cx sx (Nat.le_of_ble_eq_true rfl) (Nat.le_of_ble_eq_true rfl) (pc := 22) (by decide +kernel)
set_option maxRecDepth 20000 in
theorem c_Breath (fz : Fz 100 M Z) (hm : Mz 100 M) : ∃ Z', CNt ⟨"IceParliament$Breath", "<init>", "(LIceParliament$Yard;LIceParliament$State;)V"⟩ prog_2_method_1_code 3 1 4 97 [vR 0 0 100, vR 9 0 3, vR 6 0 60] 101 M Z 105 M Z' ∧ PZ 100 105 Z Z' := by
  have hq : QZ 100 [] 101 Z Z := QZ.start
  have hqa := hq.arr fz (show WF[101]? = some (20, 64, 101) from rfl) (by decide)
  obtain ⟨Z1, eZ1⟩ : ∃ Z1, Z1 = uZ Z 100 3 := ⟨_, rfl⟩
  have hqZ1 := hqa.put eZ1
  have hqZ1a := hqZ1.arr fz (show WF[102]? = some (20, 6, 102) from rfl) (by decide)
  obtain ⟨Z2, eZ2⟩ : ∃ Z2, Z2 = uZ Z1 100 4 := ⟨_, rfl⟩
  have hqZ2 := hqZ1a.put eZ2
  have hqZ2a := hqZ2.arr fz (show WF[103]? = some (20, 6, 103) from rfl) (by decide)
  obtain ⟨Z3, eZ3⟩ : ∃ Z3, Z3 = uZ Z2 100 5 := ⟨_, rfl⟩
  have hqZ3 := hqZ2a.put eZ3
  have hqZ3a := hqZ3.arr fz (show WF[104]? = some (20, 21, 104) from rfl) (by decide)
  obtain ⟨Z4, eZ4⟩ : ∃ Z4, Z4 = uZ Z3 100 6 := ⟨_, rfl⟩
  have hqZ4 := hqZ3a.put eZ4
  obtain ⟨Z5, eZ5⟩ : ∃ Z5, Z5 = uZ Z4 100 1 := ⟨_, rfl⟩
  have hqZ5 := hqZ4.put eZ5
  obtain ⟨Z6, eZ6⟩ : ∃ Z6, Z6 = uZ Z5 100 2 := ⟨_, rfl⟩
  have hqZ6 := hqZ5.put eZ6
  refine ⟨Z6, CNt_of (own := "IceParliament$Breath") (by decide) rfl rfl (Nat.le_of_ble_eq_true rfl) (fun B => Nat.le_add_right B _) ?_, hqZ6.fin fz (show WF[100]? = some (0, 0, 100) from rfl) (by decide)⟩
  intro p l e s m args below meth c dC dI cA ρ B ls cx sx hsz hl
  have hls : ls.size = 3 := by obtain ⟨l0, h0, -⟩ := hl; exact h0.1
  refine n_ald cx hl (i := 0) (k3 := 0) (t := 0) (k := 100) (pc := 0) rfl rfl (by omega) (by decide +kernel) ?_
  refine n_obj (k := 100) (index := 3) cx hl (in_t2 (List.mem_of_getElem? (i := 202) rfl) rfl) (in_t1 (List.mem_of_getElem? (i := 33) rfl) rfl) (in_t1 (List.mem_of_getElem? (i := 34) rfl) rfl) ⟨Nat.le_of_ble_eq_true rfl, Nat.le_of_ble_eq_true rfl⟩ (by decide) (pc := 1) (by decide +kernel) ?_
  refine n_ald cx hl (i := 0) (k3 := 0) (t := 0) (k := 100) (pc := 4) rfl rfl (by omega) (by decide +kernel) ?_
  refine lv_bipush cx.1.1 cx.1.2.1 (n := 64) (v := Int32.ofNat 64) (pc := 5) (by decide +kernel) (by decide) ?_
  refine n_newa (t := 20) (N := 64) (n := 101) (aty := .int) (ty := .int) (index := 0) rfl (by omega) rfl (.inl ⟨rfl, rfl⟩) cx sx (hq.fz fz hm) (show WF[101]? = some (20, 64, 101) from rfl) (in_t1 (List.mem_of_getElem? (i := 124) rfl) rfl) (Nat.le_of_ble_eq_true rfl) (Nat.le_of_ble_eq_true rfl) (pc := 7) (by decide +kernel) (fun H1 sx => ?_)
  refine n_putF (t := 0) (k := 100) (j := 3) (index := 9) cx sx (by omega) (by decide) (show WF[100]? = some (0, 0, 100) from rfl) (by decide) rfl (by rw [show (fp 0 3 100).2.2 = 101 from rfl, cx.2.2.2.2.2.2.2.2.1 101 (by omega)]) rfl (in_t2 (List.mem_of_getElem? (i := 207) rfl) rfl) rfl rfl (fun _ => rfl) (fun _ => rfl) (pc := 9) (by decide +kernel) (fun H1 locs1 sx => ?_)
  rw [← eZ1] at sx
  refine n_ald cx hl (i := 0) (k3 := 0) (t := 0) (k := 100) (pc := 12) rfl rfl (by omega) (by decide +kernel) ?_
  refine lv_bipush cx.1.1 cx.1.2.1 (n := 6) (v := Int32.ofNat 6) (pc := 13) (by decide +kernel) (by decide) ?_
  refine n_newa (t := 20) (N := 6) (n := 102) (aty := .int) (ty := .int) (index := 0) rfl (by omega) rfl (.inl ⟨rfl, rfl⟩) cx sx (hqZ1.fz fz hm) (show WF[102]? = some (20, 6, 102) from rfl) (in_t1 (List.mem_of_getElem? (i := 124) rfl) rfl) (Nat.le_of_ble_eq_true rfl) (Nat.le_of_ble_eq_true rfl) (pc := 15) (by decide +kernel) (fun H1 sx => ?_)
  refine n_putF (t := 0) (k := 100) (j := 4) (index := 15) cx sx (by omega) (by decide) (show WF[100]? = some (0, 0, 100) from rfl) (by decide) rfl (by rw [show (fp 0 4 100).2.2 = 102 from rfl, cx.2.2.2.2.2.2.2.2.1 102 (by omega)]) rfl (in_t2 (List.mem_of_getElem? (i := 208) rfl) rfl) rfl rfl (fun _ => rfl) (fun _ => rfl) (pc := 17) (by decide +kernel) (fun H1 locs1 sx => ?_)
  rw [← eZ2] at sx
  refine n_ald cx hl (i := 0) (k3 := 0) (t := 0) (k := 100) (pc := 20) rfl rfl (by omega) (by decide +kernel) ?_
  refine lv_bipush cx.1.1 cx.1.2.1 (n := 6) (v := Int32.ofNat 6) (pc := 21) (by decide +kernel) (by decide) ?_
  refine n_newa (t := 20) (N := 6) (n := 103) (aty := .int) (ty := .int) (index := 0) rfl (by omega) rfl (.inl ⟨rfl, rfl⟩) cx sx (hqZ2.fz fz hm) (show WF[103]? = some (20, 6, 103) from rfl) (in_t1 (List.mem_of_getElem? (i := 124) rfl) rfl) (Nat.le_of_ble_eq_true rfl) (Nat.le_of_ble_eq_true rfl) (pc := 23) (by decide +kernel) (fun H1 sx => ?_)
  refine n_putF (t := 0) (k := 100) (j := 5) (index := 18) cx sx (by omega) (by decide) (show WF[100]? = some (0, 0, 100) from rfl) (by decide) rfl (by rw [show (fp 0 5 100).2.2 = 103 from rfl, cx.2.2.2.2.2.2.2.2.1 103 (by omega)]) rfl (in_t2 (List.mem_of_getElem? (i := 209) rfl) rfl) rfl rfl (fun _ => rfl) (fun _ => rfl) (pc := 25) (by decide +kernel) (fun H1 locs1 sx => ?_)
  rw [← eZ3] at sx
  refine n_ald cx hl (i := 0) (k3 := 0) (t := 0) (k := 100) (pc := 28) rfl rfl (by omega) (by decide +kernel) ?_
  refine lv_bipush cx.1.1 cx.1.2.1 (n := 21) (v := Int32.ofNat 21) (pc := 29) (by decide +kernel) (by decide) ?_
  refine n_newa (t := 20) (N := 21) (n := 104) (aty := .int) (ty := .int) (index := 0) rfl (by omega) rfl (.inl ⟨rfl, rfl⟩) cx sx (hqZ3.fz fz hm) (show WF[104]? = some (20, 21, 104) from rfl) (in_t1 (List.mem_of_getElem? (i := 124) rfl) rfl) (Nat.le_of_ble_eq_true rfl) (Nat.le_of_ble_eq_true rfl) (pc := 31) (by decide +kernel) (fun H1 sx => ?_)
  refine n_putF (t := 0) (k := 100) (j := 6) (index := 21) cx sx (by omega) (by decide) (show WF[100]? = some (0, 0, 100) from rfl) (by decide) rfl (by rw [show (fp 0 6 100).2.2 = 104 from rfl, cx.2.2.2.2.2.2.2.2.1 104 (by omega)]) rfl (in_t2 (List.mem_of_getElem? (i := 210) rfl) rfl) rfl rfl (fun _ => rfl) (fun _ => rfl) (pc := 33) (by decide +kernel) (fun H1 locs1 sx => ?_)
  rw [← eZ4] at sx
  refine n_ald cx hl (i := 0) (k3 := 0) (t := 0) (k := 100) (pc := 36) rfl rfl (by omega) (by decide +kernel) ?_
  refine n_ald cx hl (i := 1) (k3 := 1) (t := 9) (k := 3) (pc := 37) rfl rfl (by omega) (by decide +kernel) ?_
  refine n_putF (t := 0) (k := 100) (j := 1) (index := 24) cx sx (by omega) (by decide) (show WF[100]? = some (0, 0, 100) from rfl) (by decide) rfl (by rw [show (fp 0 1 100).2.2 = 3 from rfl, cx.2.2.2.2.2.2.2.2.1 3 (by omega)]) rfl (in_t2 (List.mem_of_getElem? (i := 205) rfl) rfl) rfl rfl (fun _ => rfl) (fun _ => rfl) (pc := 38) (by decide +kernel) (fun H1 locs1 sx => ?_)
  rw [← eZ5] at sx
  refine n_ald cx hl (i := 0) (k3 := 0) (t := 0) (k := 100) (pc := 41) rfl rfl (by omega) (by decide +kernel) ?_
  refine n_ald cx hl (i := 2) (k3 := 2) (t := 6) (k := 60) (pc := 42) rfl rfl (by omega) (by decide +kernel) ?_
  refine n_putF (t := 0) (k := 100) (j := 2) (index := 28) cx sx (by omega) (by decide) (show WF[100]? = some (0, 0, 100) from rfl) (by decide) rfl (by rw [show (fp 0 2 100).2.2 = 60 from rfl, cx.2.2.2.2.2.2.2.2.1 60 (by omega)]) rfl (in_t2 (List.mem_of_getElem? (i := 206) rfl) rfl) rfl rfl (fun _ => rfl) (fun _ => rfl) (pc := 43) (by decide +kernel) (fun H1 locs1 sx => ?_)
  rw [← eZ6] at sx
  exact n_ret cx sx (Nat.le_of_ble_eq_true rfl) (Nat.le_of_ble_eq_true rfl) (pc := 46) (by decide +kernel)
set_option maxRecDepth 20000 in
theorem c_Planner (fz : Fz 69 M Z) (hm : Mz 69 M) : ∃ Z', CNt ⟨"IceParliament$Planner", "<init>", "(LIceParliament$Yard;LIceParliament$State;)V"⟩ prog_5_method_1_code 3 1 30 674 [vR 3 0 69, vR 9 0 3, vR 6 0 60] 70 M Z 100 M Z' ∧ PZ 69 100 Z Z' := by
  have hq : QZ 69 [] 70 Z Z := QZ.start
  have hqa := hq.arr fz (show WF[70]? = some (20, 6, 70) from rfl) (by decide)
  obtain ⟨Z1, eZ1⟩ : ∃ Z1, Z1 = uZ Z 69 0 := ⟨_, rfl⟩
  have hqZ1 := hqa.put eZ1
  have hqZ1a := hqZ1.arr fz (show WF[71]? = some (20, 6, 71) from rfl) (by decide)
  obtain ⟨Z2, eZ2⟩ : ∃ Z2, Z2 = uZ Z1 69 1 := ⟨_, rfl⟩
  have hqZ2 := hqZ1a.put eZ2
  have hqZ2a := hqZ2.arr fz (show WF[72]? = some (20, 4, 72) from rfl) (by decide)
  obtain ⟨Z3, eZ3⟩ : ∃ Z3, Z3 = uZ Z2 69 4 := ⟨_, rfl⟩
  have hqZ3 := hqZ2a.put eZ3
  have hqZ3a := hqZ3.arr fz (show WF[73]? = some (20, 6, 73) from rfl) (by decide)
  obtain ⟨Z4, eZ4⟩ : ∃ Z4, Z4 = uZ Z3 69 6 := ⟨_, rfl⟩
  have hqZ4 := hqZ3a.put eZ4
  have hqZ4a := hqZ4.arr fz (show WF[74]? = some (30, 6, 74) from rfl) (by decide)
  have hqZ4aa := hqZ4a.arr fz (show WF[75]? = some (20, 16, 75) from rfl) (by decide)
  have hqZ4aaa := hqZ4aa.arr fz (show WF[76]? = some (20, 16, 76) from rfl) (by decide)
  have hqZ4aaaa := hqZ4aaa.arr fz (show WF[77]? = some (20, 16, 77) from rfl) (by decide)
  have hqZ4aaaaa := hqZ4aaaa.arr fz (show WF[78]? = some (20, 16, 78) from rfl) (by decide)
  have hqZ4aaaaaa := hqZ4aaaaa.arr fz (show WF[79]? = some (20, 16, 79) from rfl) (by decide)
  have hqZ4aaaaaaa := hqZ4aaaaaa.arr fz (show WF[80]? = some (20, 16, 80) from rfl) (by decide)
  obtain ⟨Z5, eZ5⟩ : ∃ Z5, Z5 = uZ Z4 69 8 := ⟨_, rfl⟩
  have hqZ5 := hqZ4aaaaaaa.put eZ5
  have hqZ5a := hqZ5.arr fz (show WF[81]? = some (20, 4, 81) from rfl) (by decide)
  obtain ⟨Z6, eZ6⟩ : ∃ Z6, Z6 = uZ Z5 69 9 := ⟨_, rfl⟩
  have hqZ6 := hqZ5a.put eZ6
  have hqZ6a := hqZ6.arr fz (show WF[82]? = some (20, 7, 82) from rfl) (by decide)
  obtain ⟨Z7, eZ7⟩ : ∃ Z7, Z7 = uZ Z6 69 10 := ⟨_, rfl⟩
  have hqZ7 := hqZ6a.put eZ7
  have hqZ7a := hqZ7.arr fz (show WF[83]? = some (31, 6, 83) from rfl) (by decide)
  have hqZ7aa := hqZ7a.arr fz (show WF[84]? = some (20, 6, 84) from rfl) (by decide)
  have hqZ7aaa := hqZ7aa.arr fz (show WF[85]? = some (20, 6, 85) from rfl) (by decide)
  have hqZ7aaaa := hqZ7aaa.arr fz (show WF[86]? = some (20, 6, 86) from rfl) (by decide)
  have hqZ7aaaaa := hqZ7aaaa.arr fz (show WF[87]? = some (20, 6, 87) from rfl) (by decide)
  have hqZ7aaaaaa := hqZ7aaaaa.arr fz (show WF[88]? = some (20, 6, 88) from rfl) (by decide)
  have hqZ7aaaaaaa := hqZ7aaaaaa.arr fz (show WF[89]? = some (20, 6, 89) from rfl) (by decide)
  obtain ⟨Z8, eZ8⟩ : ∃ Z8, Z8 = uZ Z7 69 11 := ⟨_, rfl⟩
  have hqZ8 := hqZ7aaaaaaa.put eZ8
  have hqZ8a := hqZ8.arr fz (show WF[90]? = some (32, 7, 90) from rfl) (by decide)
  have hqZ8aa := hqZ8a.arr fz (show WF[91]? = some (20, 64, 91) from rfl) (by decide)
  have hqZ8aaa := hqZ8aa.arr fz (show WF[92]? = some (20, 64, 92) from rfl) (by decide)
  have hqZ8aaaa := hqZ8aaa.arr fz (show WF[93]? = some (20, 64, 93) from rfl) (by decide)
  have hqZ8aaaaa := hqZ8aaaa.arr fz (show WF[94]? = some (20, 64, 94) from rfl) (by decide)
  have hqZ8aaaaaa := hqZ8aaaaa.arr fz (show WF[95]? = some (20, 64, 95) from rfl) (by decide)
  have hqZ8aaaaaaa := hqZ8aaaaaa.arr fz (show WF[96]? = some (20, 64, 96) from rfl) (by decide)
  have hqZ8aaaaaaaa := hqZ8aaaaaaa.arr fz (show WF[97]? = some (20, 64, 97) from rfl) (by decide)
  obtain ⟨Z9, eZ9⟩ : ∃ Z9, Z9 = uZ Z8 69 12 := ⟨_, rfl⟩
  have hqZ9 := hqZ8aaaaaaaa.put eZ9
  have hqZ9a := hqZ9.arr fz (show WF[98]? = some (23, 21, 98) from rfl) (by decide)
  obtain ⟨Z10, eZ10⟩ : ∃ Z10, Z10 = uZ Z9 69 13 := ⟨_, rfl⟩
  have hqZ10 := hqZ9a.put eZ10
  have hqZ10a := hqZ10.arr fz (show WF[99]? = some (23, 21, 99) from rfl) (by decide)
  obtain ⟨Z11, eZ11⟩ : ∃ Z11, Z11 = uZ Z10 69 14 := ⟨_, rfl⟩
  have hqZ11 := hqZ10a.put eZ11
  obtain ⟨Z12, eZ12⟩ : ∃ Z12, Z12 = uZ Z11 69 2 := ⟨_, rfl⟩
  have hqZ12 := hqZ11.put eZ12
  obtain ⟨Z13, eZ13⟩ : ∃ Z13, Z13 = uZ Z12 69 3 := ⟨_, rfl⟩
  have hqZ13 := hqZ12.put eZ13
  refine ⟨Z13, CNt_of (own := "IceParliament$Planner") (by decide) rfl rfl (Nat.le_of_ble_eq_true rfl) (fun B => Nat.le_add_right B _) ?_, hqZ13.fin fz (show WF[69]? = some (3, 0, 69) from rfl) (by decide)⟩
  intro p l e s m args below meth c dC dI cA ρ B ls cx sx hsz hl
  have hls : ls.size = 3 := by obtain ⟨l0, h0, -⟩ := hl; exact h0.1
  refine n_ald cx hl (i := 0) (k3 := 0) (t := 3) (k := 69) (pc := 0) rfl rfl (by omega) (by decide +kernel) ?_
  refine n_obj (k := 69) (index := 5) cx hl (in_t2 (List.mem_of_getElem? (i := 146) rfl) rfl) (in_t1 (List.mem_of_getElem? (i := 33) rfl) rfl) (in_t1 (List.mem_of_getElem? (i := 34) rfl) rfl) ⟨Nat.le_of_ble_eq_true rfl, Nat.le_of_ble_eq_true rfl⟩ (by decide) (pc := 1) (by decide +kernel) ?_
  refine n_ald cx hl (i := 0) (k3 := 0) (t := 3) (k := 69) (pc := 4) rfl rfl (by omega) (by decide +kernel) ?_
  refine lv_bipush cx.1.1 cx.1.2.1 (n := 6) (v := Int32.ofNat 6) (pc := 5) (by decide +kernel) (by decide) ?_
  refine n_newa (t := 20) (N := 6) (n := 70) (aty := .int) (ty := .int) (index := 0) rfl (by omega) rfl (.inl ⟨rfl, rfl⟩) cx sx (hq.fz fz hm) (show WF[70]? = some (20, 6, 70) from rfl) (in_t1 (List.mem_of_getElem? (i := 124) rfl) rfl) (Nat.le_of_ble_eq_true rfl) (Nat.le_of_ble_eq_true rfl) (pc := 7) (by decide +kernel) (fun H1 sx => ?_)
  refine n_putF (t := 3) (k := 69) (j := 0) (index := 11) cx sx (by omega) (by decide) (show WF[69]? = some (3, 0, 69) from rfl) (by decide) rfl (by rw [show (fp 3 0 69).2.2 = 70 from rfl, cx.2.2.2.2.2.2.2.2.1 70 (by omega)]) rfl (in_t2 (List.mem_of_getElem? (i := 149) rfl) rfl) rfl rfl (fun _ => rfl) (fun _ => rfl) (pc := 9) (by decide +kernel) (fun H1 locs1 sx => ?_)
  rw [← eZ1] at sx
  refine n_ald cx hl (i := 0) (k3 := 0) (t := 3) (k := 69) (pc := 12) rfl rfl (by omega) (by decide +kernel) ?_
  refine lv_bipush cx.1.1 cx.1.2.1 (n := 6) (v := Int32.ofNat 6) (pc := 13) (by decide +kernel) (by decide) ?_
  refine n_newa (t := 20) (N := 6) (n := 71) (aty := .int) (ty := .int) (index := 0) rfl (by omega) rfl (.inl ⟨rfl, rfl⟩) cx sx (hqZ1.fz fz hm) (show WF[71]? = some (20, 6, 71) from rfl) (in_t1 (List.mem_of_getElem? (i := 124) rfl) rfl) (Nat.le_of_ble_eq_true rfl) (Nat.le_of_ble_eq_true rfl) (pc := 15) (by decide +kernel) (fun H1 sx => ?_)
  refine n_putF (t := 3) (k := 69) (j := 1) (index := 15) cx sx (by omega) (by decide) (show WF[69]? = some (3, 0, 69) from rfl) (by decide) rfl (by rw [show (fp 3 1 69).2.2 = 71 from rfl, cx.2.2.2.2.2.2.2.2.1 71 (by omega)]) rfl (in_t2 (List.mem_of_getElem? (i := 151) rfl) rfl) rfl rfl (fun _ => rfl) (fun _ => rfl) (pc := 17) (by decide +kernel) (fun H1 locs1 sx => ?_)
  rw [← eZ2] at sx
  refine n_ald cx hl (i := 0) (k3 := 0) (t := 3) (k := 69) (pc := 20) rfl rfl (by omega) (by decide +kernel) ?_
  refine lv_iconst cx.1.1 cx.1.2.1 (n := 4) (v := Int32.ofNat 4) (pc := 21) (by decide +kernel) (by decide) ?_
  refine n_newa (t := 20) (N := 4) (n := 72) (aty := .int) (ty := .int) (index := 0) rfl (by omega) rfl (.inl ⟨rfl, rfl⟩) cx sx (hqZ2.fz fz hm) (show WF[72]? = some (20, 4, 72) from rfl) (in_t1 (List.mem_of_getElem? (i := 124) rfl) rfl) (Nat.le_of_ble_eq_true rfl) (Nat.le_of_ble_eq_true rfl) (pc := 22) (by decide +kernel) (fun H1 sx => ?_)
  refine n_putF (t := 3) (k := 69) (j := 4) (index := 18) cx sx (by omega) (by decide) (show WF[69]? = some (3, 0, 69) from rfl) (by decide) rfl (by rw [show (fp 3 4 69).2.2 = 72 from rfl, cx.2.2.2.2.2.2.2.2.1 72 (by omega)]) rfl (in_t2 (List.mem_of_getElem? (i := 155) rfl) rfl) rfl rfl (fun _ => rfl) (fun _ => rfl) (pc := 24) (by decide +kernel) (fun H1 locs1 sx => ?_)
  rw [← eZ3] at sx
  refine n_ald cx hl (i := 0) (k3 := 0) (t := 3) (k := 69) (pc := 27) rfl rfl (by omega) (by decide +kernel) ?_
  refine lv_bipush cx.1.1 cx.1.2.1 (n := 6) (v := Int32.ofNat 6) (pc := 28) (by decide +kernel) (by decide) ?_
  refine n_newa (t := 20) (N := 6) (n := 73) (aty := .int) (ty := .int) (index := 0) rfl (by omega) rfl (.inl ⟨rfl, rfl⟩) cx sx (hqZ3.fz fz hm) (show WF[73]? = some (20, 6, 73) from rfl) (in_t1 (List.mem_of_getElem? (i := 124) rfl) rfl) (Nat.le_of_ble_eq_true rfl) (Nat.le_of_ble_eq_true rfl) (pc := 30) (by decide +kernel) (fun H1 sx => ?_)
  refine n_putF (t := 3) (k := 69) (j := 6) (index := 21) cx sx (by omega) (by decide) (show WF[69]? = some (3, 0, 69) from rfl) (by decide) rfl (by rw [show (fp 3 6 69).2.2 = 73 from rfl, cx.2.2.2.2.2.2.2.2.1 73 (by omega)]) rfl (in_t2 (List.mem_of_getElem? (i := 157) rfl) rfl) rfl rfl (fun _ => rfl) (fun _ => rfl) (pc := 32) (by decide +kernel) (fun H1 locs1 sx => ?_)
  rw [← eZ4] at sx
  refine n_ald cx hl (i := 0) (k3 := 0) (t := 3) (k := 69) (pc := 35) rfl rfl (by omega) (by decide +kernel) ?_
  refine lv_bipush cx.1.1 cx.1.2.1 (n := 6) (v := Int32.ofNat 6) (pc := 36) (by decide +kernel) (by decide) ?_
  refine lv_bipush cx.1.1 cx.1.2.1 (n := 16) (v := Int32.ofNat 16) (pc := 38) (by decide +kernel) (by decide) ?_
  refine n_mna (t := 30) (N := 6) (K := 16) (n := 74) (index := 24) rfl rfl (by omega) (by omega) (by omega) cx sx (hqZ4.fz fz hm) (show WF[74]? = some (30, 6, 74) from rfl) (fun j hj => by rcases (show j = 0 ∨ j = 1 ∨ j = 2 ∨ j = 3 ∨ j = 4 ∨ j = 5 by omega) with rfl | rfl | rfl | rfl | rfl | rfl <;> rfl) (in_t2 (List.mem_of_getElem? (i := 147) rfl) rfl) (in_t1 (List.mem_of_getElem? (i := 124) rfl) rfl) (Nat.le_of_ble_eq_true rfl) (Nat.le_of_ble_eq_true rfl) (pc := 40) (by decide +kernel) (fun H1 sx => ?_)
  refine n_putF (t := 3) (k := 69) (j := 8) (index := 26) cx sx (by omega) (by decide) (show WF[69]? = some (3, 0, 69) from rfl) (by decide) rfl (by rw [show (fp 3 8 69).2.2 = 74 from rfl, cx.2.2.2.2.2.2.2.2.1 74 (by omega)]) rfl (in_t2 (List.mem_of_getElem? (i := 159) rfl) rfl) rfl rfl (fun _ => rfl) (fun _ => rfl) (pc := 44) (by decide +kernel) (fun H1 locs1 sx => ?_)
  rw [← eZ5] at sx
  refine n_ald cx hl (i := 0) (k3 := 0) (t := 3) (k := 69) (pc := 47) rfl rfl (by omega) (by decide +kernel) ?_
  refine lv_iconst cx.1.1 cx.1.2.1 (n := 4) (v := Int32.ofNat 4) (pc := 48) (by decide +kernel) (by decide) ?_
  refine n_newa (t := 20) (N := 4) (n := 81) (aty := .int) (ty := .int) (index := 0) rfl (by omega) rfl (.inl ⟨rfl, rfl⟩) cx sx (hqZ5.fz fz hm) (show WF[81]? = some (20, 4, 81) from rfl) (in_t1 (List.mem_of_getElem? (i := 124) rfl) rfl) (Nat.le_of_ble_eq_true rfl) (Nat.le_of_ble_eq_true rfl) (pc := 49) (by decide +kernel) (fun H1 sx => ?_)
  refine n_putF (t := 3) (k := 69) (j := 9) (index := 29) cx sx (by omega) (by decide) (show WF[69]? = some (3, 0, 69) from rfl) (by decide) rfl (by rw [show (fp 3 9 69).2.2 = 81 from rfl, cx.2.2.2.2.2.2.2.2.1 81 (by omega)]) rfl (in_t2 (List.mem_of_getElem? (i := 160) rfl) rfl) rfl rfl (fun _ => rfl) (fun _ => rfl) (pc := 51) (by decide +kernel) (fun H1 locs1 sx => ?_)
  rw [← eZ6] at sx
  refine n_ald cx hl (i := 0) (k3 := 0) (t := 3) (k := 69) (pc := 54) rfl rfl (by omega) (by decide +kernel) ?_
  refine lv_bipush cx.1.1 cx.1.2.1 (n := 7) (v := Int32.ofNat 7) (pc := 55) (by decide +kernel) (by decide) ?_
  refine n_newa (t := 20) (N := 7) (n := 82) (aty := .int) (ty := .int) (index := 0) rfl (by omega) rfl (.inl ⟨rfl, rfl⟩) cx sx (hqZ6.fz fz hm) (show WF[82]? = some (20, 7, 82) from rfl) (in_t1 (List.mem_of_getElem? (i := 124) rfl) rfl) (Nat.le_of_ble_eq_true rfl) (Nat.le_of_ble_eq_true rfl) (pc := 57) (by decide +kernel) (fun H1 sx => ?_)
  refine n_putF (t := 3) (k := 69) (j := 10) (index := 32) cx sx (by omega) (by decide) (show WF[69]? = some (3, 0, 69) from rfl) (by decide) rfl (by rw [show (fp 3 10 69).2.2 = 82 from rfl, cx.2.2.2.2.2.2.2.2.1 82 (by omega)]) rfl (in_t2 (List.mem_of_getElem? (i := 161) rfl) rfl) rfl rfl (fun _ => rfl) (fun _ => rfl) (pc := 59) (by decide +kernel) (fun H1 locs1 sx => ?_)
  rw [← eZ7] at sx
  refine n_ald cx hl (i := 0) (k3 := 0) (t := 3) (k := 69) (pc := 62) rfl rfl (by omega) (by decide +kernel) ?_
  refine lv_bipush cx.1.1 cx.1.2.1 (n := 6) (v := Int32.ofNat 6) (pc := 63) (by decide +kernel) (by decide) ?_
  refine lv_bipush cx.1.1 cx.1.2.1 (n := 6) (v := Int32.ofNat 6) (pc := 65) (by decide +kernel) (by decide) ?_
  refine n_mna (t := 31) (N := 6) (K := 6) (n := 83) (index := 24) rfl rfl (by omega) (by omega) (by omega) cx sx (hqZ7.fz fz hm) (show WF[83]? = some (31, 6, 83) from rfl) (fun j hj => by rcases (show j = 0 ∨ j = 1 ∨ j = 2 ∨ j = 3 ∨ j = 4 ∨ j = 5 by omega) with rfl | rfl | rfl | rfl | rfl | rfl <;> rfl) (in_t2 (List.mem_of_getElem? (i := 147) rfl) rfl) (in_t1 (List.mem_of_getElem? (i := 124) rfl) rfl) (Nat.le_of_ble_eq_true rfl) (Nat.le_of_ble_eq_true rfl) (pc := 67) (by decide +kernel) (fun H1 sx => ?_)
  refine n_putF (t := 3) (k := 69) (j := 11) (index := 35) cx sx (by omega) (by decide) (show WF[69]? = some (3, 0, 69) from rfl) (by decide) rfl (by rw [show (fp 3 11 69).2.2 = 83 from rfl, cx.2.2.2.2.2.2.2.2.1 83 (by omega)]) rfl (in_t2 (List.mem_of_getElem? (i := 162) rfl) rfl) rfl rfl (fun _ => rfl) (fun _ => rfl) (pc := 71) (by decide +kernel) (fun H1 locs1 sx => ?_)
  rw [← eZ8] at sx
  refine n_ald cx hl (i := 0) (k3 := 0) (t := 3) (k := 69) (pc := 74) rfl rfl (by omega) (by decide +kernel) ?_
  refine lv_bipush cx.1.1 cx.1.2.1 (n := 7) (v := Int32.ofNat 7) (pc := 75) (by decide +kernel) (by decide) ?_
  refine lv_bipush cx.1.1 cx.1.2.1 (n := 64) (v := Int32.ofNat 64) (pc := 77) (by decide +kernel) (by decide) ?_
  refine n_mna (t := 32) (N := 7) (K := 64) (n := 90) (index := 24) rfl rfl (by omega) (by omega) (by omega) cx sx (hqZ8.fz fz hm) (show WF[90]? = some (32, 7, 90) from rfl) (fun j hj => by rcases (show j = 0 ∨ j = 1 ∨ j = 2 ∨ j = 3 ∨ j = 4 ∨ j = 5 ∨ j = 6 by omega) with rfl | rfl | rfl | rfl | rfl | rfl | rfl <;> rfl) (in_t2 (List.mem_of_getElem? (i := 147) rfl) rfl) (in_t1 (List.mem_of_getElem? (i := 124) rfl) rfl) (Nat.le_of_ble_eq_true rfl) (Nat.le_of_ble_eq_true rfl) (pc := 79) (by decide +kernel) (fun H1 sx => ?_)
  refine n_putF (t := 3) (k := 69) (j := 12) (index := 38) cx sx (by omega) (by decide) (show WF[69]? = some (3, 0, 69) from rfl) (by decide) rfl (by rw [show (fp 3 12 69).2.2 = 90 from rfl, cx.2.2.2.2.2.2.2.2.1 90 (by omega)]) rfl (in_t2 (List.mem_of_getElem? (i := 163) rfl) rfl) rfl rfl (fun _ => rfl) (fun _ => rfl) (pc := 83) (by decide +kernel) (fun H1 locs1 sx => ?_)
  rw [← eZ9] at sx
  refine n_ald cx hl (i := 0) (k3 := 0) (t := 3) (k := 69) (pc := 86) rfl rfl (by omega) (by decide +kernel) ?_
  refine lv_bipush cx.1.1 cx.1.2.1 (n := 21) (v := Int32.ofNat 21) (pc := 87) (by decide +kernel) (by decide) ?_
  refine n_newa (t := 23) (N := 21) (n := 98) (aty := .long) (ty := .long) (index := 0) rfl (by omega) rfl (.inr (.inr (.inr ⟨rfl, rfl⟩))) cx sx (hqZ9.fz fz hm) (show WF[98]? = some (23, 21, 98) from rfl) (in_t1 (List.mem_of_getElem? (i := 103) rfl) rfl) (Nat.le_of_ble_eq_true rfl) (Nat.le_of_ble_eq_true rfl) (pc := 89) (by decide +kernel) (fun H1 sx => ?_)
  refine n_putF (t := 3) (k := 69) (j := 13) (index := 41) cx sx (by omega) (by decide) (show WF[69]? = some (3, 0, 69) from rfl) (by decide) rfl (by rw [show (fp 3 13 69).2.2 = 98 from rfl, cx.2.2.2.2.2.2.2.2.1 98 (by omega)]) rfl (in_t2 (List.mem_of_getElem? (i := 164) rfl) rfl) rfl rfl (fun _ => rfl) (fun _ => rfl) (pc := 91) (by decide +kernel) (fun H1 locs1 sx => ?_)
  rw [← eZ10] at sx
  refine n_ald cx hl (i := 0) (k3 := 0) (t := 3) (k := 69) (pc := 94) rfl rfl (by omega) (by decide +kernel) ?_
  refine lv_bipush cx.1.1 cx.1.2.1 (n := 21) (v := Int32.ofNat 21) (pc := 95) (by decide +kernel) (by decide) ?_
  refine n_newa (t := 23) (N := 21) (n := 99) (aty := .long) (ty := .long) (index := 0) rfl (by omega) rfl (.inr (.inr (.inr ⟨rfl, rfl⟩))) cx sx (hqZ10.fz fz hm) (show WF[99]? = some (23, 21, 99) from rfl) (in_t1 (List.mem_of_getElem? (i := 103) rfl) rfl) (Nat.le_of_ble_eq_true rfl) (Nat.le_of_ble_eq_true rfl) (pc := 97) (by decide +kernel) (fun H1 sx => ?_)
  refine n_putF (t := 3) (k := 69) (j := 14) (index := 45) cx sx (by omega) (by decide) (show WF[69]? = some (3, 0, 69) from rfl) (by decide) rfl (by rw [show (fp 3 14 69).2.2 = 99 from rfl, cx.2.2.2.2.2.2.2.2.1 99 (by omega)]) rfl (in_t2 (List.mem_of_getElem? (i := 165) rfl) rfl) rfl rfl (fun _ => rfl) (fun _ => rfl) (pc := 99) (by decide +kernel) (fun H1 locs1 sx => ?_)
  rw [← eZ11] at sx
  refine n_ald cx hl (i := 0) (k3 := 0) (t := 3) (k := 69) (pc := 102) rfl rfl (by omega) (by decide +kernel) ?_
  refine n_ald cx hl (i := 1) (k3 := 1) (t := 9) (k := 3) (pc := 103) rfl rfl (by omega) (by decide +kernel) ?_
  refine n_putF (t := 3) (k := 69) (j := 2) (index := 48) cx sx (by omega) (by decide) (show WF[69]? = some (3, 0, 69) from rfl) (by decide) rfl (by rw [show (fp 3 2 69).2.2 = 3 from rfl, cx.2.2.2.2.2.2.2.2.1 3 (by omega)]) rfl (in_t2 (List.mem_of_getElem? (i := 153) rfl) rfl) rfl rfl (fun _ => rfl) (fun _ => rfl) (pc := 104) (by decide +kernel) (fun H1 locs1 sx => ?_)
  rw [← eZ12] at sx
  refine n_ald cx hl (i := 0) (k3 := 0) (t := 3) (k := 69) (pc := 107) rfl rfl (by omega) (by decide +kernel) ?_
  refine n_ald cx hl (i := 2) (k3 := 2) (t := 6) (k := 60) (pc := 108) rfl rfl (by omega) (by decide +kernel) ?_
  refine n_putF (t := 3) (k := 69) (j := 3) (index := 52) cx sx (by omega) (by decide) (show WF[69]? = some (3, 0, 69) from rfl) (by decide) rfl (by rw [show (fp 3 3 69).2.2 = 60 from rfl, cx.2.2.2.2.2.2.2.2.1 60 (by omega)]) rfl (in_t2 (List.mem_of_getElem? (i := 154) rfl) rfl) rfl rfl (fun _ => rfl) (fun _ => rfl) (pc := 109) (by decide +kernel) (fun H1 locs1 sx => ?_)
  rw [← eZ13] at sx
  exact n_ret cx sx (Nat.le_of_ble_eq_true rfl) (Nat.le_of_ble_eq_true rfl) (pc := 112) (by decide +kernel)
end NCON
