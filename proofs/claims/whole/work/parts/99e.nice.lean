/-! THE CONSTRUCTOR of the class itself, by a program (gen98d.py) -/
section NICE
variable {M M' : Mem} {Z Z' : Zs}
theorem QX.start2 (fz : Fz 0 M Z) : QX [8, 10] 0 0 1 Z := ⟨by omega, fun a b _ => (fz a (by omega) b).2.2, fun a h1 h2 => by omega, fun b hb => by
  rw [(fz 0 (by omega) b).2.2]
  exact (show ∀ b ∈ [8, 10], rfK 0 b = false from by decide +kernel) b hb, fun b hb => by omega, fun b hb => by omega⟩
theorem staS_cg {Y Y' : YT} (h : ∀ i, Y' 14 i = Y 14 i) : staS Y' = staS Y := by
  funext j i
  unfold staS
  rw [h i]
def XF (M' : Mem) : Prop := (∀ a, a ≤ 2 ∨ (49 ≤ a ∧ a ≤ 59) → ∀ j, M'.1 a j = 0) ∧ (M'.1 4 0 = 0 ∧ M'.1 6 0 = 0 ∧ M'.1 8 0 = 0 ∧ (∀ a, a < 6 → M'.1 18 a = 0) ∧ M'.1 3 12 = 0 ∧ M'.1 3 14 = 0 ∧ M'.1 3 15 = 0 ∧ LCd 20 dM none M' ∧ LCd 23 dK none M') ∧ SC (staS M'.1) 60 M' ∧ M'.2.2 50 4 = 43 ∧ (∀ b, b < 16 → M'.2.2 67 b = 113 + 7 * b) ∧ (∀ b, b < 4 → M'.2.2 68 b = 225 + 7 * b) ∧ Mz 253 M'
theorem XF_of {M1 M2 M3 M4 M5 : Mem} (hm : Mz 0 M) (f1 : Fr (fun c _ => 3 ≤ c ∧ c ≤ 25) M M1) (f2 : Fr (fun c _ => 26 ≤ c ∧ c ≤ 48) M1 M2) (e3 : M3 = sR M2 50 4 43) (f4 : Fr (fun c _ => 60 ≤ c ∧ c ≤ 60 + 6) M3 M4) (f5 : Fr (fun c _ => 105 ≤ c ∧ c ≤ 112) M4 M5) (hl : LX 16 4 M5 M') (sc : SC (staS M3.1) 60 M4)
    (hy : M1.1 4 0 = 0 ∧ M1.1 6 0 = 0 ∧ M1.1 8 0 = 0 ∧ (∀ a, a < 6 → M1.1 18 a = 0) ∧ M1.1 3 12 = 0 ∧ M1.1 3 14 = 0 ∧ M1.1 3 15 = 0 ∧ LCd 20 dM none M1 ∧ LCd 23 dK none M1) (hM : Mz 253 M') : XF M' := by
  have f3 : Fr (fun c _ => c = 50) M2 M3 := by rw [e3]; exact Fr.rf.sR rfl
  have f45 : Fr (fun c _ => c = 67 ∨ c = 68 ∨ 105 ≤ c) M4 M' := (f5.up (fun c j z => by omega)).tr hl.1
  have f35 : Fr (fun c _ => 60 ≤ c) M3 M' := (f4.up (fun c j z => by omega)).tr (f45.up (fun c j z => by omega))
  have f25 : Fr (fun c _ => 50 ≤ c) M2 M' := (f3.up (fun c j z => by omega)).tr (f35.up (fun c j z => by omega))
  have f15 : Fr (fun c _ => 26 ≤ c) M1 M' := (f2.up (fun c j z => by omega)).tr (f25.up (fun c j z => by omega))
  have g25 : Fr (fun c _ => c = 50 ∨ 60 ≤ c) M2 M' := (f3.up (fun c j z => .inl z)).tr (f35.up (fun c j z => .inr z))
  have i25 : ∀ a j, a < 60 → M'.1 a j = M2.1 a j := fun a j h => by
    rw [f35.i (by omega), e3]; rfl
  refine ⟨fun a ha j => ?_, ?_, ?_, ?_, hl.2.1, hl.2.2, hM⟩
  · rw [i25 a j (by omega), f2.i (by omega), f1.i (by omega)]; exact (hm a (by omega) j).1
  · obtain ⟨h1, h2, h3, h4, h5, h6, h7, h8, h9⟩ := hy
    refine ⟨?_, ?_, ?_, fun a ha => ?_, ?_, ?_, ?_, ⟨?_, ?_, fun i hi => ?_⟩, ⟨?_, ?_, fun i hi => ?_⟩⟩
    · rw [f15.i (by omega)]; exact h1
    · rw [f15.i (by omega)]; exact h2
    · rw [f15.i (by omega)]; exact h3
    · rw [f15.i (by omega)]; exact h4 a ha
    · rw [f15.i (by omega)]; exact h5
    · rw [f15.i (by omega)]; exact h6
    · rw [f15.i (by omega)]; exact h7
    · rw [f15.i (by omega)]; exact h8.1
    · rw [f15.i (by omega)]; exact h8.2.1
    · rw [f15.i (by omega)]; exact h8.2.2 i hi
    · rw [f15.i (by omega)]; exact h9.1
    · rw [f15.i (by omega)]; exact h9.2.1
    · rw [f15.i (by omega)]; exact h9.2.2 i hi
  · rw [staS_cg (Y := M3.1) (fun i => f35.i (by omega))]
    exact sc.fr f45 (fun c j h1 h2 => by omega)
  · rw [f35.r (by omega), e3]; exact sR_eq
set_option maxRecDepth 20000 in
set_option maxHeartbeats 4000000 in
theorem c_Ice (fz : Fz 0 M Z) (hm : Mz 0 M) : ∃ M' Z', CNt ⟨"IceParliament", "<init>", "()V"⟩ prog_1_method_1_code 2 5 252 7534 [vR 11 0 0] 1 M Z 253 M' Z' ∧ QX [13, 12, 11, 9, 7, 6, 5, 4, 3, 2, 1, 0, 8, 10] 16 4 253 Z' ∧ XF M' := by
  have hq : QX [8, 10] 0 0 1 Z := QX.start2 fz
  obtain ⟨Z1, cc1, p1⟩ := c_Tape (M := M) (Z := Z) (hq.fz (hm.le (by decide))) (hm.le (by decide))
  have hqZ1 := hq.sub p1 (by decide) ⟨.inl rfl, .inl rfl⟩
  obtain ⟨Z2, eZ2⟩ : ∃ Z2, Z2 = uZ Z1 0 0 := ⟨_, rfl⟩
  have hqZ2 := hqZ1.put eZ2
  obtain ⟨M1, Z3, cc2, p2, fr2, yf⟩ := c_Yard3 (M := M) (Z := Z2) (hqZ2.fz (hm.le (by decide))) (hm.le (by decide))
  have hmM1 := hm.st (n := 26) fr2 (by decide) (by decide)
  have hqZ3 := hqZ2.sub p2 (by decide) ⟨.inl rfl, .inl rfl⟩
  obtain ⟨Z4, eZ4⟩ : ∃ Z4, Z4 = uZ Z3 0 1 := ⟨_, rfl⟩
  have hqZ4 := hqZ3.put eZ4
  obtain ⟨M2, Z5, cc3, p3, fr3⟩ := c_Yard26 (M := M1) (Z := Z4) (hqZ4.fz (hmM1.le (by decide))) (hmM1.le (by decide))
  have hmM2 := hmM1.st (n := 49) fr3 (by decide) (by decide)
  have hqZ5 := hqZ4.sub p3 (by decide) ⟨.inl rfl, .inl rfl⟩
  obtain ⟨Z6, eZ6⟩ : ∃ Z6, Z6 = uZ Z5 0 2 := ⟨_, rfl⟩
  have hqZ6 := hqZ5.put eZ6
  obtain ⟨M3, Z7, cc4, p4, eR⟩ := c_YardReader (M := M2) (Z := Z6) (hqZ6.fz (hmM2.le (by decide))) (hmM2.le (by decide)) (fun a h1 h2 b => hqZ6.2.2.1 a (by omega) (by omega) (by omega) (by omega) b)
  have hmM3 : Mz 52 M3 := by rw [eR]; exact hmM2.sR.le (by decide)
  have hqZ7 := hqZ6.sub p4 (by decide) ⟨.inl rfl, .inl rfl⟩
  obtain ⟨Z8, eZ8⟩ : ∃ Z8, Z8 = uZ Z7 0 3 := ⟨_, rfl⟩
  have hqZ8 := hqZ7.put eZ8
  obtain ⟨Z9, cc5, p5⟩ := c_Session (M := M3) (Z := Z8) (k := 52) (by decide) (show WF[52]? = some (5, 0, 52) from rfl) (show WF[53]? = some (20, 40, 53) from rfl) (show WF[54]? = some (20, 40, 54) from rfl) (show WF[55]? = some (20, 40, 55) from rfl) (hqZ8.fz (hmM3.le (by decide))) (hmM3.le (by decide))
  have hqZ9 := hqZ8.sub p5 (by decide) ⟨.inl rfl, .inl rfl⟩
  obtain ⟨Z10, eZ10⟩ : ∃ Z10, Z10 = uZ Z9 0 4 := ⟨_, rfl⟩
  have hqZ10 := hqZ9.put eZ10
  obtain ⟨Z11, cc6, p6⟩ := c_Session (M := M3) (Z := Z10) (k := 56) (by decide) (show WF[56]? = some (5, 0, 56) from rfl) (show WF[57]? = some (20, 40, 57) from rfl) (show WF[58]? = some (20, 40, 58) from rfl) (show WF[59]? = some (20, 40, 59) from rfl) (hqZ10.fz (hmM3.le (by decide))) (hmM3.le (by decide))
  have hqZ11 := hqZ10.sub p6 (by decide) ⟨.inl rfl, .inl rfl⟩
  obtain ⟨Z12, eZ12⟩ : ∃ Z12, Z12 = uZ Z11 0 5 := ⟨_, rfl⟩
  have hqZ12 := hqZ11.put eZ12
  obtain ⟨M4, Z13, cc7, p7, sc7, fr7⟩ := c_State60 (M := M3) (Z := Z12) (hqZ12.fz (hmM3.le (by decide))) (hmM3.le (by decide)) (hqZ12.yard (by decide))
  have hmM4 := hmM3.st (n := 67) fr7 (by decide) (by decide)
  have hqZ13 := hqZ12.sub p7 (by decide) ⟨.inl rfl, .inl rfl⟩
  obtain ⟨Z14, eZ14⟩ : ∃ Z14, Z14 = uZ Z13 0 6 := ⟨_, rfl⟩
  have hqZ14 := hqZ13.put eZ14
  have hqZ14a := hqZ14.q (by decide)
  obtain ⟨Z15, eZ15⟩ : ∃ Z15, Z15 = uZ Z14 0 7 := ⟨_, rfl⟩
  have hqZ15 := hqZ14a.put eZ15
  have hqZ15a := hqZ15.q (by decide)
  obtain ⟨Z16, eZ16⟩ : ∃ Z16, Z16 = uZ Z15 0 9 := ⟨_, rfl⟩
  have hqZ16 := hqZ15a.put eZ16
  obtain ⟨Z17, cc8, p8⟩ := c_Planner (M := M4) (Z := Z16) (hqZ16.fz (hmM4.le (by decide))) (hmM4.le (by decide))
  have hqZ17 := hqZ16.sub p8 (by decide) ⟨.inl rfl, .inl rfl⟩
  obtain ⟨Z18, eZ18⟩ : ∃ Z18, Z18 = uZ Z17 0 11 := ⟨_, rfl⟩
  have hqZ18 := hqZ17.put eZ18
  obtain ⟨Z19, cc9, p9⟩ := c_Breath (M := M4) (Z := Z18) (hqZ18.fz (hmM4.le (by decide))) (hmM4.le (by decide))
  have hqZ19 := hqZ18.sub p9 (by decide) ⟨.inl rfl, .inl rfl⟩
  obtain ⟨Z20, eZ20⟩ : ∃ Z20, Z20 = uZ Z19 0 12 := ⟨_, rfl⟩
  have hqZ20 := hqZ19.put eZ20
  obtain ⟨M5, Z21, cc10, p10, fr10⟩ := c_Trial (M := M4) (Z := Z20) (hqZ20.fz (hmM4.le (by decide))) (hmM4.le (by decide)) (hqZ20.yard (by decide))
  have hmM5 := hmM4.st (n := 113) fr10 (by decide) (by decide)
  have hqZ21 := hqZ20.sub p10 (by decide) ⟨.inl rfl, .inl rfl⟩
  have lxM5 : LX 0 0 M5 M5 := LX.start
  obtain ⟨Z22, eZ22⟩ : ∃ Z22, Z22 = uZ Z21 0 13 := ⟨_, rfl⟩
  have hqZ22 := hqZ21.put eZ22
  obtain ⟨M6, Z23, cc11, p11, sc11, fr11⟩ := c_State113 (M := M5) (Z := Z22) (hqZ22.fz (hmM5.le (by decide))) (hmM5.le (by decide)) (hqZ22.yard (by decide))
  have hmM6 := hmM5.st (n := 120) fr11 (by decide) (by decide)
  have hqZ23 := hqZ22.sub p11 (by decide) ⟨.inr (by decide), .inl rfl⟩
  have lxM6 := lxM5.st fr11 (by decide)
  obtain ⟨Z24, eZ24⟩ : ∃ X, X = uZ Z23 67 0 := ⟨_, rfl⟩
  obtain ⟨M7, eM7⟩ : ∃ X, X = sR M6 67 0 113 := ⟨_, rfl⟩
  have hqZ24 := hqZ23.p67 eZ24 (by decide)
  have lxM7 := lxM6.p67 (k := 113) (by decide)
  rw [← eM7] at lxM7
  have hmM7 := hmM6.sR (a := 67) (b := 0) (v := 113)
  rw [← eM7] at hmM7
  obtain ⟨M8, Z25, cc12, p12, sc12, fr12⟩ := c_State120 (M := M7) (Z := Z24) (hqZ24.fz (hmM7.le (by decide))) (hmM7.le (by decide)) (hqZ24.yard (by decide))
  have hmM8 := hmM7.st (n := 127) fr12 (by decide) (by decide)
  have hqZ25 := hqZ24.sub p12 (by decide) ⟨.inr (by decide), .inl rfl⟩
  have lxM8 := lxM7.st fr12 (by decide)
  obtain ⟨Z26, eZ26⟩ : ∃ X, X = uZ Z25 67 1 := ⟨_, rfl⟩
  obtain ⟨M9, eM9⟩ : ∃ X, X = sR M8 67 1 120 := ⟨_, rfl⟩
  have hqZ26 := hqZ25.p67 eZ26 (by decide)
  have lxM9 := lxM8.p67 (k := 120) (by decide)
  rw [← eM9] at lxM9
  have hmM9 := hmM8.sR (a := 67) (b := 1) (v := 120)
  rw [← eM9] at hmM9
  obtain ⟨M10, Z27, cc13, p13, sc13, fr13⟩ := c_State127 (M := M9) (Z := Z26) (hqZ26.fz (hmM9.le (by decide))) (hmM9.le (by decide)) (hqZ26.yard (by decide))
  have hmM10 := hmM9.st (n := 134) fr13 (by decide) (by decide)
  have hqZ27 := hqZ26.sub p13 (by decide) ⟨.inr (by decide), .inl rfl⟩
  have lxM10 := lxM9.st fr13 (by decide)
  obtain ⟨Z28, eZ28⟩ : ∃ X, X = uZ Z27 67 2 := ⟨_, rfl⟩
  obtain ⟨M11, eM11⟩ : ∃ X, X = sR M10 67 2 127 := ⟨_, rfl⟩
  have hqZ28 := hqZ27.p67 eZ28 (by decide)
  have lxM11 := lxM10.p67 (k := 127) (by decide)
  rw [← eM11] at lxM11
  have hmM11 := hmM10.sR (a := 67) (b := 2) (v := 127)
  rw [← eM11] at hmM11
  obtain ⟨M12, Z29, cc14, p14, sc14, fr14⟩ := c_State134 (M := M11) (Z := Z28) (hqZ28.fz (hmM11.le (by decide))) (hmM11.le (by decide)) (hqZ28.yard (by decide))
  have hmM12 := hmM11.st (n := 141) fr14 (by decide) (by decide)
  have hqZ29 := hqZ28.sub p14 (by decide) ⟨.inr (by decide), .inl rfl⟩
  have lxM12 := lxM11.st fr14 (by decide)
  obtain ⟨Z30, eZ30⟩ : ∃ X, X = uZ Z29 67 3 := ⟨_, rfl⟩
  obtain ⟨M13, eM13⟩ : ∃ X, X = sR M12 67 3 134 := ⟨_, rfl⟩
  have hqZ30 := hqZ29.p67 eZ30 (by decide)
  have lxM13 := lxM12.p67 (k := 134) (by decide)
  rw [← eM13] at lxM13
  have hmM13 := hmM12.sR (a := 67) (b := 3) (v := 134)
  rw [← eM13] at hmM13
  obtain ⟨M14, Z31, cc15, p15, sc15, fr15⟩ := c_State141 (M := M13) (Z := Z30) (hqZ30.fz (hmM13.le (by decide))) (hmM13.le (by decide)) (hqZ30.yard (by decide))
  have hmM14 := hmM13.st (n := 148) fr15 (by decide) (by decide)
  have hqZ31 := hqZ30.sub p15 (by decide) ⟨.inr (by decide), .inl rfl⟩
  have lxM14 := lxM13.st fr15 (by decide)
  obtain ⟨Z32, eZ32⟩ : ∃ X, X = uZ Z31 67 4 := ⟨_, rfl⟩
  obtain ⟨M15, eM15⟩ : ∃ X, X = sR M14 67 4 141 := ⟨_, rfl⟩
  have hqZ32 := hqZ31.p67 eZ32 (by decide)
  have lxM15 := lxM14.p67 (k := 141) (by decide)
  rw [← eM15] at lxM15
  have hmM15 := hmM14.sR (a := 67) (b := 4) (v := 141)
  rw [← eM15] at hmM15
  obtain ⟨M16, Z33, cc16, p16, sc16, fr16⟩ := c_State148 (M := M15) (Z := Z32) (hqZ32.fz (hmM15.le (by decide))) (hmM15.le (by decide)) (hqZ32.yard (by decide))
  have hmM16 := hmM15.st (n := 155) fr16 (by decide) (by decide)
  have hqZ33 := hqZ32.sub p16 (by decide) ⟨.inr (by decide), .inl rfl⟩
  have lxM16 := lxM15.st fr16 (by decide)
  obtain ⟨Z34, eZ34⟩ : ∃ X, X = uZ Z33 67 5 := ⟨_, rfl⟩
  obtain ⟨M17, eM17⟩ : ∃ X, X = sR M16 67 5 148 := ⟨_, rfl⟩
  have hqZ34 := hqZ33.p67 eZ34 (by decide)
  have lxM17 := lxM16.p67 (k := 148) (by decide)
  rw [← eM17] at lxM17
  have hmM17 := hmM16.sR (a := 67) (b := 5) (v := 148)
  rw [← eM17] at hmM17
  obtain ⟨M18, Z35, cc17, p17, sc17, fr17⟩ := c_State155 (M := M17) (Z := Z34) (hqZ34.fz (hmM17.le (by decide))) (hmM17.le (by decide)) (hqZ34.yard (by decide))
  have hmM18 := hmM17.st (n := 162) fr17 (by decide) (by decide)
  have hqZ35 := hqZ34.sub p17 (by decide) ⟨.inr (by decide), .inl rfl⟩
  have lxM18 := lxM17.st fr17 (by decide)
  obtain ⟨Z36, eZ36⟩ : ∃ X, X = uZ Z35 67 6 := ⟨_, rfl⟩
  obtain ⟨M19, eM19⟩ : ∃ X, X = sR M18 67 6 155 := ⟨_, rfl⟩
  have hqZ36 := hqZ35.p67 eZ36 (by decide)
  have lxM19 := lxM18.p67 (k := 155) (by decide)
  rw [← eM19] at lxM19
  have hmM19 := hmM18.sR (a := 67) (b := 6) (v := 155)
  rw [← eM19] at hmM19
  obtain ⟨M20, Z37, cc18, p18, sc18, fr18⟩ := c_State162 (M := M19) (Z := Z36) (hqZ36.fz (hmM19.le (by decide))) (hmM19.le (by decide)) (hqZ36.yard (by decide))
  have hmM20 := hmM19.st (n := 169) fr18 (by decide) (by decide)
  have hqZ37 := hqZ36.sub p18 (by decide) ⟨.inr (by decide), .inl rfl⟩
  have lxM20 := lxM19.st fr18 (by decide)
  obtain ⟨Z38, eZ38⟩ : ∃ X, X = uZ Z37 67 7 := ⟨_, rfl⟩
  obtain ⟨M21, eM21⟩ : ∃ X, X = sR M20 67 7 162 := ⟨_, rfl⟩
  have hqZ38 := hqZ37.p67 eZ38 (by decide)
  have lxM21 := lxM20.p67 (k := 162) (by decide)
  rw [← eM21] at lxM21
  have hmM21 := hmM20.sR (a := 67) (b := 7) (v := 162)
  rw [← eM21] at hmM21
  obtain ⟨M22, Z39, cc19, p19, sc19, fr19⟩ := c_State169 (M := M21) (Z := Z38) (hqZ38.fz (hmM21.le (by decide))) (hmM21.le (by decide)) (hqZ38.yard (by decide))
  have hmM22 := hmM21.st (n := 176) fr19 (by decide) (by decide)
  have hqZ39 := hqZ38.sub p19 (by decide) ⟨.inr (by decide), .inl rfl⟩
  have lxM22 := lxM21.st fr19 (by decide)
  obtain ⟨Z40, eZ40⟩ : ∃ X, X = uZ Z39 67 8 := ⟨_, rfl⟩
  obtain ⟨M23, eM23⟩ : ∃ X, X = sR M22 67 8 169 := ⟨_, rfl⟩
  have hqZ40 := hqZ39.p67 eZ40 (by decide)
  have lxM23 := lxM22.p67 (k := 169) (by decide)
  rw [← eM23] at lxM23
  have hmM23 := hmM22.sR (a := 67) (b := 8) (v := 169)
  rw [← eM23] at hmM23
  obtain ⟨M24, Z41, cc20, p20, sc20, fr20⟩ := c_State176 (M := M23) (Z := Z40) (hqZ40.fz (hmM23.le (by decide))) (hmM23.le (by decide)) (hqZ40.yard (by decide))
  have hmM24 := hmM23.st (n := 183) fr20 (by decide) (by decide)
  have hqZ41 := hqZ40.sub p20 (by decide) ⟨.inr (by decide), .inl rfl⟩
  have lxM24 := lxM23.st fr20 (by decide)
  obtain ⟨Z42, eZ42⟩ : ∃ X, X = uZ Z41 67 9 := ⟨_, rfl⟩
  obtain ⟨M25, eM25⟩ : ∃ X, X = sR M24 67 9 176 := ⟨_, rfl⟩
  have hqZ42 := hqZ41.p67 eZ42 (by decide)
  have lxM25 := lxM24.p67 (k := 176) (by decide)
  rw [← eM25] at lxM25
  have hmM25 := hmM24.sR (a := 67) (b := 9) (v := 176)
  rw [← eM25] at hmM25
  obtain ⟨M26, Z43, cc21, p21, sc21, fr21⟩ := c_State183 (M := M25) (Z := Z42) (hqZ42.fz (hmM25.le (by decide))) (hmM25.le (by decide)) (hqZ42.yard (by decide))
  have hmM26 := hmM25.st (n := 190) fr21 (by decide) (by decide)
  have hqZ43 := hqZ42.sub p21 (by decide) ⟨.inr (by decide), .inl rfl⟩
  have lxM26 := lxM25.st fr21 (by decide)
  obtain ⟨Z44, eZ44⟩ : ∃ X, X = uZ Z43 67 10 := ⟨_, rfl⟩
  obtain ⟨M27, eM27⟩ : ∃ X, X = sR M26 67 10 183 := ⟨_, rfl⟩
  have hqZ44 := hqZ43.p67 eZ44 (by decide)
  have lxM27 := lxM26.p67 (k := 183) (by decide)
  rw [← eM27] at lxM27
  have hmM27 := hmM26.sR (a := 67) (b := 10) (v := 183)
  rw [← eM27] at hmM27
  obtain ⟨M28, Z45, cc22, p22, sc22, fr22⟩ := c_State190 (M := M27) (Z := Z44) (hqZ44.fz (hmM27.le (by decide))) (hmM27.le (by decide)) (hqZ44.yard (by decide))
  have hmM28 := hmM27.st (n := 197) fr22 (by decide) (by decide)
  have hqZ45 := hqZ44.sub p22 (by decide) ⟨.inr (by decide), .inl rfl⟩
  have lxM28 := lxM27.st fr22 (by decide)
  obtain ⟨Z46, eZ46⟩ : ∃ X, X = uZ Z45 67 11 := ⟨_, rfl⟩
  obtain ⟨M29, eM29⟩ : ∃ X, X = sR M28 67 11 190 := ⟨_, rfl⟩
  have hqZ46 := hqZ45.p67 eZ46 (by decide)
  have lxM29 := lxM28.p67 (k := 190) (by decide)
  rw [← eM29] at lxM29
  have hmM29 := hmM28.sR (a := 67) (b := 11) (v := 190)
  rw [← eM29] at hmM29
  obtain ⟨M30, Z47, cc23, p23, sc23, fr23⟩ := c_State197 (M := M29) (Z := Z46) (hqZ46.fz (hmM29.le (by decide))) (hmM29.le (by decide)) (hqZ46.yard (by decide))
  have hmM30 := hmM29.st (n := 204) fr23 (by decide) (by decide)
  have hqZ47 := hqZ46.sub p23 (by decide) ⟨.inr (by decide), .inl rfl⟩
  have lxM30 := lxM29.st fr23 (by decide)
  obtain ⟨Z48, eZ48⟩ : ∃ X, X = uZ Z47 67 12 := ⟨_, rfl⟩
  obtain ⟨M31, eM31⟩ : ∃ X, X = sR M30 67 12 197 := ⟨_, rfl⟩
  have hqZ48 := hqZ47.p67 eZ48 (by decide)
  have lxM31 := lxM30.p67 (k := 197) (by decide)
  rw [← eM31] at lxM31
  have hmM31 := hmM30.sR (a := 67) (b := 12) (v := 197)
  rw [← eM31] at hmM31
  obtain ⟨M32, Z49, cc24, p24, sc24, fr24⟩ := c_State204 (M := M31) (Z := Z48) (hqZ48.fz (hmM31.le (by decide))) (hmM31.le (by decide)) (hqZ48.yard (by decide))
  have hmM32 := hmM31.st (n := 211) fr24 (by decide) (by decide)
  have hqZ49 := hqZ48.sub p24 (by decide) ⟨.inr (by decide), .inl rfl⟩
  have lxM32 := lxM31.st fr24 (by decide)
  obtain ⟨Z50, eZ50⟩ : ∃ X, X = uZ Z49 67 13 := ⟨_, rfl⟩
  obtain ⟨M33, eM33⟩ : ∃ X, X = sR M32 67 13 204 := ⟨_, rfl⟩
  have hqZ50 := hqZ49.p67 eZ50 (by decide)
  have lxM33 := lxM32.p67 (k := 204) (by decide)
  rw [← eM33] at lxM33
  have hmM33 := hmM32.sR (a := 67) (b := 13) (v := 204)
  rw [← eM33] at hmM33
  obtain ⟨M34, Z51, cc25, p25, sc25, fr25⟩ := c_State211 (M := M33) (Z := Z50) (hqZ50.fz (hmM33.le (by decide))) (hmM33.le (by decide)) (hqZ50.yard (by decide))
  have hmM34 := hmM33.st (n := 218) fr25 (by decide) (by decide)
  have hqZ51 := hqZ50.sub p25 (by decide) ⟨.inr (by decide), .inl rfl⟩
  have lxM34 := lxM33.st fr25 (by decide)
  obtain ⟨Z52, eZ52⟩ : ∃ X, X = uZ Z51 67 14 := ⟨_, rfl⟩
  obtain ⟨M35, eM35⟩ : ∃ X, X = sR M34 67 14 211 := ⟨_, rfl⟩
  have hqZ52 := hqZ51.p67 eZ52 (by decide)
  have lxM35 := lxM34.p67 (k := 211) (by decide)
  rw [← eM35] at lxM35
  have hmM35 := hmM34.sR (a := 67) (b := 14) (v := 211)
  rw [← eM35] at hmM35
  obtain ⟨M36, Z53, cc26, p26, sc26, fr26⟩ := c_State218 (M := M35) (Z := Z52) (hqZ52.fz (hmM35.le (by decide))) (hmM35.le (by decide)) (hqZ52.yard (by decide))
  have hmM36 := hmM35.st (n := 225) fr26 (by decide) (by decide)
  have hqZ53 := hqZ52.sub p26 (by decide) ⟨.inr (by decide), .inl rfl⟩
  have lxM36 := lxM35.st fr26 (by decide)
  obtain ⟨Z54, eZ54⟩ : ∃ X, X = uZ Z53 67 15 := ⟨_, rfl⟩
  obtain ⟨M37, eM37⟩ : ∃ X, X = sR M36 67 15 218 := ⟨_, rfl⟩
  have hqZ54 := hqZ53.p67 eZ54 (by decide)
  have lxM37 := lxM36.p67 (k := 218) (by decide)
  rw [← eM37] at lxM37
  have hmM37 := hmM36.sR (a := 67) (b := 15) (v := 218)
  rw [← eM37] at hmM37
  obtain ⟨M38, Z55, cc27, p27, sc27, fr27⟩ := c_State225 (M := M37) (Z := Z54) (hqZ54.fz (hmM37.le (by decide))) (hmM37.le (by decide)) (hqZ54.yard (by decide))
  have hmM38 := hmM37.st (n := 232) fr27 (by decide) (by decide)
  have hqZ55 := hqZ54.sub p27 (by decide) ⟨.inr (by decide), .inr (by decide)⟩
  have lxM38 := lxM37.st fr27 (by decide)
  obtain ⟨Z56, eZ56⟩ : ∃ X, X = uZ Z55 68 0 := ⟨_, rfl⟩
  obtain ⟨M39, eM39⟩ : ∃ X, X = sR M38 68 0 225 := ⟨_, rfl⟩
  have hqZ56 := hqZ55.p68 eZ56 (by decide)
  have lxM39 := lxM38.p68 (k := 225) (by decide)
  rw [← eM39] at lxM39
  have hmM39 := hmM38.sR (a := 68) (b := 0) (v := 225)
  rw [← eM39] at hmM39
  obtain ⟨M40, Z57, cc28, p28, sc28, fr28⟩ := c_State232 (M := M39) (Z := Z56) (hqZ56.fz (hmM39.le (by decide))) (hmM39.le (by decide)) (hqZ56.yard (by decide))
  have hmM40 := hmM39.st (n := 239) fr28 (by decide) (by decide)
  have hqZ57 := hqZ56.sub p28 (by decide) ⟨.inr (by decide), .inr (by decide)⟩
  have lxM40 := lxM39.st fr28 (by decide)
  obtain ⟨Z58, eZ58⟩ : ∃ X, X = uZ Z57 68 1 := ⟨_, rfl⟩
  obtain ⟨M41, eM41⟩ : ∃ X, X = sR M40 68 1 232 := ⟨_, rfl⟩
  have hqZ58 := hqZ57.p68 eZ58 (by decide)
  have lxM41 := lxM40.p68 (k := 232) (by decide)
  rw [← eM41] at lxM41
  have hmM41 := hmM40.sR (a := 68) (b := 1) (v := 232)
  rw [← eM41] at hmM41
  obtain ⟨M42, Z59, cc29, p29, sc29, fr29⟩ := c_State239 (M := M41) (Z := Z58) (hqZ58.fz (hmM41.le (by decide))) (hmM41.le (by decide)) (hqZ58.yard (by decide))
  have hmM42 := hmM41.st (n := 246) fr29 (by decide) (by decide)
  have hqZ59 := hqZ58.sub p29 (by decide) ⟨.inr (by decide), .inr (by decide)⟩
  have lxM42 := lxM41.st fr29 (by decide)
  obtain ⟨Z60, eZ60⟩ : ∃ X, X = uZ Z59 68 2 := ⟨_, rfl⟩
  obtain ⟨M43, eM43⟩ : ∃ X, X = sR M42 68 2 239 := ⟨_, rfl⟩
  have hqZ60 := hqZ59.p68 eZ60 (by decide)
  have lxM43 := lxM42.p68 (k := 239) (by decide)
  rw [← eM43] at lxM43
  have hmM43 := hmM42.sR (a := 68) (b := 2) (v := 239)
  rw [← eM43] at hmM43
  obtain ⟨M44, Z61, cc30, p30, sc30, fr30⟩ := c_State246 (M := M43) (Z := Z60) (hqZ60.fz (hmM43.le (by decide))) (hmM43.le (by decide)) (hqZ60.yard (by decide))
  have hmM44 := hmM43.st (n := 253) fr30 (by decide) (by decide)
  have hqZ61 := hqZ60.sub p30 (by decide) ⟨.inr (by decide), .inr (by decide)⟩
  have lxM44 := lxM43.st fr30 (by decide)
  obtain ⟨Z62, eZ62⟩ : ∃ X, X = uZ Z61 68 3 := ⟨_, rfl⟩
  obtain ⟨M45, eM45⟩ : ∃ X, X = sR M44 68 3 246 := ⟨_, rfl⟩
  have hqZ62 := hqZ61.p68 eZ62 (by decide)
  have lxM45 := lxM44.p68 (k := 246) (by decide)
  rw [← eM45] at lxM45
  have hmM45 := hmM44.sR (a := 68) (b := 3) (v := 246)
  rw [← eM45] at hmM45
  refine ⟨M45, Z62, CNt_of (own := "IceParliament") (by decide) rfl rfl (Nat.le_of_ble_eq_true rfl) (fun B => Nat.le_add_right B _) ?_, hqZ62, XF_of hm fr2 fr3 eR fr7 fr10 lxM45 sc7 yf hmM45⟩
  intro p l e s m args below meth c dC dI cA ρ B ls cx sx hsz hl
  have hls : ls.size = 2 := by obtain ⟨l0, h0, -⟩ := hl; exact h0.1
  refine n_ald cx hl (i := 0) (k3 := 0) (t := 11) (k := 0) (pc := 0) rfl rfl (by omega) (by decide +kernel) ?_
  refine n_obj (k := 0) (index := 3) cx hl (in_t1 (List.mem_of_getElem? (i := 32) rfl) rfl) (in_t1 (List.mem_of_getElem? (i := 33) rfl) rfl) (in_t1 (List.mem_of_getElem? (i := 34) rfl) rfl) ⟨Nat.le_of_ble_eq_true rfl, Nat.le_of_ble_eq_true rfl⟩ (by decide) (pc := 1) (by decide +kernel) ?_
  refine n_ald cx hl (i := 0) (k3 := 0) (t := 11) (k := 0) (pc := 4) rfl rfl (by omega) (by decide +kernel) ?_
  refine n_new (t := 7) (n := 1) (index := 9) cx sx (hq.fz (hm.le (by decide))) (by decide) (show WF[1]? = some (7, 0, 1) from rfl) (in_t1 (List.mem_of_getElem? (i := 35) rfl) rfl) (in_t1 (List.mem_of_getElem? (i := 36) rfl) rfl) (in_t1 (List.mem_of_getElem? (i := 2) rfl) rfl) (Nat.le_of_ble_eq_true rfl) (Nat.le_of_ble_eq_true rfl) (pc := 5) (by decide +kernel) (fun H1 sx => ?_)
  refine lv_dup cx.1.1 cx.1.2.1 (pc := 8) (by decide +kernel) rfl ?_
  refine n_init (t := 7) (k := 1) (index := 11) (as := []) cc1 cx sx (by omega) hls (in_t1 (List.mem_of_getElem? (i := 39) rfl) rfl) (in_t1 (List.mem_of_getElem? (i := 2) rfl) rfl) (.inr ⟨"IceParliament$Tape", by decide, rfl⟩) (in_t1 (List.mem_of_getElem? (i := 38) rfl) rfl) rfl ⟨by decide, by decide, rfl⟩ ⟨Nat.le_of_ble_eq_true rfl, Nat.le_of_ble_eq_true rfl⟩ ⟨Nat.le_of_ble_eq_true rfl, Nat.le_of_ble_eq_true rfl⟩ (Nat.le_of_ble_eq_true rfl) (pc := 9) (by decide +kernel) (fun H1 locs1 sx => ?_)
  refine n_putF (t := 11) (k := 0) (j := 0) (index := 12) cx sx (by omega) (by decide) (show WF[0]? = some (11, 0, 0) from rfl) (by decide) rfl (by rw [show (fp 11 0 0).2.2 = 1 from rfl, cx.2.2.2.2.2.2.2.2.1 1 (by omega)]) rfl (in_t3 (List.mem_of_getElem? (i := 24) rfl) rfl) rfl rfl (fun _ => rfl) (fun _ => rfl) (pc := 12) (by decide +kernel) (fun H1 locs1 sx => ?_)
  rw [← eZ2] at sx
  refine n_ald cx hl (i := 0) (k3 := 0) (t := 11) (k := 0) (pc := 15) rfl rfl (by omega) (by decide +kernel) ?_
  refine n_new (t := 9) (n := 3) (index := 16) cx sx (hqZ2.fz (hm.le (by decide))) (by decide) (show WF[3]? = some (9, 0, 3) from rfl) (in_t1 (List.mem_of_getElem? (i := 77) rfl) rfl) (in_t1 (List.mem_of_getElem? (i := 78) rfl) rfl) (in_t1 (List.mem_of_getElem? (i := 3) rfl) rfl) (Nat.le_of_ble_eq_true rfl) (Nat.le_of_ble_eq_true rfl) (pc := 16) (by decide +kernel) (fun H1 sx => ?_)
  refine lv_dup cx.1.1 cx.1.2.1 (pc := 19) (by decide +kernel) rfl ?_
  refine n_init (t := 9) (k := 3) (index := 18) (as := []) cc2 cx sx (by omega) hls (in_t1 (List.mem_of_getElem? (i := 81) rfl) rfl) (in_t1 (List.mem_of_getElem? (i := 3) rfl) rfl) (.inl (in_t1 (List.mem_of_getElem? (i := 79) rfl) rfl)) (in_t1 (List.mem_of_getElem? (i := 80) rfl) rfl) rfl ⟨by decide, by decide, rfl⟩ ⟨Nat.le_of_ble_eq_true rfl, Nat.le_of_ble_eq_true rfl⟩ ⟨Nat.le_of_ble_eq_true rfl, Nat.le_of_ble_eq_true rfl⟩ (Nat.le_of_ble_eq_true rfl) (pc := 20) (by decide +kernel) (fun H1 locs1 sx => ?_)
  refine n_putF (t := 11) (k := 0) (j := 1) (index := 19) cx sx (by omega) (by decide) (show WF[0]? = some (11, 0, 0) from rfl) (by decide) rfl (by rw [show (fp 11 1 0).2.2 = 3 from rfl, cx.2.2.2.2.2.2.2.2.1 3 (by omega)]) rfl (in_t3 (List.mem_of_getElem? (i := 25) rfl) rfl) rfl rfl (fun _ => rfl) (fun _ => rfl) (pc := 23) (by decide +kernel) (fun H1 locs1 sx => ?_)
  rw [← eZ4] at sx
  refine n_ald cx hl (i := 0) (k3 := 0) (t := 11) (k := 0) (pc := 26) rfl rfl (by omega) (by decide +kernel) ?_
  refine n_new (t := 9) (n := 26) (index := 16) cx sx (hqZ4.fz (hmM1.le (by decide))) (by decide) (show WF[26]? = some (9, 0, 26) from rfl) (in_t1 (List.mem_of_getElem? (i := 77) rfl) rfl) (in_t1 (List.mem_of_getElem? (i := 78) rfl) rfl) (in_t1 (List.mem_of_getElem? (i := 3) rfl) rfl) (Nat.le_of_ble_eq_true rfl) (Nat.le_of_ble_eq_true rfl) (pc := 27) (by decide +kernel) (fun H1 sx => ?_)
  refine lv_dup cx.1.1 cx.1.2.1 (pc := 30) (by decide +kernel) rfl ?_
  refine n_init (t := 9) (k := 26) (index := 18) (as := []) cc3 cx sx (by omega) hls (in_t1 (List.mem_of_getElem? (i := 81) rfl) rfl) (in_t1 (List.mem_of_getElem? (i := 3) rfl) rfl) (.inl (in_t1 (List.mem_of_getElem? (i := 79) rfl) rfl)) (in_t1 (List.mem_of_getElem? (i := 80) rfl) rfl) rfl ⟨by decide, by decide, rfl⟩ ⟨Nat.le_of_ble_eq_true rfl, Nat.le_of_ble_eq_true rfl⟩ ⟨Nat.le_of_ble_eq_true rfl, Nat.le_of_ble_eq_true rfl⟩ (Nat.le_of_ble_eq_true rfl) (pc := 31) (by decide +kernel) (fun H1 locs1 sx => ?_)
  refine n_putF (t := 11) (k := 0) (j := 2) (index := 23) cx sx (by omega) (by decide) (show WF[0]? = some (11, 0, 0) from rfl) (by decide) rfl (by rw [show (fp 11 2 0).2.2 = 26 from rfl, cx.2.2.2.2.2.2.2.2.1 26 (by omega)]) rfl (in_t3 (List.mem_of_getElem? (i := 26) rfl) rfl) rfl rfl (fun _ => rfl) (fun _ => rfl) (pc := 34) (by decide +kernel) (fun H1 locs1 sx => ?_)
  rw [← eZ6] at sx
  refine n_ald cx hl (i := 0) (k3 := 0) (t := 11) (k := 0) (pc := 37) rfl rfl (by omega) (by decide +kernel) ?_
  refine n_new (t := 10) (n := 49) (index := 26) cx sx (hqZ6.fz (hmM2.le (by decide))) (by decide) (show WF[49]? = some (10, 0, 49) from rfl) (in_t2 (List.mem_of_getElem? (i := 3) rfl) rfl) (in_t2 (List.mem_of_getElem? (i := 4) rfl) rfl) (in_t1 (List.mem_of_getElem? (i := 7) rfl) rfl) (Nat.le_of_ble_eq_true rfl) (Nat.le_of_ble_eq_true rfl) (pc := 38) (by decide +kernel) (fun H1 sx => ?_)
  refine lv_dup cx.1.1 cx.1.2.1 (pc := 41) (by decide +kernel) rfl ?_
  refine n_ald cx hl (i := 0) (k3 := 0) (t := 11) (k := 0) (pc := 42) rfl rfl (by omega) (by decide +kernel) ?_
  refine n_get (t := 11) (k := 0) (j := 0) (index := 12) cx sx (by omega) (by decide) (show WF[0]? = some (11, 0, 0) from rfl) (by decide) rfl (hqZ6.get (by decide)) (in_t3 (List.mem_of_getElem? (i := 24) rfl) rfl) rfl (pc := 43) (by decide +kernel) ?_
  rw [show (fp 11 0 0).2.2 = 1 from rfl, cx.2.2.2.2.2.2.2.2.1 1 (by omega)]
  refine n_ald cx hl (i := 0) (k3 := 0) (t := 11) (k := 0) (pc := 46) rfl rfl (by omega) (by decide +kernel) ?_
  refine n_get (t := 11) (k := 0) (j := 2) (index := 23) cx sx (by omega) (by decide) (show WF[0]? = some (11, 0, 0) from rfl) (by decide) rfl (hqZ6.get (by decide)) (in_t3 (List.mem_of_getElem? (i := 26) rfl) rfl) rfl (pc := 47) (by decide +kernel) ?_
  rw [show (fp 11 2 0).2.2 = 26 from rfl, cx.2.2.2.2.2.2.2.2.1 26 (by omega)]
  refine n_initS (t := 10) (k := 49) (index := 28) (as := [vR 7 0 1, vR 9 0 26]) (rest := [.ref (B + 49), .ref (B + 0)]) (ρ := ρ) (by rw [← cx.2.2.2.2.2.2.2.2.1 1 (by omega), ← cx.2.2.2.2.2.2.2.2.1 26 (by omega)]; rfl) cc4 cx sx (by omega) hls (in_t2 (List.mem_of_getElem? (i := 7) rfl) rfl) (in_t1 (List.mem_of_getElem? (i := 7) rfl) rfl) (.inl (in_t2 (List.mem_of_getElem? (i := 5) rfl) rfl)) (in_t2 (List.mem_of_getElem? (i := 6) rfl) rfl) rfl ⟨by decide, by decide, rfl⟩ ⟨Nat.le_of_ble_eq_true rfl, Nat.le_of_ble_eq_true rfl⟩ ⟨Nat.le_of_ble_eq_true rfl, Nat.le_of_ble_eq_true rfl⟩ (Nat.le_of_ble_eq_true rfl) (pc := 50) (by decide +kernel) (fun H1 locs1 sx => ?_)
  refine n_putF (t := 11) (k := 0) (j := 3) (index := 31) cx sx (by omega) (by decide) (show WF[0]? = some (11, 0, 0) from rfl) (by decide) rfl (by rw [show (fp 11 3 0).2.2 = 49 from rfl, cx.2.2.2.2.2.2.2.2.1 49 (by omega)]) rfl (in_t3 (List.mem_of_getElem? (i := 27) rfl) rfl) rfl rfl (fun _ => rfl) (fun _ => rfl) (pc := 53) (by decide +kernel) (fun H1 locs1 sx => ?_)
  rw [← eZ8] at sx
  refine n_ald cx hl (i := 0) (k3 := 0) (t := 11) (k := 0) (pc := 56) rfl rfl (by omega) (by decide +kernel) ?_
  refine n_new (t := 5) (n := 52) (index := 35) cx sx (hqZ8.fz (hmM3.le (by decide))) (by decide) (show WF[52]? = some (5, 0, 52) from rfl) (in_t2 (List.mem_of_getElem? (i := 47) rfl) rfl) (in_t2 (List.mem_of_getElem? (i := 48) rfl) rfl) (in_t1 (List.mem_of_getElem? (i := 9) rfl) rfl) (Nat.le_of_ble_eq_true rfl) (Nat.le_of_ble_eq_true rfl) (pc := 57) (by decide +kernel) (fun H1 sx => ?_)
  refine lv_dup cx.1.1 cx.1.2.1 (pc := 60) (by decide +kernel) rfl ?_
  refine n_init (t := 5) (k := 52) (index := 37) (as := []) cc5 cx sx (by omega) hls (in_t2 (List.mem_of_getElem? (i := 51) rfl) rfl) (in_t1 (List.mem_of_getElem? (i := 9) rfl) rfl) (.inr ⟨"IceParliament$Session", by decide, rfl⟩) (in_t2 (List.mem_of_getElem? (i := 50) rfl) rfl) rfl ⟨by decide, by decide, rfl⟩ ⟨Nat.le_of_ble_eq_true rfl, Nat.le_of_ble_eq_true rfl⟩ ⟨Nat.le_of_ble_eq_true rfl, Nat.le_of_ble_eq_true rfl⟩ (Nat.le_of_ble_eq_true rfl) (pc := 61) (by decide +kernel) (fun H1 locs1 sx => ?_)
  refine n_putF (t := 11) (k := 0) (j := 4) (index := 38) cx sx (by omega) (by decide) (show WF[0]? = some (11, 0, 0) from rfl) (by decide) rfl (by rw [show (fp 11 4 0).2.2 = 52 from rfl, cx.2.2.2.2.2.2.2.2.1 52 (by omega)]) rfl (in_t3 (List.mem_of_getElem? (i := 28) rfl) rfl) rfl rfl (fun _ => rfl) (fun _ => rfl) (pc := 64) (by decide +kernel) (fun H1 locs1 sx => ?_)
  rw [← eZ10] at sx
  refine n_ald cx hl (i := 0) (k3 := 0) (t := 11) (k := 0) (pc := 67) rfl rfl (by omega) (by decide +kernel) ?_
  refine n_new (t := 5) (n := 56) (index := 35) cx sx (hqZ10.fz (hmM3.le (by decide))) (by decide) (show WF[56]? = some (5, 0, 56) from rfl) (in_t2 (List.mem_of_getElem? (i := 47) rfl) rfl) (in_t2 (List.mem_of_getElem? (i := 48) rfl) rfl) (in_t1 (List.mem_of_getElem? (i := 9) rfl) rfl) (Nat.le_of_ble_eq_true rfl) (Nat.le_of_ble_eq_true rfl) (pc := 68) (by decide +kernel) (fun H1 sx => ?_)
  refine lv_dup cx.1.1 cx.1.2.1 (pc := 71) (by decide +kernel) rfl ?_
  refine n_init (t := 5) (k := 56) (index := 37) (as := []) cc6 cx sx (by omega) hls (in_t2 (List.mem_of_getElem? (i := 51) rfl) rfl) (in_t1 (List.mem_of_getElem? (i := 9) rfl) rfl) (.inr ⟨"IceParliament$Session", by decide, rfl⟩) (in_t2 (List.mem_of_getElem? (i := 50) rfl) rfl) rfl ⟨by decide, by decide, rfl⟩ ⟨Nat.le_of_ble_eq_true rfl, Nat.le_of_ble_eq_true rfl⟩ ⟨Nat.le_of_ble_eq_true rfl, Nat.le_of_ble_eq_true rfl⟩ (Nat.le_of_ble_eq_true rfl) (pc := 72) (by decide +kernel) (fun H1 locs1 sx => ?_)
  refine n_putF (t := 11) (k := 0) (j := 5) (index := 42) cx sx (by omega) (by decide) (show WF[0]? = some (11, 0, 0) from rfl) (by decide) rfl (by rw [show (fp 11 5 0).2.2 = 56 from rfl, cx.2.2.2.2.2.2.2.2.1 56 (by omega)]) rfl (in_t3 (List.mem_of_getElem? (i := 29) rfl) rfl) rfl rfl (fun _ => rfl) (fun _ => rfl) (pc := 75) (by decide +kernel) (fun H1 locs1 sx => ?_)
  rw [← eZ12] at sx
  refine n_ald cx hl (i := 0) (k3 := 0) (t := 11) (k := 0) (pc := 78) rfl rfl (by omega) (by decide +kernel) ?_
  refine n_new (t := 6) (n := 60) (index := 45) cx sx (hqZ12.fz (hmM3.le (by decide))) (by decide) (show WF[60]? = some (6, 0, 60) from rfl) (in_t2 (List.mem_of_getElem? (i := 71) rfl) rfl) (in_t2 (List.mem_of_getElem? (i := 72) rfl) rfl) (in_t1 (List.mem_of_getElem? (i := 10) rfl) rfl) (Nat.le_of_ble_eq_true rfl) (Nat.le_of_ble_eq_true rfl) (pc := 79) (by decide +kernel) (fun H1 sx => ?_)
  refine lv_dup cx.1.1 cx.1.2.1 (pc := 82) (by decide +kernel) rfl ?_
  refine n_ald cx hl (i := 0) (k3 := 0) (t := 11) (k := 0) (pc := 83) rfl rfl (by omega) (by decide +kernel) ?_
  refine n_get (t := 11) (k := 0) (j := 1) (index := 19) cx sx (by omega) (by decide) (show WF[0]? = some (11, 0, 0) from rfl) (by decide) rfl (hqZ12.get (by decide)) (in_t3 (List.mem_of_getElem? (i := 25) rfl) rfl) rfl (pc := 84) (by decide +kernel) ?_
  rw [show (fp 11 1 0).2.2 = 3 from rfl, cx.2.2.2.2.2.2.2.2.1 3 (by omega)]
  refine n_initS (t := 6) (k := 60) (index := 47) (as := [vR 9 0 3]) (rest := [.ref (B + 60), .ref (B + 0)]) (ρ := ρ) (by rw [← cx.2.2.2.2.2.2.2.2.1 3 (by omega)]; rfl) cc7 cx sx (by omega) hls (in_t2 (List.mem_of_getElem? (i := 75) rfl) rfl) (in_t1 (List.mem_of_getElem? (i := 10) rfl) rfl) (.inl (in_t2 (List.mem_of_getElem? (i := 73) rfl) rfl)) (in_t2 (List.mem_of_getElem? (i := 74) rfl) rfl) rfl ⟨by decide, by decide, rfl⟩ ⟨Nat.le_of_ble_eq_true rfl, Nat.le_of_ble_eq_true rfl⟩ ⟨Nat.le_of_ble_eq_true rfl, Nat.le_of_ble_eq_true rfl⟩ (Nat.le_of_ble_eq_true rfl) (pc := 87) (by decide +kernel) (fun H1 locs1 sx => ?_)
  refine n_putF (t := 11) (k := 0) (j := 6) (index := 50) cx sx (by omega) (by decide) (show WF[0]? = some (11, 0, 0) from rfl) (by decide) rfl (by rw [show (fp 11 6 0).2.2 = 60 from rfl, cx.2.2.2.2.2.2.2.2.1 60 (by omega)]) rfl (in_t3 (List.mem_of_getElem? (i := 30) rfl) rfl) rfl rfl (fun _ => rfl) (fun _ => rfl) (pc := 90) (by decide +kernel) (fun H1 locs1 sx => ?_)
  rw [← eZ14] at sx
  refine n_ald cx hl (i := 0) (k3 := 0) (t := 11) (k := 0) (pc := 93) rfl rfl (by omega) (by decide +kernel) ?_
  refine lv_bipush cx.1.1 cx.1.2.1 (n := 16) (v := Int32.ofNat 16) (pc := 94) (by decide +kernel) (by decide) ?_
  refine n_newq (N := 16) (n := 67) (index := 45) rfl (by omega) cx sx (hqZ14.fz (hmM4.le (by decide))) (show WF[67]? = some (24, 16, 67) from rfl) (in_t2 (List.mem_of_getElem? (i := 71) rfl) rfl) (Nat.le_of_ble_eq_true rfl) (Nat.le_of_ble_eq_true rfl) (pc := 96) (by decide +kernel) (fun H1 sx => ?_)
  refine n_putF (t := 11) (k := 0) (j := 7) (index := 54) cx sx (by omega) (by decide) (show WF[0]? = some (11, 0, 0) from rfl) (by decide) rfl (by rw [show (fp 11 7 0).2.2 = 67 from rfl, cx.2.2.2.2.2.2.2.2.1 67 (by omega)]) rfl (in_t3 (List.mem_of_getElem? (i := 31) rfl) rfl) rfl rfl (fun _ => rfl) (fun _ => rfl) (pc := 99) (by decide +kernel) (fun H1 locs1 sx => ?_)
  rw [← eZ15] at sx
  refine n_ald cx hl (i := 0) (k3 := 0) (t := 11) (k := 0) (pc := 102) rfl rfl (by omega) (by decide +kernel) ?_
  refine lv_iconst cx.1.1 cx.1.2.1 (n := 4) (v := Int32.ofNat 4) (pc := 103) (by decide +kernel) (by decide) ?_
  refine n_newq (N := 4) (n := 68) (index := 45) rfl (by omega) cx sx (hqZ15.fz (hmM4.le (by decide))) (show WF[68]? = some (24, 4, 68) from rfl) (in_t2 (List.mem_of_getElem? (i := 71) rfl) rfl) (Nat.le_of_ble_eq_true rfl) (Nat.le_of_ble_eq_true rfl) (pc := 104) (by decide +kernel) (fun H1 sx => ?_)
  refine n_putF (t := 11) (k := 0) (j := 9) (index := 58) cx sx (by omega) (by decide) (show WF[0]? = some (11, 0, 0) from rfl) (by decide) rfl (by rw [show (fp 11 9 0).2.2 = 68 from rfl, cx.2.2.2.2.2.2.2.2.1 68 (by omega)]) rfl (in_t3 (List.mem_of_getElem? (i := 33) rfl) rfl) rfl rfl (fun _ => rfl) (fun _ => rfl) (pc := 107) (by decide +kernel) (fun H1 locs1 sx => ?_)
  rw [← eZ16] at sx
  refine n_ald cx hl (i := 0) (k3 := 0) (t := 11) (k := 0) (pc := 110) rfl rfl (by omega) (by decide +kernel) ?_
  refine n_new (t := 3) (n := 69) (index := 61) cx sx (hqZ16.fz (hmM4.le (by decide))) (by decide) (show WF[69]? = some (3, 0, 69) from rfl) (in_t2 (List.mem_of_getElem? (i := 141) rfl) rfl) (in_t2 (List.mem_of_getElem? (i := 142) rfl) rfl) (in_t1 (List.mem_of_getElem? (i := 12) rfl) rfl) (Nat.le_of_ble_eq_true rfl) (Nat.le_of_ble_eq_true rfl) (pc := 111) (by decide +kernel) (fun H1 sx => ?_)
  refine lv_dup cx.1.1 cx.1.2.1 (pc := 114) (by decide +kernel) rfl ?_
  refine n_ald cx hl (i := 0) (k3 := 0) (t := 11) (k := 0) (pc := 115) rfl rfl (by omega) (by decide +kernel) ?_
  refine n_get (t := 11) (k := 0) (j := 1) (index := 19) cx sx (by omega) (by decide) (show WF[0]? = some (11, 0, 0) from rfl) (by decide) rfl (hqZ16.get (by decide)) (in_t3 (List.mem_of_getElem? (i := 25) rfl) rfl) rfl (pc := 116) (by decide +kernel) ?_
  rw [show (fp 11 1 0).2.2 = 3 from rfl, cx.2.2.2.2.2.2.2.2.1 3 (by omega)]
  refine n_ald cx hl (i := 0) (k3 := 0) (t := 11) (k := 0) (pc := 119) rfl rfl (by omega) (by decide +kernel) ?_
  refine n_get (t := 11) (k := 0) (j := 6) (index := 50) cx sx (by omega) (by decide) (show WF[0]? = some (11, 0, 0) from rfl) (by decide) rfl (hqZ16.get (by decide)) (in_t3 (List.mem_of_getElem? (i := 30) rfl) rfl) rfl (pc := 120) (by decide +kernel) ?_
  rw [show (fp 11 6 0).2.2 = 60 from rfl, cx.2.2.2.2.2.2.2.2.1 60 (by omega)]
  refine n_initS (t := 3) (k := 69) (index := 63) (as := [vR 9 0 3, vR 6 0 60]) (rest := [.ref (B + 69), .ref (B + 0)]) (ρ := ρ) (by rw [← cx.2.2.2.2.2.2.2.2.1 3 (by omega), ← cx.2.2.2.2.2.2.2.2.1 60 (by omega)]; rfl) cc8 cx sx (by omega) hls (in_t2 (List.mem_of_getElem? (i := 145) rfl) rfl) (in_t1 (List.mem_of_getElem? (i := 12) rfl) rfl) (.inl (in_t2 (List.mem_of_getElem? (i := 143) rfl) rfl)) (in_t2 (List.mem_of_getElem? (i := 144) rfl) rfl) rfl ⟨by decide, by decide, rfl⟩ ⟨Nat.le_of_ble_eq_true rfl, Nat.le_of_ble_eq_true rfl⟩ ⟨Nat.le_of_ble_eq_true rfl, Nat.le_of_ble_eq_true rfl⟩ (Nat.le_of_ble_eq_true rfl) (pc := 123) (by decide +kernel) (fun H1 locs1 sx => ?_)
  refine n_putF (t := 11) (k := 0) (j := 11) (index := 66) cx sx (by omega) (by decide) (show WF[0]? = some (11, 0, 0) from rfl) (by decide) rfl (by rw [show (fp 11 11 0).2.2 = 69 from rfl, cx.2.2.2.2.2.2.2.2.1 69 (by omega)]) rfl (in_t3 (List.mem_of_getElem? (i := 35) rfl) rfl) rfl rfl (fun _ => rfl) (fun _ => rfl) (pc := 126) (by decide +kernel) (fun H1 locs1 sx => ?_)
  rw [← eZ18] at sx
  refine n_ald cx hl (i := 0) (k3 := 0) (t := 11) (k := 0) (pc := 129) rfl rfl (by omega) (by decide +kernel) ?_
  refine n_new (t := 0) (n := 100) (index := 70) cx sx (hqZ18.fz (hmM4.le (by decide))) (by decide) (show WF[100]? = some (0, 0, 100) from rfl) (in_t2 (List.mem_of_getElem? (i := 197) rfl) rfl) (in_t2 (List.mem_of_getElem? (i := 198) rfl) rfl) (in_t1 (List.mem_of_getElem? (i := 13) rfl) rfl) (Nat.le_of_ble_eq_true rfl) (Nat.le_of_ble_eq_true rfl) (pc := 130) (by decide +kernel) (fun H1 sx => ?_)
  refine lv_dup cx.1.1 cx.1.2.1 (pc := 133) (by decide +kernel) rfl ?_
  refine n_ald cx hl (i := 0) (k3 := 0) (t := 11) (k := 0) (pc := 134) rfl rfl (by omega) (by decide +kernel) ?_
  refine n_get (t := 11) (k := 0) (j := 1) (index := 19) cx sx (by omega) (by decide) (show WF[0]? = some (11, 0, 0) from rfl) (by decide) rfl (hqZ18.get (by decide)) (in_t3 (List.mem_of_getElem? (i := 25) rfl) rfl) rfl (pc := 135) (by decide +kernel) ?_
  rw [show (fp 11 1 0).2.2 = 3 from rfl, cx.2.2.2.2.2.2.2.2.1 3 (by omega)]
  refine n_ald cx hl (i := 0) (k3 := 0) (t := 11) (k := 0) (pc := 138) rfl rfl (by omega) (by decide +kernel) ?_
  refine n_get (t := 11) (k := 0) (j := 6) (index := 50) cx sx (by omega) (by decide) (show WF[0]? = some (11, 0, 0) from rfl) (by decide) rfl (hqZ18.get (by decide)) (in_t3 (List.mem_of_getElem? (i := 30) rfl) rfl) rfl (pc := 139) (by decide +kernel) ?_
  rw [show (fp 11 6 0).2.2 = 60 from rfl, cx.2.2.2.2.2.2.2.2.1 60 (by omega)]
  refine n_initS (t := 0) (k := 100) (index := 72) (as := [vR 9 0 3, vR 6 0 60]) (rest := [.ref (B + 100), .ref (B + 0)]) (ρ := ρ) (by rw [← cx.2.2.2.2.2.2.2.2.1 3 (by omega), ← cx.2.2.2.2.2.2.2.2.1 60 (by omega)]; rfl) cc9 cx sx (by omega) hls (in_t2 (List.mem_of_getElem? (i := 201) rfl) rfl) (in_t1 (List.mem_of_getElem? (i := 13) rfl) rfl) (.inl (in_t2 (List.mem_of_getElem? (i := 199) rfl) rfl)) (in_t2 (List.mem_of_getElem? (i := 200) rfl) rfl) rfl ⟨by decide, by decide, rfl⟩ ⟨Nat.le_of_ble_eq_true rfl, Nat.le_of_ble_eq_true rfl⟩ ⟨Nat.le_of_ble_eq_true rfl, Nat.le_of_ble_eq_true rfl⟩ (Nat.le_of_ble_eq_true rfl) (pc := 142) (by decide +kernel) (fun H1 locs1 sx => ?_)
  refine n_putF (t := 11) (k := 0) (j := 12) (index := 73) cx sx (by omega) (by decide) (show WF[0]? = some (11, 0, 0) from rfl) (by decide) rfl (by rw [show (fp 11 12 0).2.2 = 100 from rfl, cx.2.2.2.2.2.2.2.2.1 100 (by omega)]) rfl (in_t3 (List.mem_of_getElem? (i := 36) rfl) rfl) rfl rfl (fun _ => rfl) (fun _ => rfl) (pc := 145) (by decide +kernel) (fun H1 locs1 sx => ?_)
  rw [← eZ20] at sx
  refine n_ald cx hl (i := 0) (k3 := 0) (t := 11) (k := 0) (pc := 148) rfl rfl (by omega) (by decide +kernel) ?_
  refine n_new (t := 8) (n := 105) (index := 77) cx sx (hqZ20.fz (hmM4.le (by decide))) (by decide) (show WF[105]? = some (8, 0, 105) from rfl) (in_t2 (List.mem_of_getElem? (i := 226) rfl) rfl) (in_t2 (List.mem_of_getElem? (i := 227) rfl) rfl) (in_t1 (List.mem_of_getElem? (i := 14) rfl) rfl) (Nat.le_of_ble_eq_true rfl) (Nat.le_of_ble_eq_true rfl) (pc := 149) (by decide +kernel) (fun H1 sx => ?_)
  refine lv_dup cx.1.1 cx.1.2.1 (pc := 152) (by decide +kernel) rfl ?_
  refine n_ald cx hl (i := 0) (k3 := 0) (t := 11) (k := 0) (pc := 153) rfl rfl (by omega) (by decide +kernel) ?_
  refine n_get (t := 11) (k := 0) (j := 1) (index := 19) cx sx (by omega) (by decide) (show WF[0]? = some (11, 0, 0) from rfl) (by decide) rfl (hqZ20.get (by decide)) (in_t3 (List.mem_of_getElem? (i := 25) rfl) rfl) rfl (pc := 154) (by decide +kernel) ?_
  rw [show (fp 11 1 0).2.2 = 3 from rfl, cx.2.2.2.2.2.2.2.2.1 3 (by omega)]
  refine n_initS (t := 8) (k := 105) (index := 79) (as := [vR 9 0 3]) (rest := [.ref (B + 105), .ref (B + 0)]) (ρ := ρ) (by rw [← cx.2.2.2.2.2.2.2.2.1 3 (by omega)]; rfl) cc10 cx sx (by omega) hls (in_t2 (List.mem_of_getElem? (i := 230) rfl) rfl) (in_t1 (List.mem_of_getElem? (i := 14) rfl) rfl) (.inl (in_t2 (List.mem_of_getElem? (i := 228) rfl) rfl)) (in_t2 (List.mem_of_getElem? (i := 229) rfl) rfl) rfl ⟨by decide, by decide, rfl⟩ ⟨Nat.le_of_ble_eq_true rfl, Nat.le_of_ble_eq_true rfl⟩ ⟨Nat.le_of_ble_eq_true rfl, Nat.le_of_ble_eq_true rfl⟩ (Nat.le_of_ble_eq_true rfl) (pc := 157) (by decide +kernel) (fun H1 locs1 sx => ?_)
  refine n_putF (t := 11) (k := 0) (j := 13) (index := 80) cx sx (by omega) (by decide) (show WF[0]? = some (11, 0, 0) from rfl) (by decide) rfl (by rw [show (fp 11 13 0).2.2 = 105 from rfl, cx.2.2.2.2.2.2.2.2.1 105 (by omega)]) rfl (in_t3 (List.mem_of_getElem? (i := 37) rfl) rfl) rfl rfl (fun _ => rfl) (fun _ => rfl) (pc := 160) (by decide +kernel) (fun H1 locs1 sx => ?_)
  rw [← eZ22] at sx
  refine lv_iconst cx.1.1 cx.1.2.1 (n := 0) (v := Int32.ofNat 0) (pc := 163) (by decide +kernel) (by decide) ?_
  refine n_ist (i := 1) (k3 := 1) (v := Int32.ofNat 0) cx hl rfl (by decide) (pc := 164) (by decide +kernel) (fun ls hl => ?_)
  have hls : ls.size = 2 := by obtain ⟨l0, h0, -⟩ := hl; exact h0.1
  refine n_ild (i := 1) (k3 := 1) (v := Int32.ofNat 0) cx hl rfl rfl (pc := 165) (by decide +kernel) ?_
  refine n_ald cx hl (i := 0) (k3 := 0) (t := 11) (k := 0) (pc := 166) rfl rfl (by omega) (by decide +kernel) ?_
  refine n_get (t := 11) (k := 0) (j := 7) (index := 54) cx sx (by omega) (by decide) (show WF[0]? = some (11, 0, 0) from rfl) (by decide) rfl (hqZ22.get (by decide)) (in_t3 (List.mem_of_getElem? (i := 31) rfl) rfl) rfl (pc := 167) (by decide +kernel) ?_
  rw [show (fp 11 7 0).2.2 = 67 from rfl, cx.2.2.2.2.2.2.2.2.1 67 (by omega)]
  refine n_alen (k := 67) (N := 16) cx sx (by decide) (show WF[67]? = some (24, 16, 67) from rfl) (pc := 170) (by decide +kernel) ?_
  refine lv_icmp_ge cx.1.1 cx.1.2.1 (x := Int32.ofNat 0) (y := Int32.ofNat 16) (off := 26) (tgt := 197) (pc := 171) (by decide +kernel) (by decide) (fun hno => absurd hno (by decide)) (fun _ => ?_)
  refine n_ald cx hl (i := 0) (k3 := 0) (t := 11) (k := 0) (pc := 174) rfl rfl (by omega) (by decide +kernel) ?_
  refine n_get (t := 11) (k := 0) (j := 7) (index := 54) cx sx (by omega) (by decide) (show WF[0]? = some (11, 0, 0) from rfl) (by decide) rfl (hqZ22.get (by decide)) (in_t3 (List.mem_of_getElem? (i := 31) rfl) rfl) rfl (pc := 175) (by decide +kernel) ?_
  rw [show (fp 11 7 0).2.2 = 67 from rfl, cx.2.2.2.2.2.2.2.2.1 67 (by omega)]
  refine n_ild (i := 1) (k3 := 1) (v := Int32.ofNat 0) cx hl rfl rfl (pc := 178) (by decide +kernel) ?_
  refine n_new (t := 6) (n := 113) (index := 45) cx sx (hqZ22.fz (hmM5.le (by decide))) (by decide) (show WF[113]? = some (6, 0, 113) from rfl) (in_t2 (List.mem_of_getElem? (i := 71) rfl) rfl) (in_t2 (List.mem_of_getElem? (i := 72) rfl) rfl) (in_t1 (List.mem_of_getElem? (i := 10) rfl) rfl) (Nat.le_of_ble_eq_true rfl) (Nat.le_of_ble_eq_true rfl) (pc := 179) (by decide +kernel) (fun H1 sx => ?_)
  refine lv_dup cx.1.1 cx.1.2.1 (pc := 182) (by decide +kernel) rfl ?_
  refine n_ald cx hl (i := 0) (k3 := 0) (t := 11) (k := 0) (pc := 183) rfl rfl (by omega) (by decide +kernel) ?_
  refine n_get (t := 11) (k := 0) (j := 1) (index := 19) cx sx (by omega) (by decide) (show WF[0]? = some (11, 0, 0) from rfl) (by decide) rfl (hqZ22.get (by decide)) (in_t3 (List.mem_of_getElem? (i := 25) rfl) rfl) rfl (pc := 184) (by decide +kernel) ?_
  rw [show (fp 11 1 0).2.2 = 3 from rfl, cx.2.2.2.2.2.2.2.2.1 3 (by omega)]
  refine n_initS (t := 6) (k := 113) (index := 47) (as := [vR 9 0 3]) (rest := [.ref (B + 113), .int (Int32.ofNat 0), .ref (B + 67)]) (ρ := ρ) (by rw [← cx.2.2.2.2.2.2.2.2.1 3 (by omega)]; rfl) cc11 cx sx (by omega) hls (in_t2 (List.mem_of_getElem? (i := 75) rfl) rfl) (in_t1 (List.mem_of_getElem? (i := 10) rfl) rfl) (.inl (in_t2 (List.mem_of_getElem? (i := 73) rfl) rfl)) (in_t2 (List.mem_of_getElem? (i := 74) rfl) rfl) rfl ⟨by decide, by decide, rfl⟩ ⟨Nat.le_of_ble_eq_true rfl, Nat.le_of_ble_eq_true rfl⟩ ⟨Nat.le_of_ble_eq_true rfl, Nat.le_of_ble_eq_true rfl⟩ (Nat.le_of_ble_eq_true rfl) (pc := 187) (by decide +kernel) (fun H1 locs1 sx => ?_)
  refine n_astq (k := 67) (N := 16) (i := 0) (kv := 113) rfl (by decide) (by decide) cx sx (by decide) (show WF[67]? = some (24, 16, 67) from rfl) (by decide) (show WF[113]? = some (6, 0, 113) from rfl) (pc := 190) (by decide +kernel) (fun H1 locs1 sx => ?_)
  rw [← eZ24, ← eM7] at sx
  refine n_iinc (i := 1) (z := 1) (v := Int32.ofNat 0) (v' := Int32.ofNat 1) cx hl rfl (by decide) (by decide) (pc := 191) (by decide +kernel) (fun ls hl => ?_)
  have hls : ls.size = 2 := by obtain ⟨l0, h0, -⟩ := hl; exact h0.1
  refine lv_goto cx.1.1 cx.1.2.1 (off := -29) (tgt := 165) (pc := 194) (by decide +kernel) (by decide) ?_
  refine n_ild (i := 1) (k3 := 1) (v := Int32.ofNat 1) cx hl rfl rfl (pc := 165) (by decide +kernel) ?_
  refine n_ald cx hl (i := 0) (k3 := 0) (t := 11) (k := 0) (pc := 166) rfl rfl (by omega) (by decide +kernel) ?_
  refine n_get (t := 11) (k := 0) (j := 7) (index := 54) cx sx (by omega) (by decide) (show WF[0]? = some (11, 0, 0) from rfl) (by decide) rfl (hqZ24.get (by decide)) (in_t3 (List.mem_of_getElem? (i := 31) rfl) rfl) rfl (pc := 167) (by decide +kernel) ?_
  rw [show (fp 11 7 0).2.2 = 67 from rfl, cx.2.2.2.2.2.2.2.2.1 67 (by omega)]
  refine n_alen (k := 67) (N := 16) cx sx (by decide) (show WF[67]? = some (24, 16, 67) from rfl) (pc := 170) (by decide +kernel) ?_
  refine lv_icmp_ge cx.1.1 cx.1.2.1 (x := Int32.ofNat 1) (y := Int32.ofNat 16) (off := 26) (tgt := 197) (pc := 171) (by decide +kernel) (by decide) (fun hno => absurd hno (by decide)) (fun _ => ?_)
  refine n_ald cx hl (i := 0) (k3 := 0) (t := 11) (k := 0) (pc := 174) rfl rfl (by omega) (by decide +kernel) ?_
  refine n_get (t := 11) (k := 0) (j := 7) (index := 54) cx sx (by omega) (by decide) (show WF[0]? = some (11, 0, 0) from rfl) (by decide) rfl (hqZ24.get (by decide)) (in_t3 (List.mem_of_getElem? (i := 31) rfl) rfl) rfl (pc := 175) (by decide +kernel) ?_
  rw [show (fp 11 7 0).2.2 = 67 from rfl, cx.2.2.2.2.2.2.2.2.1 67 (by omega)]
  refine n_ild (i := 1) (k3 := 1) (v := Int32.ofNat 1) cx hl rfl rfl (pc := 178) (by decide +kernel) ?_
  refine n_new (t := 6) (n := 120) (index := 45) cx sx (hqZ24.fz (hmM7.le (by decide))) (by decide) (show WF[120]? = some (6, 0, 120) from rfl) (in_t2 (List.mem_of_getElem? (i := 71) rfl) rfl) (in_t2 (List.mem_of_getElem? (i := 72) rfl) rfl) (in_t1 (List.mem_of_getElem? (i := 10) rfl) rfl) (Nat.le_of_ble_eq_true rfl) (Nat.le_of_ble_eq_true rfl) (pc := 179) (by decide +kernel) (fun H1 sx => ?_)
  refine lv_dup cx.1.1 cx.1.2.1 (pc := 182) (by decide +kernel) rfl ?_
  refine n_ald cx hl (i := 0) (k3 := 0) (t := 11) (k := 0) (pc := 183) rfl rfl (by omega) (by decide +kernel) ?_
  refine n_get (t := 11) (k := 0) (j := 1) (index := 19) cx sx (by omega) (by decide) (show WF[0]? = some (11, 0, 0) from rfl) (by decide) rfl (hqZ24.get (by decide)) (in_t3 (List.mem_of_getElem? (i := 25) rfl) rfl) rfl (pc := 184) (by decide +kernel) ?_
  rw [show (fp 11 1 0).2.2 = 3 from rfl, cx.2.2.2.2.2.2.2.2.1 3 (by omega)]
  refine n_initS (t := 6) (k := 120) (index := 47) (as := [vR 9 0 3]) (rest := [.ref (B + 120), .int (Int32.ofNat 1), .ref (B + 67)]) (ρ := ρ) (by rw [← cx.2.2.2.2.2.2.2.2.1 3 (by omega)]; rfl) cc12 cx sx (by omega) hls (in_t2 (List.mem_of_getElem? (i := 75) rfl) rfl) (in_t1 (List.mem_of_getElem? (i := 10) rfl) rfl) (.inl (in_t2 (List.mem_of_getElem? (i := 73) rfl) rfl)) (in_t2 (List.mem_of_getElem? (i := 74) rfl) rfl) rfl ⟨by decide, by decide, rfl⟩ ⟨Nat.le_of_ble_eq_true rfl, Nat.le_of_ble_eq_true rfl⟩ ⟨Nat.le_of_ble_eq_true rfl, Nat.le_of_ble_eq_true rfl⟩ (Nat.le_of_ble_eq_true rfl) (pc := 187) (by decide +kernel) (fun H1 locs1 sx => ?_)
  refine n_astq (k := 67) (N := 16) (i := 1) (kv := 120) rfl (by decide) (by decide) cx sx (by decide) (show WF[67]? = some (24, 16, 67) from rfl) (by decide) (show WF[120]? = some (6, 0, 120) from rfl) (pc := 190) (by decide +kernel) (fun H1 locs1 sx => ?_)
  rw [← eZ26, ← eM9] at sx
  refine n_iinc (i := 1) (z := 1) (v := Int32.ofNat 1) (v' := Int32.ofNat 2) cx hl rfl (by decide) (by decide) (pc := 191) (by decide +kernel) (fun ls hl => ?_)
  have hls : ls.size = 2 := by obtain ⟨l0, h0, -⟩ := hl; exact h0.1
  refine lv_goto cx.1.1 cx.1.2.1 (off := -29) (tgt := 165) (pc := 194) (by decide +kernel) (by decide) ?_
  refine n_ild (i := 1) (k3 := 1) (v := Int32.ofNat 2) cx hl rfl rfl (pc := 165) (by decide +kernel) ?_
  refine n_ald cx hl (i := 0) (k3 := 0) (t := 11) (k := 0) (pc := 166) rfl rfl (by omega) (by decide +kernel) ?_
  refine n_get (t := 11) (k := 0) (j := 7) (index := 54) cx sx (by omega) (by decide) (show WF[0]? = some (11, 0, 0) from rfl) (by decide) rfl (hqZ26.get (by decide)) (in_t3 (List.mem_of_getElem? (i := 31) rfl) rfl) rfl (pc := 167) (by decide +kernel) ?_
  rw [show (fp 11 7 0).2.2 = 67 from rfl, cx.2.2.2.2.2.2.2.2.1 67 (by omega)]
  refine n_alen (k := 67) (N := 16) cx sx (by decide) (show WF[67]? = some (24, 16, 67) from rfl) (pc := 170) (by decide +kernel) ?_
  refine lv_icmp_ge cx.1.1 cx.1.2.1 (x := Int32.ofNat 2) (y := Int32.ofNat 16) (off := 26) (tgt := 197) (pc := 171) (by decide +kernel) (by decide) (fun hno => absurd hno (by decide)) (fun _ => ?_)
  refine n_ald cx hl (i := 0) (k3 := 0) (t := 11) (k := 0) (pc := 174) rfl rfl (by omega) (by decide +kernel) ?_
  refine n_get (t := 11) (k := 0) (j := 7) (index := 54) cx sx (by omega) (by decide) (show WF[0]? = some (11, 0, 0) from rfl) (by decide) rfl (hqZ26.get (by decide)) (in_t3 (List.mem_of_getElem? (i := 31) rfl) rfl) rfl (pc := 175) (by decide +kernel) ?_
  rw [show (fp 11 7 0).2.2 = 67 from rfl, cx.2.2.2.2.2.2.2.2.1 67 (by omega)]
  refine n_ild (i := 1) (k3 := 1) (v := Int32.ofNat 2) cx hl rfl rfl (pc := 178) (by decide +kernel) ?_
  refine n_new (t := 6) (n := 127) (index := 45) cx sx (hqZ26.fz (hmM9.le (by decide))) (by decide) (show WF[127]? = some (6, 0, 127) from rfl) (in_t2 (List.mem_of_getElem? (i := 71) rfl) rfl) (in_t2 (List.mem_of_getElem? (i := 72) rfl) rfl) (in_t1 (List.mem_of_getElem? (i := 10) rfl) rfl) (Nat.le_of_ble_eq_true rfl) (Nat.le_of_ble_eq_true rfl) (pc := 179) (by decide +kernel) (fun H1 sx => ?_)
  refine lv_dup cx.1.1 cx.1.2.1 (pc := 182) (by decide +kernel) rfl ?_
  refine n_ald cx hl (i := 0) (k3 := 0) (t := 11) (k := 0) (pc := 183) rfl rfl (by omega) (by decide +kernel) ?_
  refine n_get (t := 11) (k := 0) (j := 1) (index := 19) cx sx (by omega) (by decide) (show WF[0]? = some (11, 0, 0) from rfl) (by decide) rfl (hqZ26.get (by decide)) (in_t3 (List.mem_of_getElem? (i := 25) rfl) rfl) rfl (pc := 184) (by decide +kernel) ?_
  rw [show (fp 11 1 0).2.2 = 3 from rfl, cx.2.2.2.2.2.2.2.2.1 3 (by omega)]
  refine n_initS (t := 6) (k := 127) (index := 47) (as := [vR 9 0 3]) (rest := [.ref (B + 127), .int (Int32.ofNat 2), .ref (B + 67)]) (ρ := ρ) (by rw [← cx.2.2.2.2.2.2.2.2.1 3 (by omega)]; rfl) cc13 cx sx (by omega) hls (in_t2 (List.mem_of_getElem? (i := 75) rfl) rfl) (in_t1 (List.mem_of_getElem? (i := 10) rfl) rfl) (.inl (in_t2 (List.mem_of_getElem? (i := 73) rfl) rfl)) (in_t2 (List.mem_of_getElem? (i := 74) rfl) rfl) rfl ⟨by decide, by decide, rfl⟩ ⟨Nat.le_of_ble_eq_true rfl, Nat.le_of_ble_eq_true rfl⟩ ⟨Nat.le_of_ble_eq_true rfl, Nat.le_of_ble_eq_true rfl⟩ (Nat.le_of_ble_eq_true rfl) (pc := 187) (by decide +kernel) (fun H1 locs1 sx => ?_)
  refine n_astq (k := 67) (N := 16) (i := 2) (kv := 127) rfl (by decide) (by decide) cx sx (by decide) (show WF[67]? = some (24, 16, 67) from rfl) (by decide) (show WF[127]? = some (6, 0, 127) from rfl) (pc := 190) (by decide +kernel) (fun H1 locs1 sx => ?_)
  rw [← eZ28, ← eM11] at sx
  refine n_iinc (i := 1) (z := 1) (v := Int32.ofNat 2) (v' := Int32.ofNat 3) cx hl rfl (by decide) (by decide) (pc := 191) (by decide +kernel) (fun ls hl => ?_)
  have hls : ls.size = 2 := by obtain ⟨l0, h0, -⟩ := hl; exact h0.1
  refine lv_goto cx.1.1 cx.1.2.1 (off := -29) (tgt := 165) (pc := 194) (by decide +kernel) (by decide) ?_
  refine n_ild (i := 1) (k3 := 1) (v := Int32.ofNat 3) cx hl rfl rfl (pc := 165) (by decide +kernel) ?_
  refine n_ald cx hl (i := 0) (k3 := 0) (t := 11) (k := 0) (pc := 166) rfl rfl (by omega) (by decide +kernel) ?_
  refine n_get (t := 11) (k := 0) (j := 7) (index := 54) cx sx (by omega) (by decide) (show WF[0]? = some (11, 0, 0) from rfl) (by decide) rfl (hqZ28.get (by decide)) (in_t3 (List.mem_of_getElem? (i := 31) rfl) rfl) rfl (pc := 167) (by decide +kernel) ?_
  rw [show (fp 11 7 0).2.2 = 67 from rfl, cx.2.2.2.2.2.2.2.2.1 67 (by omega)]
  refine n_alen (k := 67) (N := 16) cx sx (by decide) (show WF[67]? = some (24, 16, 67) from rfl) (pc := 170) (by decide +kernel) ?_
  refine lv_icmp_ge cx.1.1 cx.1.2.1 (x := Int32.ofNat 3) (y := Int32.ofNat 16) (off := 26) (tgt := 197) (pc := 171) (by decide +kernel) (by decide) (fun hno => absurd hno (by decide)) (fun _ => ?_)
  refine n_ald cx hl (i := 0) (k3 := 0) (t := 11) (k := 0) (pc := 174) rfl rfl (by omega) (by decide +kernel) ?_
  refine n_get (t := 11) (k := 0) (j := 7) (index := 54) cx sx (by omega) (by decide) (show WF[0]? = some (11, 0, 0) from rfl) (by decide) rfl (hqZ28.get (by decide)) (in_t3 (List.mem_of_getElem? (i := 31) rfl) rfl) rfl (pc := 175) (by decide +kernel) ?_
  rw [show (fp 11 7 0).2.2 = 67 from rfl, cx.2.2.2.2.2.2.2.2.1 67 (by omega)]
  refine n_ild (i := 1) (k3 := 1) (v := Int32.ofNat 3) cx hl rfl rfl (pc := 178) (by decide +kernel) ?_
  refine n_new (t := 6) (n := 134) (index := 45) cx sx (hqZ28.fz (hmM11.le (by decide))) (by decide) (show WF[134]? = some (6, 0, 134) from rfl) (in_t2 (List.mem_of_getElem? (i := 71) rfl) rfl) (in_t2 (List.mem_of_getElem? (i := 72) rfl) rfl) (in_t1 (List.mem_of_getElem? (i := 10) rfl) rfl) (Nat.le_of_ble_eq_true rfl) (Nat.le_of_ble_eq_true rfl) (pc := 179) (by decide +kernel) (fun H1 sx => ?_)
  refine lv_dup cx.1.1 cx.1.2.1 (pc := 182) (by decide +kernel) rfl ?_
  refine n_ald cx hl (i := 0) (k3 := 0) (t := 11) (k := 0) (pc := 183) rfl rfl (by omega) (by decide +kernel) ?_
  refine n_get (t := 11) (k := 0) (j := 1) (index := 19) cx sx (by omega) (by decide) (show WF[0]? = some (11, 0, 0) from rfl) (by decide) rfl (hqZ28.get (by decide)) (in_t3 (List.mem_of_getElem? (i := 25) rfl) rfl) rfl (pc := 184) (by decide +kernel) ?_
  rw [show (fp 11 1 0).2.2 = 3 from rfl, cx.2.2.2.2.2.2.2.2.1 3 (by omega)]
  refine n_initS (t := 6) (k := 134) (index := 47) (as := [vR 9 0 3]) (rest := [.ref (B + 134), .int (Int32.ofNat 3), .ref (B + 67)]) (ρ := ρ) (by rw [← cx.2.2.2.2.2.2.2.2.1 3 (by omega)]; rfl) cc14 cx sx (by omega) hls (in_t2 (List.mem_of_getElem? (i := 75) rfl) rfl) (in_t1 (List.mem_of_getElem? (i := 10) rfl) rfl) (.inl (in_t2 (List.mem_of_getElem? (i := 73) rfl) rfl)) (in_t2 (List.mem_of_getElem? (i := 74) rfl) rfl) rfl ⟨by decide, by decide, rfl⟩ ⟨Nat.le_of_ble_eq_true rfl, Nat.le_of_ble_eq_true rfl⟩ ⟨Nat.le_of_ble_eq_true rfl, Nat.le_of_ble_eq_true rfl⟩ (Nat.le_of_ble_eq_true rfl) (pc := 187) (by decide +kernel) (fun H1 locs1 sx => ?_)
  refine n_astq (k := 67) (N := 16) (i := 3) (kv := 134) rfl (by decide) (by decide) cx sx (by decide) (show WF[67]? = some (24, 16, 67) from rfl) (by decide) (show WF[134]? = some (6, 0, 134) from rfl) (pc := 190) (by decide +kernel) (fun H1 locs1 sx => ?_)
  rw [← eZ30, ← eM13] at sx
  refine n_iinc (i := 1) (z := 1) (v := Int32.ofNat 3) (v' := Int32.ofNat 4) cx hl rfl (by decide) (by decide) (pc := 191) (by decide +kernel) (fun ls hl => ?_)
  have hls : ls.size = 2 := by obtain ⟨l0, h0, -⟩ := hl; exact h0.1
  refine lv_goto cx.1.1 cx.1.2.1 (off := -29) (tgt := 165) (pc := 194) (by decide +kernel) (by decide) ?_
  refine n_ild (i := 1) (k3 := 1) (v := Int32.ofNat 4) cx hl rfl rfl (pc := 165) (by decide +kernel) ?_
  refine n_ald cx hl (i := 0) (k3 := 0) (t := 11) (k := 0) (pc := 166) rfl rfl (by omega) (by decide +kernel) ?_
  refine n_get (t := 11) (k := 0) (j := 7) (index := 54) cx sx (by omega) (by decide) (show WF[0]? = some (11, 0, 0) from rfl) (by decide) rfl (hqZ30.get (by decide)) (in_t3 (List.mem_of_getElem? (i := 31) rfl) rfl) rfl (pc := 167) (by decide +kernel) ?_
  rw [show (fp 11 7 0).2.2 = 67 from rfl, cx.2.2.2.2.2.2.2.2.1 67 (by omega)]
  refine n_alen (k := 67) (N := 16) cx sx (by decide) (show WF[67]? = some (24, 16, 67) from rfl) (pc := 170) (by decide +kernel) ?_
  refine lv_icmp_ge cx.1.1 cx.1.2.1 (x := Int32.ofNat 4) (y := Int32.ofNat 16) (off := 26) (tgt := 197) (pc := 171) (by decide +kernel) (by decide) (fun hno => absurd hno (by decide)) (fun _ => ?_)
  refine n_ald cx hl (i := 0) (k3 := 0) (t := 11) (k := 0) (pc := 174) rfl rfl (by omega) (by decide +kernel) ?_
  refine n_get (t := 11) (k := 0) (j := 7) (index := 54) cx sx (by omega) (by decide) (show WF[0]? = some (11, 0, 0) from rfl) (by decide) rfl (hqZ30.get (by decide)) (in_t3 (List.mem_of_getElem? (i := 31) rfl) rfl) rfl (pc := 175) (by decide +kernel) ?_
  rw [show (fp 11 7 0).2.2 = 67 from rfl, cx.2.2.2.2.2.2.2.2.1 67 (by omega)]
  refine n_ild (i := 1) (k3 := 1) (v := Int32.ofNat 4) cx hl rfl rfl (pc := 178) (by decide +kernel) ?_
  refine n_new (t := 6) (n := 141) (index := 45) cx sx (hqZ30.fz (hmM13.le (by decide))) (by decide) (show WF[141]? = some (6, 0, 141) from rfl) (in_t2 (List.mem_of_getElem? (i := 71) rfl) rfl) (in_t2 (List.mem_of_getElem? (i := 72) rfl) rfl) (in_t1 (List.mem_of_getElem? (i := 10) rfl) rfl) (Nat.le_of_ble_eq_true rfl) (Nat.le_of_ble_eq_true rfl) (pc := 179) (by decide +kernel) (fun H1 sx => ?_)
  refine lv_dup cx.1.1 cx.1.2.1 (pc := 182) (by decide +kernel) rfl ?_
  refine n_ald cx hl (i := 0) (k3 := 0) (t := 11) (k := 0) (pc := 183) rfl rfl (by omega) (by decide +kernel) ?_
  refine n_get (t := 11) (k := 0) (j := 1) (index := 19) cx sx (by omega) (by decide) (show WF[0]? = some (11, 0, 0) from rfl) (by decide) rfl (hqZ30.get (by decide)) (in_t3 (List.mem_of_getElem? (i := 25) rfl) rfl) rfl (pc := 184) (by decide +kernel) ?_
  rw [show (fp 11 1 0).2.2 = 3 from rfl, cx.2.2.2.2.2.2.2.2.1 3 (by omega)]
  refine n_initS (t := 6) (k := 141) (index := 47) (as := [vR 9 0 3]) (rest := [.ref (B + 141), .int (Int32.ofNat 4), .ref (B + 67)]) (ρ := ρ) (by rw [← cx.2.2.2.2.2.2.2.2.1 3 (by omega)]; rfl) cc15 cx sx (by omega) hls (in_t2 (List.mem_of_getElem? (i := 75) rfl) rfl) (in_t1 (List.mem_of_getElem? (i := 10) rfl) rfl) (.inl (in_t2 (List.mem_of_getElem? (i := 73) rfl) rfl)) (in_t2 (List.mem_of_getElem? (i := 74) rfl) rfl) rfl ⟨by decide, by decide, rfl⟩ ⟨Nat.le_of_ble_eq_true rfl, Nat.le_of_ble_eq_true rfl⟩ ⟨Nat.le_of_ble_eq_true rfl, Nat.le_of_ble_eq_true rfl⟩ (Nat.le_of_ble_eq_true rfl) (pc := 187) (by decide +kernel) (fun H1 locs1 sx => ?_)
  refine n_astq (k := 67) (N := 16) (i := 4) (kv := 141) rfl (by decide) (by decide) cx sx (by decide) (show WF[67]? = some (24, 16, 67) from rfl) (by decide) (show WF[141]? = some (6, 0, 141) from rfl) (pc := 190) (by decide +kernel) (fun H1 locs1 sx => ?_)
  rw [← eZ32, ← eM15] at sx
  refine n_iinc (i := 1) (z := 1) (v := Int32.ofNat 4) (v' := Int32.ofNat 5) cx hl rfl (by decide) (by decide) (pc := 191) (by decide +kernel) (fun ls hl => ?_)
  have hls : ls.size = 2 := by obtain ⟨l0, h0, -⟩ := hl; exact h0.1
  refine lv_goto cx.1.1 cx.1.2.1 (off := -29) (tgt := 165) (pc := 194) (by decide +kernel) (by decide) ?_
  refine n_ild (i := 1) (k3 := 1) (v := Int32.ofNat 5) cx hl rfl rfl (pc := 165) (by decide +kernel) ?_
  refine n_ald cx hl (i := 0) (k3 := 0) (t := 11) (k := 0) (pc := 166) rfl rfl (by omega) (by decide +kernel) ?_
  refine n_get (t := 11) (k := 0) (j := 7) (index := 54) cx sx (by omega) (by decide) (show WF[0]? = some (11, 0, 0) from rfl) (by decide) rfl (hqZ32.get (by decide)) (in_t3 (List.mem_of_getElem? (i := 31) rfl) rfl) rfl (pc := 167) (by decide +kernel) ?_
  rw [show (fp 11 7 0).2.2 = 67 from rfl, cx.2.2.2.2.2.2.2.2.1 67 (by omega)]
  refine n_alen (k := 67) (N := 16) cx sx (by decide) (show WF[67]? = some (24, 16, 67) from rfl) (pc := 170) (by decide +kernel) ?_
  refine lv_icmp_ge cx.1.1 cx.1.2.1 (x := Int32.ofNat 5) (y := Int32.ofNat 16) (off := 26) (tgt := 197) (pc := 171) (by decide +kernel) (by decide) (fun hno => absurd hno (by decide)) (fun _ => ?_)
  refine n_ald cx hl (i := 0) (k3 := 0) (t := 11) (k := 0) (pc := 174) rfl rfl (by omega) (by decide +kernel) ?_
  refine n_get (t := 11) (k := 0) (j := 7) (index := 54) cx sx (by omega) (by decide) (show WF[0]? = some (11, 0, 0) from rfl) (by decide) rfl (hqZ32.get (by decide)) (in_t3 (List.mem_of_getElem? (i := 31) rfl) rfl) rfl (pc := 175) (by decide +kernel) ?_
  rw [show (fp 11 7 0).2.2 = 67 from rfl, cx.2.2.2.2.2.2.2.2.1 67 (by omega)]
  refine n_ild (i := 1) (k3 := 1) (v := Int32.ofNat 5) cx hl rfl rfl (pc := 178) (by decide +kernel) ?_
  refine n_new (t := 6) (n := 148) (index := 45) cx sx (hqZ32.fz (hmM15.le (by decide))) (by decide) (show WF[148]? = some (6, 0, 148) from rfl) (in_t2 (List.mem_of_getElem? (i := 71) rfl) rfl) (in_t2 (List.mem_of_getElem? (i := 72) rfl) rfl) (in_t1 (List.mem_of_getElem? (i := 10) rfl) rfl) (Nat.le_of_ble_eq_true rfl) (Nat.le_of_ble_eq_true rfl) (pc := 179) (by decide +kernel) (fun H1 sx => ?_)
  refine lv_dup cx.1.1 cx.1.2.1 (pc := 182) (by decide +kernel) rfl ?_
  refine n_ald cx hl (i := 0) (k3 := 0) (t := 11) (k := 0) (pc := 183) rfl rfl (by omega) (by decide +kernel) ?_
  refine n_get (t := 11) (k := 0) (j := 1) (index := 19) cx sx (by omega) (by decide) (show WF[0]? = some (11, 0, 0) from rfl) (by decide) rfl (hqZ32.get (by decide)) (in_t3 (List.mem_of_getElem? (i := 25) rfl) rfl) rfl (pc := 184) (by decide +kernel) ?_
  rw [show (fp 11 1 0).2.2 = 3 from rfl, cx.2.2.2.2.2.2.2.2.1 3 (by omega)]
  refine n_initS (t := 6) (k := 148) (index := 47) (as := [vR 9 0 3]) (rest := [.ref (B + 148), .int (Int32.ofNat 5), .ref (B + 67)]) (ρ := ρ) (by rw [← cx.2.2.2.2.2.2.2.2.1 3 (by omega)]; rfl) cc16 cx sx (by omega) hls (in_t2 (List.mem_of_getElem? (i := 75) rfl) rfl) (in_t1 (List.mem_of_getElem? (i := 10) rfl) rfl) (.inl (in_t2 (List.mem_of_getElem? (i := 73) rfl) rfl)) (in_t2 (List.mem_of_getElem? (i := 74) rfl) rfl) rfl ⟨by decide, by decide, rfl⟩ ⟨Nat.le_of_ble_eq_true rfl, Nat.le_of_ble_eq_true rfl⟩ ⟨Nat.le_of_ble_eq_true rfl, Nat.le_of_ble_eq_true rfl⟩ (Nat.le_of_ble_eq_true rfl) (pc := 187) (by decide +kernel) (fun H1 locs1 sx => ?_)
  refine n_astq (k := 67) (N := 16) (i := 5) (kv := 148) rfl (by decide) (by decide) cx sx (by decide) (show WF[67]? = some (24, 16, 67) from rfl) (by decide) (show WF[148]? = some (6, 0, 148) from rfl) (pc := 190) (by decide +kernel) (fun H1 locs1 sx => ?_)
  rw [← eZ34, ← eM17] at sx
  refine n_iinc (i := 1) (z := 1) (v := Int32.ofNat 5) (v' := Int32.ofNat 6) cx hl rfl (by decide) (by decide) (pc := 191) (by decide +kernel) (fun ls hl => ?_)
  have hls : ls.size = 2 := by obtain ⟨l0, h0, -⟩ := hl; exact h0.1
  refine lv_goto cx.1.1 cx.1.2.1 (off := -29) (tgt := 165) (pc := 194) (by decide +kernel) (by decide) ?_
  refine n_ild (i := 1) (k3 := 1) (v := Int32.ofNat 6) cx hl rfl rfl (pc := 165) (by decide +kernel) ?_
  refine n_ald cx hl (i := 0) (k3 := 0) (t := 11) (k := 0) (pc := 166) rfl rfl (by omega) (by decide +kernel) ?_
  refine n_get (t := 11) (k := 0) (j := 7) (index := 54) cx sx (by omega) (by decide) (show WF[0]? = some (11, 0, 0) from rfl) (by decide) rfl (hqZ34.get (by decide)) (in_t3 (List.mem_of_getElem? (i := 31) rfl) rfl) rfl (pc := 167) (by decide +kernel) ?_
  rw [show (fp 11 7 0).2.2 = 67 from rfl, cx.2.2.2.2.2.2.2.2.1 67 (by omega)]
  refine n_alen (k := 67) (N := 16) cx sx (by decide) (show WF[67]? = some (24, 16, 67) from rfl) (pc := 170) (by decide +kernel) ?_
  refine lv_icmp_ge cx.1.1 cx.1.2.1 (x := Int32.ofNat 6) (y := Int32.ofNat 16) (off := 26) (tgt := 197) (pc := 171) (by decide +kernel) (by decide) (fun hno => absurd hno (by decide)) (fun _ => ?_)
  refine n_ald cx hl (i := 0) (k3 := 0) (t := 11) (k := 0) (pc := 174) rfl rfl (by omega) (by decide +kernel) ?_
  refine n_get (t := 11) (k := 0) (j := 7) (index := 54) cx sx (by omega) (by decide) (show WF[0]? = some (11, 0, 0) from rfl) (by decide) rfl (hqZ34.get (by decide)) (in_t3 (List.mem_of_getElem? (i := 31) rfl) rfl) rfl (pc := 175) (by decide +kernel) ?_
  rw [show (fp 11 7 0).2.2 = 67 from rfl, cx.2.2.2.2.2.2.2.2.1 67 (by omega)]
  refine n_ild (i := 1) (k3 := 1) (v := Int32.ofNat 6) cx hl rfl rfl (pc := 178) (by decide +kernel) ?_
  refine n_new (t := 6) (n := 155) (index := 45) cx sx (hqZ34.fz (hmM17.le (by decide))) (by decide) (show WF[155]? = some (6, 0, 155) from rfl) (in_t2 (List.mem_of_getElem? (i := 71) rfl) rfl) (in_t2 (List.mem_of_getElem? (i := 72) rfl) rfl) (in_t1 (List.mem_of_getElem? (i := 10) rfl) rfl) (Nat.le_of_ble_eq_true rfl) (Nat.le_of_ble_eq_true rfl) (pc := 179) (by decide +kernel) (fun H1 sx => ?_)
  refine lv_dup cx.1.1 cx.1.2.1 (pc := 182) (by decide +kernel) rfl ?_
  refine n_ald cx hl (i := 0) (k3 := 0) (t := 11) (k := 0) (pc := 183) rfl rfl (by omega) (by decide +kernel) ?_
  refine n_get (t := 11) (k := 0) (j := 1) (index := 19) cx sx (by omega) (by decide) (show WF[0]? = some (11, 0, 0) from rfl) (by decide) rfl (hqZ34.get (by decide)) (in_t3 (List.mem_of_getElem? (i := 25) rfl) rfl) rfl (pc := 184) (by decide +kernel) ?_
  rw [show (fp 11 1 0).2.2 = 3 from rfl, cx.2.2.2.2.2.2.2.2.1 3 (by omega)]
  refine n_initS (t := 6) (k := 155) (index := 47) (as := [vR 9 0 3]) (rest := [.ref (B + 155), .int (Int32.ofNat 6), .ref (B + 67)]) (ρ := ρ) (by rw [← cx.2.2.2.2.2.2.2.2.1 3 (by omega)]; rfl) cc17 cx sx (by omega) hls (in_t2 (List.mem_of_getElem? (i := 75) rfl) rfl) (in_t1 (List.mem_of_getElem? (i := 10) rfl) rfl) (.inl (in_t2 (List.mem_of_getElem? (i := 73) rfl) rfl)) (in_t2 (List.mem_of_getElem? (i := 74) rfl) rfl) rfl ⟨by decide, by decide, rfl⟩ ⟨Nat.le_of_ble_eq_true rfl, Nat.le_of_ble_eq_true rfl⟩ ⟨Nat.le_of_ble_eq_true rfl, Nat.le_of_ble_eq_true rfl⟩ (Nat.le_of_ble_eq_true rfl) (pc := 187) (by decide +kernel) (fun H1 locs1 sx => ?_)
  refine n_astq (k := 67) (N := 16) (i := 6) (kv := 155) rfl (by decide) (by decide) cx sx (by decide) (show WF[67]? = some (24, 16, 67) from rfl) (by decide) (show WF[155]? = some (6, 0, 155) from rfl) (pc := 190) (by decide +kernel) (fun H1 locs1 sx => ?_)
  rw [← eZ36, ← eM19] at sx
  refine n_iinc (i := 1) (z := 1) (v := Int32.ofNat 6) (v' := Int32.ofNat 7) cx hl rfl (by decide) (by decide) (pc := 191) (by decide +kernel) (fun ls hl => ?_)
  have hls : ls.size = 2 := by obtain ⟨l0, h0, -⟩ := hl; exact h0.1
  refine lv_goto cx.1.1 cx.1.2.1 (off := -29) (tgt := 165) (pc := 194) (by decide +kernel) (by decide) ?_
  refine n_ild (i := 1) (k3 := 1) (v := Int32.ofNat 7) cx hl rfl rfl (pc := 165) (by decide +kernel) ?_
  refine n_ald cx hl (i := 0) (k3 := 0) (t := 11) (k := 0) (pc := 166) rfl rfl (by omega) (by decide +kernel) ?_
  refine n_get (t := 11) (k := 0) (j := 7) (index := 54) cx sx (by omega) (by decide) (show WF[0]? = some (11, 0, 0) from rfl) (by decide) rfl (hqZ36.get (by decide)) (in_t3 (List.mem_of_getElem? (i := 31) rfl) rfl) rfl (pc := 167) (by decide +kernel) ?_
  rw [show (fp 11 7 0).2.2 = 67 from rfl, cx.2.2.2.2.2.2.2.2.1 67 (by omega)]
  refine n_alen (k := 67) (N := 16) cx sx (by decide) (show WF[67]? = some (24, 16, 67) from rfl) (pc := 170) (by decide +kernel) ?_
  refine lv_icmp_ge cx.1.1 cx.1.2.1 (x := Int32.ofNat 7) (y := Int32.ofNat 16) (off := 26) (tgt := 197) (pc := 171) (by decide +kernel) (by decide) (fun hno => absurd hno (by decide)) (fun _ => ?_)
  refine n_ald cx hl (i := 0) (k3 := 0) (t := 11) (k := 0) (pc := 174) rfl rfl (by omega) (by decide +kernel) ?_
  refine n_get (t := 11) (k := 0) (j := 7) (index := 54) cx sx (by omega) (by decide) (show WF[0]? = some (11, 0, 0) from rfl) (by decide) rfl (hqZ36.get (by decide)) (in_t3 (List.mem_of_getElem? (i := 31) rfl) rfl) rfl (pc := 175) (by decide +kernel) ?_
  rw [show (fp 11 7 0).2.2 = 67 from rfl, cx.2.2.2.2.2.2.2.2.1 67 (by omega)]
  refine n_ild (i := 1) (k3 := 1) (v := Int32.ofNat 7) cx hl rfl rfl (pc := 178) (by decide +kernel) ?_
  refine n_new (t := 6) (n := 162) (index := 45) cx sx (hqZ36.fz (hmM19.le (by decide))) (by decide) (show WF[162]? = some (6, 0, 162) from rfl) (in_t2 (List.mem_of_getElem? (i := 71) rfl) rfl) (in_t2 (List.mem_of_getElem? (i := 72) rfl) rfl) (in_t1 (List.mem_of_getElem? (i := 10) rfl) rfl) (Nat.le_of_ble_eq_true rfl) (Nat.le_of_ble_eq_true rfl) (pc := 179) (by decide +kernel) (fun H1 sx => ?_)
  refine lv_dup cx.1.1 cx.1.2.1 (pc := 182) (by decide +kernel) rfl ?_
  refine n_ald cx hl (i := 0) (k3 := 0) (t := 11) (k := 0) (pc := 183) rfl rfl (by omega) (by decide +kernel) ?_
  refine n_get (t := 11) (k := 0) (j := 1) (index := 19) cx sx (by omega) (by decide) (show WF[0]? = some (11, 0, 0) from rfl) (by decide) rfl (hqZ36.get (by decide)) (in_t3 (List.mem_of_getElem? (i := 25) rfl) rfl) rfl (pc := 184) (by decide +kernel) ?_
  rw [show (fp 11 1 0).2.2 = 3 from rfl, cx.2.2.2.2.2.2.2.2.1 3 (by omega)]
  refine n_initS (t := 6) (k := 162) (index := 47) (as := [vR 9 0 3]) (rest := [.ref (B + 162), .int (Int32.ofNat 7), .ref (B + 67)]) (ρ := ρ) (by rw [← cx.2.2.2.2.2.2.2.2.1 3 (by omega)]; rfl) cc18 cx sx (by omega) hls (in_t2 (List.mem_of_getElem? (i := 75) rfl) rfl) (in_t1 (List.mem_of_getElem? (i := 10) rfl) rfl) (.inl (in_t2 (List.mem_of_getElem? (i := 73) rfl) rfl)) (in_t2 (List.mem_of_getElem? (i := 74) rfl) rfl) rfl ⟨by decide, by decide, rfl⟩ ⟨Nat.le_of_ble_eq_true rfl, Nat.le_of_ble_eq_true rfl⟩ ⟨Nat.le_of_ble_eq_true rfl, Nat.le_of_ble_eq_true rfl⟩ (Nat.le_of_ble_eq_true rfl) (pc := 187) (by decide +kernel) (fun H1 locs1 sx => ?_)
  refine n_astq (k := 67) (N := 16) (i := 7) (kv := 162) rfl (by decide) (by decide) cx sx (by decide) (show WF[67]? = some (24, 16, 67) from rfl) (by decide) (show WF[162]? = some (6, 0, 162) from rfl) (pc := 190) (by decide +kernel) (fun H1 locs1 sx => ?_)
  rw [← eZ38, ← eM21] at sx
  refine n_iinc (i := 1) (z := 1) (v := Int32.ofNat 7) (v' := Int32.ofNat 8) cx hl rfl (by decide) (by decide) (pc := 191) (by decide +kernel) (fun ls hl => ?_)
  have hls : ls.size = 2 := by obtain ⟨l0, h0, -⟩ := hl; exact h0.1
  refine lv_goto cx.1.1 cx.1.2.1 (off := -29) (tgt := 165) (pc := 194) (by decide +kernel) (by decide) ?_
  refine n_ild (i := 1) (k3 := 1) (v := Int32.ofNat 8) cx hl rfl rfl (pc := 165) (by decide +kernel) ?_
  refine n_ald cx hl (i := 0) (k3 := 0) (t := 11) (k := 0) (pc := 166) rfl rfl (by omega) (by decide +kernel) ?_
  refine n_get (t := 11) (k := 0) (j := 7) (index := 54) cx sx (by omega) (by decide) (show WF[0]? = some (11, 0, 0) from rfl) (by decide) rfl (hqZ38.get (by decide)) (in_t3 (List.mem_of_getElem? (i := 31) rfl) rfl) rfl (pc := 167) (by decide +kernel) ?_
  rw [show (fp 11 7 0).2.2 = 67 from rfl, cx.2.2.2.2.2.2.2.2.1 67 (by omega)]
  refine n_alen (k := 67) (N := 16) cx sx (by decide) (show WF[67]? = some (24, 16, 67) from rfl) (pc := 170) (by decide +kernel) ?_
  refine lv_icmp_ge cx.1.1 cx.1.2.1 (x := Int32.ofNat 8) (y := Int32.ofNat 16) (off := 26) (tgt := 197) (pc := 171) (by decide +kernel) (by decide) (fun hno => absurd hno (by decide)) (fun _ => ?_)
  refine n_ald cx hl (i := 0) (k3 := 0) (t := 11) (k := 0) (pc := 174) rfl rfl (by omega) (by decide +kernel) ?_
  refine n_get (t := 11) (k := 0) (j := 7) (index := 54) cx sx (by omega) (by decide) (show WF[0]? = some (11, 0, 0) from rfl) (by decide) rfl (hqZ38.get (by decide)) (in_t3 (List.mem_of_getElem? (i := 31) rfl) rfl) rfl (pc := 175) (by decide +kernel) ?_
  rw [show (fp 11 7 0).2.2 = 67 from rfl, cx.2.2.2.2.2.2.2.2.1 67 (by omega)]
  refine n_ild (i := 1) (k3 := 1) (v := Int32.ofNat 8) cx hl rfl rfl (pc := 178) (by decide +kernel) ?_
  refine n_new (t := 6) (n := 169) (index := 45) cx sx (hqZ38.fz (hmM21.le (by decide))) (by decide) (show WF[169]? = some (6, 0, 169) from rfl) (in_t2 (List.mem_of_getElem? (i := 71) rfl) rfl) (in_t2 (List.mem_of_getElem? (i := 72) rfl) rfl) (in_t1 (List.mem_of_getElem? (i := 10) rfl) rfl) (Nat.le_of_ble_eq_true rfl) (Nat.le_of_ble_eq_true rfl) (pc := 179) (by decide +kernel) (fun H1 sx => ?_)
  refine lv_dup cx.1.1 cx.1.2.1 (pc := 182) (by decide +kernel) rfl ?_
  refine n_ald cx hl (i := 0) (k3 := 0) (t := 11) (k := 0) (pc := 183) rfl rfl (by omega) (by decide +kernel) ?_
  refine n_get (t := 11) (k := 0) (j := 1) (index := 19) cx sx (by omega) (by decide) (show WF[0]? = some (11, 0, 0) from rfl) (by decide) rfl (hqZ38.get (by decide)) (in_t3 (List.mem_of_getElem? (i := 25) rfl) rfl) rfl (pc := 184) (by decide +kernel) ?_
  rw [show (fp 11 1 0).2.2 = 3 from rfl, cx.2.2.2.2.2.2.2.2.1 3 (by omega)]
  refine n_initS (t := 6) (k := 169) (index := 47) (as := [vR 9 0 3]) (rest := [.ref (B + 169), .int (Int32.ofNat 8), .ref (B + 67)]) (ρ := ρ) (by rw [← cx.2.2.2.2.2.2.2.2.1 3 (by omega)]; rfl) cc19 cx sx (by omega) hls (in_t2 (List.mem_of_getElem? (i := 75) rfl) rfl) (in_t1 (List.mem_of_getElem? (i := 10) rfl) rfl) (.inl (in_t2 (List.mem_of_getElem? (i := 73) rfl) rfl)) (in_t2 (List.mem_of_getElem? (i := 74) rfl) rfl) rfl ⟨by decide, by decide, rfl⟩ ⟨Nat.le_of_ble_eq_true rfl, Nat.le_of_ble_eq_true rfl⟩ ⟨Nat.le_of_ble_eq_true rfl, Nat.le_of_ble_eq_true rfl⟩ (Nat.le_of_ble_eq_true rfl) (pc := 187) (by decide +kernel) (fun H1 locs1 sx => ?_)
  refine n_astq (k := 67) (N := 16) (i := 8) (kv := 169) rfl (by decide) (by decide) cx sx (by decide) (show WF[67]? = some (24, 16, 67) from rfl) (by decide) (show WF[169]? = some (6, 0, 169) from rfl) (pc := 190) (by decide +kernel) (fun H1 locs1 sx => ?_)
  rw [← eZ40, ← eM23] at sx
  refine n_iinc (i := 1) (z := 1) (v := Int32.ofNat 8) (v' := Int32.ofNat 9) cx hl rfl (by decide) (by decide) (pc := 191) (by decide +kernel) (fun ls hl => ?_)
  have hls : ls.size = 2 := by obtain ⟨l0, h0, -⟩ := hl; exact h0.1
  refine lv_goto cx.1.1 cx.1.2.1 (off := -29) (tgt := 165) (pc := 194) (by decide +kernel) (by decide) ?_
  refine n_ild (i := 1) (k3 := 1) (v := Int32.ofNat 9) cx hl rfl rfl (pc := 165) (by decide +kernel) ?_
  refine n_ald cx hl (i := 0) (k3 := 0) (t := 11) (k := 0) (pc := 166) rfl rfl (by omega) (by decide +kernel) ?_
  refine n_get (t := 11) (k := 0) (j := 7) (index := 54) cx sx (by omega) (by decide) (show WF[0]? = some (11, 0, 0) from rfl) (by decide) rfl (hqZ40.get (by decide)) (in_t3 (List.mem_of_getElem? (i := 31) rfl) rfl) rfl (pc := 167) (by decide +kernel) ?_
  rw [show (fp 11 7 0).2.2 = 67 from rfl, cx.2.2.2.2.2.2.2.2.1 67 (by omega)]
  refine n_alen (k := 67) (N := 16) cx sx (by decide) (show WF[67]? = some (24, 16, 67) from rfl) (pc := 170) (by decide +kernel) ?_
  refine lv_icmp_ge cx.1.1 cx.1.2.1 (x := Int32.ofNat 9) (y := Int32.ofNat 16) (off := 26) (tgt := 197) (pc := 171) (by decide +kernel) (by decide) (fun hno => absurd hno (by decide)) (fun _ => ?_)
  refine n_ald cx hl (i := 0) (k3 := 0) (t := 11) (k := 0) (pc := 174) rfl rfl (by omega) (by decide +kernel) ?_
  refine n_get (t := 11) (k := 0) (j := 7) (index := 54) cx sx (by omega) (by decide) (show WF[0]? = some (11, 0, 0) from rfl) (by decide) rfl (hqZ40.get (by decide)) (in_t3 (List.mem_of_getElem? (i := 31) rfl) rfl) rfl (pc := 175) (by decide +kernel) ?_
  rw [show (fp 11 7 0).2.2 = 67 from rfl, cx.2.2.2.2.2.2.2.2.1 67 (by omega)]
  refine n_ild (i := 1) (k3 := 1) (v := Int32.ofNat 9) cx hl rfl rfl (pc := 178) (by decide +kernel) ?_
  refine n_new (t := 6) (n := 176) (index := 45) cx sx (hqZ40.fz (hmM23.le (by decide))) (by decide) (show WF[176]? = some (6, 0, 176) from rfl) (in_t2 (List.mem_of_getElem? (i := 71) rfl) rfl) (in_t2 (List.mem_of_getElem? (i := 72) rfl) rfl) (in_t1 (List.mem_of_getElem? (i := 10) rfl) rfl) (Nat.le_of_ble_eq_true rfl) (Nat.le_of_ble_eq_true rfl) (pc := 179) (by decide +kernel) (fun H1 sx => ?_)
  refine lv_dup cx.1.1 cx.1.2.1 (pc := 182) (by decide +kernel) rfl ?_
  refine n_ald cx hl (i := 0) (k3 := 0) (t := 11) (k := 0) (pc := 183) rfl rfl (by omega) (by decide +kernel) ?_
  refine n_get (t := 11) (k := 0) (j := 1) (index := 19) cx sx (by omega) (by decide) (show WF[0]? = some (11, 0, 0) from rfl) (by decide) rfl (hqZ40.get (by decide)) (in_t3 (List.mem_of_getElem? (i := 25) rfl) rfl) rfl (pc := 184) (by decide +kernel) ?_
  rw [show (fp 11 1 0).2.2 = 3 from rfl, cx.2.2.2.2.2.2.2.2.1 3 (by omega)]
  refine n_initS (t := 6) (k := 176) (index := 47) (as := [vR 9 0 3]) (rest := [.ref (B + 176), .int (Int32.ofNat 9), .ref (B + 67)]) (ρ := ρ) (by rw [← cx.2.2.2.2.2.2.2.2.1 3 (by omega)]; rfl) cc20 cx sx (by omega) hls (in_t2 (List.mem_of_getElem? (i := 75) rfl) rfl) (in_t1 (List.mem_of_getElem? (i := 10) rfl) rfl) (.inl (in_t2 (List.mem_of_getElem? (i := 73) rfl) rfl)) (in_t2 (List.mem_of_getElem? (i := 74) rfl) rfl) rfl ⟨by decide, by decide, rfl⟩ ⟨Nat.le_of_ble_eq_true rfl, Nat.le_of_ble_eq_true rfl⟩ ⟨Nat.le_of_ble_eq_true rfl, Nat.le_of_ble_eq_true rfl⟩ (Nat.le_of_ble_eq_true rfl) (pc := 187) (by decide +kernel) (fun H1 locs1 sx => ?_)
  refine n_astq (k := 67) (N := 16) (i := 9) (kv := 176) rfl (by decide) (by decide) cx sx (by decide) (show WF[67]? = some (24, 16, 67) from rfl) (by decide) (show WF[176]? = some (6, 0, 176) from rfl) (pc := 190) (by decide +kernel) (fun H1 locs1 sx => ?_)
  rw [← eZ42, ← eM25] at sx
  refine n_iinc (i := 1) (z := 1) (v := Int32.ofNat 9) (v' := Int32.ofNat 10) cx hl rfl (by decide) (by decide) (pc := 191) (by decide +kernel) (fun ls hl => ?_)
  have hls : ls.size = 2 := by obtain ⟨l0, h0, -⟩ := hl; exact h0.1
  refine lv_goto cx.1.1 cx.1.2.1 (off := -29) (tgt := 165) (pc := 194) (by decide +kernel) (by decide) ?_
  refine n_ild (i := 1) (k3 := 1) (v := Int32.ofNat 10) cx hl rfl rfl (pc := 165) (by decide +kernel) ?_
  refine n_ald cx hl (i := 0) (k3 := 0) (t := 11) (k := 0) (pc := 166) rfl rfl (by omega) (by decide +kernel) ?_
  refine n_get (t := 11) (k := 0) (j := 7) (index := 54) cx sx (by omega) (by decide) (show WF[0]? = some (11, 0, 0) from rfl) (by decide) rfl (hqZ42.get (by decide)) (in_t3 (List.mem_of_getElem? (i := 31) rfl) rfl) rfl (pc := 167) (by decide +kernel) ?_
  rw [show (fp 11 7 0).2.2 = 67 from rfl, cx.2.2.2.2.2.2.2.2.1 67 (by omega)]
  refine n_alen (k := 67) (N := 16) cx sx (by decide) (show WF[67]? = some (24, 16, 67) from rfl) (pc := 170) (by decide +kernel) ?_
  refine lv_icmp_ge cx.1.1 cx.1.2.1 (x := Int32.ofNat 10) (y := Int32.ofNat 16) (off := 26) (tgt := 197) (pc := 171) (by decide +kernel) (by decide) (fun hno => absurd hno (by decide)) (fun _ => ?_)
  refine n_ald cx hl (i := 0) (k3 := 0) (t := 11) (k := 0) (pc := 174) rfl rfl (by omega) (by decide +kernel) ?_
  refine n_get (t := 11) (k := 0) (j := 7) (index := 54) cx sx (by omega) (by decide) (show WF[0]? = some (11, 0, 0) from rfl) (by decide) rfl (hqZ42.get (by decide)) (in_t3 (List.mem_of_getElem? (i := 31) rfl) rfl) rfl (pc := 175) (by decide +kernel) ?_
  rw [show (fp 11 7 0).2.2 = 67 from rfl, cx.2.2.2.2.2.2.2.2.1 67 (by omega)]
  refine n_ild (i := 1) (k3 := 1) (v := Int32.ofNat 10) cx hl rfl rfl (pc := 178) (by decide +kernel) ?_
  refine n_new (t := 6) (n := 183) (index := 45) cx sx (hqZ42.fz (hmM25.le (by decide))) (by decide) (show WF[183]? = some (6, 0, 183) from rfl) (in_t2 (List.mem_of_getElem? (i := 71) rfl) rfl) (in_t2 (List.mem_of_getElem? (i := 72) rfl) rfl) (in_t1 (List.mem_of_getElem? (i := 10) rfl) rfl) (Nat.le_of_ble_eq_true rfl) (Nat.le_of_ble_eq_true rfl) (pc := 179) (by decide +kernel) (fun H1 sx => ?_)
  refine lv_dup cx.1.1 cx.1.2.1 (pc := 182) (by decide +kernel) rfl ?_
  refine n_ald cx hl (i := 0) (k3 := 0) (t := 11) (k := 0) (pc := 183) rfl rfl (by omega) (by decide +kernel) ?_
  refine n_get (t := 11) (k := 0) (j := 1) (index := 19) cx sx (by omega) (by decide) (show WF[0]? = some (11, 0, 0) from rfl) (by decide) rfl (hqZ42.get (by decide)) (in_t3 (List.mem_of_getElem? (i := 25) rfl) rfl) rfl (pc := 184) (by decide +kernel) ?_
  rw [show (fp 11 1 0).2.2 = 3 from rfl, cx.2.2.2.2.2.2.2.2.1 3 (by omega)]
  refine n_initS (t := 6) (k := 183) (index := 47) (as := [vR 9 0 3]) (rest := [.ref (B + 183), .int (Int32.ofNat 10), .ref (B + 67)]) (ρ := ρ) (by rw [← cx.2.2.2.2.2.2.2.2.1 3 (by omega)]; rfl) cc21 cx sx (by omega) hls (in_t2 (List.mem_of_getElem? (i := 75) rfl) rfl) (in_t1 (List.mem_of_getElem? (i := 10) rfl) rfl) (.inl (in_t2 (List.mem_of_getElem? (i := 73) rfl) rfl)) (in_t2 (List.mem_of_getElem? (i := 74) rfl) rfl) rfl ⟨by decide, by decide, rfl⟩ ⟨Nat.le_of_ble_eq_true rfl, Nat.le_of_ble_eq_true rfl⟩ ⟨Nat.le_of_ble_eq_true rfl, Nat.le_of_ble_eq_true rfl⟩ (Nat.le_of_ble_eq_true rfl) (pc := 187) (by decide +kernel) (fun H1 locs1 sx => ?_)
  refine n_astq (k := 67) (N := 16) (i := 10) (kv := 183) rfl (by decide) (by decide) cx sx (by decide) (show WF[67]? = some (24, 16, 67) from rfl) (by decide) (show WF[183]? = some (6, 0, 183) from rfl) (pc := 190) (by decide +kernel) (fun H1 locs1 sx => ?_)
  rw [← eZ44, ← eM27] at sx
  refine n_iinc (i := 1) (z := 1) (v := Int32.ofNat 10) (v' := Int32.ofNat 11) cx hl rfl (by decide) (by decide) (pc := 191) (by decide +kernel) (fun ls hl => ?_)
  have hls : ls.size = 2 := by obtain ⟨l0, h0, -⟩ := hl; exact h0.1
  refine lv_goto cx.1.1 cx.1.2.1 (off := -29) (tgt := 165) (pc := 194) (by decide +kernel) (by decide) ?_
  refine n_ild (i := 1) (k3 := 1) (v := Int32.ofNat 11) cx hl rfl rfl (pc := 165) (by decide +kernel) ?_
  refine n_ald cx hl (i := 0) (k3 := 0) (t := 11) (k := 0) (pc := 166) rfl rfl (by omega) (by decide +kernel) ?_
  refine n_get (t := 11) (k := 0) (j := 7) (index := 54) cx sx (by omega) (by decide) (show WF[0]? = some (11, 0, 0) from rfl) (by decide) rfl (hqZ44.get (by decide)) (in_t3 (List.mem_of_getElem? (i := 31) rfl) rfl) rfl (pc := 167) (by decide +kernel) ?_
  rw [show (fp 11 7 0).2.2 = 67 from rfl, cx.2.2.2.2.2.2.2.2.1 67 (by omega)]
  refine n_alen (k := 67) (N := 16) cx sx (by decide) (show WF[67]? = some (24, 16, 67) from rfl) (pc := 170) (by decide +kernel) ?_
  refine lv_icmp_ge cx.1.1 cx.1.2.1 (x := Int32.ofNat 11) (y := Int32.ofNat 16) (off := 26) (tgt := 197) (pc := 171) (by decide +kernel) (by decide) (fun hno => absurd hno (by decide)) (fun _ => ?_)
  refine n_ald cx hl (i := 0) (k3 := 0) (t := 11) (k := 0) (pc := 174) rfl rfl (by omega) (by decide +kernel) ?_
  refine n_get (t := 11) (k := 0) (j := 7) (index := 54) cx sx (by omega) (by decide) (show WF[0]? = some (11, 0, 0) from rfl) (by decide) rfl (hqZ44.get (by decide)) (in_t3 (List.mem_of_getElem? (i := 31) rfl) rfl) rfl (pc := 175) (by decide +kernel) ?_
  rw [show (fp 11 7 0).2.2 = 67 from rfl, cx.2.2.2.2.2.2.2.2.1 67 (by omega)]
  refine n_ild (i := 1) (k3 := 1) (v := Int32.ofNat 11) cx hl rfl rfl (pc := 178) (by decide +kernel) ?_
  refine n_new (t := 6) (n := 190) (index := 45) cx sx (hqZ44.fz (hmM27.le (by decide))) (by decide) (show WF[190]? = some (6, 0, 190) from rfl) (in_t2 (List.mem_of_getElem? (i := 71) rfl) rfl) (in_t2 (List.mem_of_getElem? (i := 72) rfl) rfl) (in_t1 (List.mem_of_getElem? (i := 10) rfl) rfl) (Nat.le_of_ble_eq_true rfl) (Nat.le_of_ble_eq_true rfl) (pc := 179) (by decide +kernel) (fun H1 sx => ?_)
  refine lv_dup cx.1.1 cx.1.2.1 (pc := 182) (by decide +kernel) rfl ?_
  refine n_ald cx hl (i := 0) (k3 := 0) (t := 11) (k := 0) (pc := 183) rfl rfl (by omega) (by decide +kernel) ?_
  refine n_get (t := 11) (k := 0) (j := 1) (index := 19) cx sx (by omega) (by decide) (show WF[0]? = some (11, 0, 0) from rfl) (by decide) rfl (hqZ44.get (by decide)) (in_t3 (List.mem_of_getElem? (i := 25) rfl) rfl) rfl (pc := 184) (by decide +kernel) ?_
  rw [show (fp 11 1 0).2.2 = 3 from rfl, cx.2.2.2.2.2.2.2.2.1 3 (by omega)]
  refine n_initS (t := 6) (k := 190) (index := 47) (as := [vR 9 0 3]) (rest := [.ref (B + 190), .int (Int32.ofNat 11), .ref (B + 67)]) (ρ := ρ) (by rw [← cx.2.2.2.2.2.2.2.2.1 3 (by omega)]; rfl) cc22 cx sx (by omega) hls (in_t2 (List.mem_of_getElem? (i := 75) rfl) rfl) (in_t1 (List.mem_of_getElem? (i := 10) rfl) rfl) (.inl (in_t2 (List.mem_of_getElem? (i := 73) rfl) rfl)) (in_t2 (List.mem_of_getElem? (i := 74) rfl) rfl) rfl ⟨by decide, by decide, rfl⟩ ⟨Nat.le_of_ble_eq_true rfl, Nat.le_of_ble_eq_true rfl⟩ ⟨Nat.le_of_ble_eq_true rfl, Nat.le_of_ble_eq_true rfl⟩ (Nat.le_of_ble_eq_true rfl) (pc := 187) (by decide +kernel) (fun H1 locs1 sx => ?_)
  refine n_astq (k := 67) (N := 16) (i := 11) (kv := 190) rfl (by decide) (by decide) cx sx (by decide) (show WF[67]? = some (24, 16, 67) from rfl) (by decide) (show WF[190]? = some (6, 0, 190) from rfl) (pc := 190) (by decide +kernel) (fun H1 locs1 sx => ?_)
  rw [← eZ46, ← eM29] at sx
  refine n_iinc (i := 1) (z := 1) (v := Int32.ofNat 11) (v' := Int32.ofNat 12) cx hl rfl (by decide) (by decide) (pc := 191) (by decide +kernel) (fun ls hl => ?_)
  have hls : ls.size = 2 := by obtain ⟨l0, h0, -⟩ := hl; exact h0.1
  refine lv_goto cx.1.1 cx.1.2.1 (off := -29) (tgt := 165) (pc := 194) (by decide +kernel) (by decide) ?_
  refine n_ild (i := 1) (k3 := 1) (v := Int32.ofNat 12) cx hl rfl rfl (pc := 165) (by decide +kernel) ?_
  refine n_ald cx hl (i := 0) (k3 := 0) (t := 11) (k := 0) (pc := 166) rfl rfl (by omega) (by decide +kernel) ?_
  refine n_get (t := 11) (k := 0) (j := 7) (index := 54) cx sx (by omega) (by decide) (show WF[0]? = some (11, 0, 0) from rfl) (by decide) rfl (hqZ46.get (by decide)) (in_t3 (List.mem_of_getElem? (i := 31) rfl) rfl) rfl (pc := 167) (by decide +kernel) ?_
  rw [show (fp 11 7 0).2.2 = 67 from rfl, cx.2.2.2.2.2.2.2.2.1 67 (by omega)]
  refine n_alen (k := 67) (N := 16) cx sx (by decide) (show WF[67]? = some (24, 16, 67) from rfl) (pc := 170) (by decide +kernel) ?_
  refine lv_icmp_ge cx.1.1 cx.1.2.1 (x := Int32.ofNat 12) (y := Int32.ofNat 16) (off := 26) (tgt := 197) (pc := 171) (by decide +kernel) (by decide) (fun hno => absurd hno (by decide)) (fun _ => ?_)
  refine n_ald cx hl (i := 0) (k3 := 0) (t := 11) (k := 0) (pc := 174) rfl rfl (by omega) (by decide +kernel) ?_
  refine n_get (t := 11) (k := 0) (j := 7) (index := 54) cx sx (by omega) (by decide) (show WF[0]? = some (11, 0, 0) from rfl) (by decide) rfl (hqZ46.get (by decide)) (in_t3 (List.mem_of_getElem? (i := 31) rfl) rfl) rfl (pc := 175) (by decide +kernel) ?_
  rw [show (fp 11 7 0).2.2 = 67 from rfl, cx.2.2.2.2.2.2.2.2.1 67 (by omega)]
  refine n_ild (i := 1) (k3 := 1) (v := Int32.ofNat 12) cx hl rfl rfl (pc := 178) (by decide +kernel) ?_
  refine n_new (t := 6) (n := 197) (index := 45) cx sx (hqZ46.fz (hmM29.le (by decide))) (by decide) (show WF[197]? = some (6, 0, 197) from rfl) (in_t2 (List.mem_of_getElem? (i := 71) rfl) rfl) (in_t2 (List.mem_of_getElem? (i := 72) rfl) rfl) (in_t1 (List.mem_of_getElem? (i := 10) rfl) rfl) (Nat.le_of_ble_eq_true rfl) (Nat.le_of_ble_eq_true rfl) (pc := 179) (by decide +kernel) (fun H1 sx => ?_)
  refine lv_dup cx.1.1 cx.1.2.1 (pc := 182) (by decide +kernel) rfl ?_
  refine n_ald cx hl (i := 0) (k3 := 0) (t := 11) (k := 0) (pc := 183) rfl rfl (by omega) (by decide +kernel) ?_
  refine n_get (t := 11) (k := 0) (j := 1) (index := 19) cx sx (by omega) (by decide) (show WF[0]? = some (11, 0, 0) from rfl) (by decide) rfl (hqZ46.get (by decide)) (in_t3 (List.mem_of_getElem? (i := 25) rfl) rfl) rfl (pc := 184) (by decide +kernel) ?_
  rw [show (fp 11 1 0).2.2 = 3 from rfl, cx.2.2.2.2.2.2.2.2.1 3 (by omega)]
  refine n_initS (t := 6) (k := 197) (index := 47) (as := [vR 9 0 3]) (rest := [.ref (B + 197), .int (Int32.ofNat 12), .ref (B + 67)]) (ρ := ρ) (by rw [← cx.2.2.2.2.2.2.2.2.1 3 (by omega)]; rfl) cc23 cx sx (by omega) hls (in_t2 (List.mem_of_getElem? (i := 75) rfl) rfl) (in_t1 (List.mem_of_getElem? (i := 10) rfl) rfl) (.inl (in_t2 (List.mem_of_getElem? (i := 73) rfl) rfl)) (in_t2 (List.mem_of_getElem? (i := 74) rfl) rfl) rfl ⟨by decide, by decide, rfl⟩ ⟨Nat.le_of_ble_eq_true rfl, Nat.le_of_ble_eq_true rfl⟩ ⟨Nat.le_of_ble_eq_true rfl, Nat.le_of_ble_eq_true rfl⟩ (Nat.le_of_ble_eq_true rfl) (pc := 187) (by decide +kernel) (fun H1 locs1 sx => ?_)
  refine n_astq (k := 67) (N := 16) (i := 12) (kv := 197) rfl (by decide) (by decide) cx sx (by decide) (show WF[67]? = some (24, 16, 67) from rfl) (by decide) (show WF[197]? = some (6, 0, 197) from rfl) (pc := 190) (by decide +kernel) (fun H1 locs1 sx => ?_)
  rw [← eZ48, ← eM31] at sx
  refine n_iinc (i := 1) (z := 1) (v := Int32.ofNat 12) (v' := Int32.ofNat 13) cx hl rfl (by decide) (by decide) (pc := 191) (by decide +kernel) (fun ls hl => ?_)
  have hls : ls.size = 2 := by obtain ⟨l0, h0, -⟩ := hl; exact h0.1
  refine lv_goto cx.1.1 cx.1.2.1 (off := -29) (tgt := 165) (pc := 194) (by decide +kernel) (by decide) ?_
  refine n_ild (i := 1) (k3 := 1) (v := Int32.ofNat 13) cx hl rfl rfl (pc := 165) (by decide +kernel) ?_
  refine n_ald cx hl (i := 0) (k3 := 0) (t := 11) (k := 0) (pc := 166) rfl rfl (by omega) (by decide +kernel) ?_
  refine n_get (t := 11) (k := 0) (j := 7) (index := 54) cx sx (by omega) (by decide) (show WF[0]? = some (11, 0, 0) from rfl) (by decide) rfl (hqZ48.get (by decide)) (in_t3 (List.mem_of_getElem? (i := 31) rfl) rfl) rfl (pc := 167) (by decide +kernel) ?_
  rw [show (fp 11 7 0).2.2 = 67 from rfl, cx.2.2.2.2.2.2.2.2.1 67 (by omega)]
  refine n_alen (k := 67) (N := 16) cx sx (by decide) (show WF[67]? = some (24, 16, 67) from rfl) (pc := 170) (by decide +kernel) ?_
  refine lv_icmp_ge cx.1.1 cx.1.2.1 (x := Int32.ofNat 13) (y := Int32.ofNat 16) (off := 26) (tgt := 197) (pc := 171) (by decide +kernel) (by decide) (fun hno => absurd hno (by decide)) (fun _ => ?_)
  refine n_ald cx hl (i := 0) (k3 := 0) (t := 11) (k := 0) (pc := 174) rfl rfl (by omega) (by decide +kernel) ?_
  refine n_get (t := 11) (k := 0) (j := 7) (index := 54) cx sx (by omega) (by decide) (show WF[0]? = some (11, 0, 0) from rfl) (by decide) rfl (hqZ48.get (by decide)) (in_t3 (List.mem_of_getElem? (i := 31) rfl) rfl) rfl (pc := 175) (by decide +kernel) ?_
  rw [show (fp 11 7 0).2.2 = 67 from rfl, cx.2.2.2.2.2.2.2.2.1 67 (by omega)]
  refine n_ild (i := 1) (k3 := 1) (v := Int32.ofNat 13) cx hl rfl rfl (pc := 178) (by decide +kernel) ?_
  refine n_new (t := 6) (n := 204) (index := 45) cx sx (hqZ48.fz (hmM31.le (by decide))) (by decide) (show WF[204]? = some (6, 0, 204) from rfl) (in_t2 (List.mem_of_getElem? (i := 71) rfl) rfl) (in_t2 (List.mem_of_getElem? (i := 72) rfl) rfl) (in_t1 (List.mem_of_getElem? (i := 10) rfl) rfl) (Nat.le_of_ble_eq_true rfl) (Nat.le_of_ble_eq_true rfl) (pc := 179) (by decide +kernel) (fun H1 sx => ?_)
  refine lv_dup cx.1.1 cx.1.2.1 (pc := 182) (by decide +kernel) rfl ?_
  refine n_ald cx hl (i := 0) (k3 := 0) (t := 11) (k := 0) (pc := 183) rfl rfl (by omega) (by decide +kernel) ?_
  refine n_get (t := 11) (k := 0) (j := 1) (index := 19) cx sx (by omega) (by decide) (show WF[0]? = some (11, 0, 0) from rfl) (by decide) rfl (hqZ48.get (by decide)) (in_t3 (List.mem_of_getElem? (i := 25) rfl) rfl) rfl (pc := 184) (by decide +kernel) ?_
  rw [show (fp 11 1 0).2.2 = 3 from rfl, cx.2.2.2.2.2.2.2.2.1 3 (by omega)]
  refine n_initS (t := 6) (k := 204) (index := 47) (as := [vR 9 0 3]) (rest := [.ref (B + 204), .int (Int32.ofNat 13), .ref (B + 67)]) (ρ := ρ) (by rw [← cx.2.2.2.2.2.2.2.2.1 3 (by omega)]; rfl) cc24 cx sx (by omega) hls (in_t2 (List.mem_of_getElem? (i := 75) rfl) rfl) (in_t1 (List.mem_of_getElem? (i := 10) rfl) rfl) (.inl (in_t2 (List.mem_of_getElem? (i := 73) rfl) rfl)) (in_t2 (List.mem_of_getElem? (i := 74) rfl) rfl) rfl ⟨by decide, by decide, rfl⟩ ⟨Nat.le_of_ble_eq_true rfl, Nat.le_of_ble_eq_true rfl⟩ ⟨Nat.le_of_ble_eq_true rfl, Nat.le_of_ble_eq_true rfl⟩ (Nat.le_of_ble_eq_true rfl) (pc := 187) (by decide +kernel) (fun H1 locs1 sx => ?_)
  refine n_astq (k := 67) (N := 16) (i := 13) (kv := 204) rfl (by decide) (by decide) cx sx (by decide) (show WF[67]? = some (24, 16, 67) from rfl) (by decide) (show WF[204]? = some (6, 0, 204) from rfl) (pc := 190) (by decide +kernel) (fun H1 locs1 sx => ?_)
  rw [← eZ50, ← eM33] at sx
  refine n_iinc (i := 1) (z := 1) (v := Int32.ofNat 13) (v' := Int32.ofNat 14) cx hl rfl (by decide) (by decide) (pc := 191) (by decide +kernel) (fun ls hl => ?_)
  have hls : ls.size = 2 := by obtain ⟨l0, h0, -⟩ := hl; exact h0.1
  refine lv_goto cx.1.1 cx.1.2.1 (off := -29) (tgt := 165) (pc := 194) (by decide +kernel) (by decide) ?_
  refine n_ild (i := 1) (k3 := 1) (v := Int32.ofNat 14) cx hl rfl rfl (pc := 165) (by decide +kernel) ?_
  refine n_ald cx hl (i := 0) (k3 := 0) (t := 11) (k := 0) (pc := 166) rfl rfl (by omega) (by decide +kernel) ?_
  refine n_get (t := 11) (k := 0) (j := 7) (index := 54) cx sx (by omega) (by decide) (show WF[0]? = some (11, 0, 0) from rfl) (by decide) rfl (hqZ50.get (by decide)) (in_t3 (List.mem_of_getElem? (i := 31) rfl) rfl) rfl (pc := 167) (by decide +kernel) ?_
  rw [show (fp 11 7 0).2.2 = 67 from rfl, cx.2.2.2.2.2.2.2.2.1 67 (by omega)]
  refine n_alen (k := 67) (N := 16) cx sx (by decide) (show WF[67]? = some (24, 16, 67) from rfl) (pc := 170) (by decide +kernel) ?_
  refine lv_icmp_ge cx.1.1 cx.1.2.1 (x := Int32.ofNat 14) (y := Int32.ofNat 16) (off := 26) (tgt := 197) (pc := 171) (by decide +kernel) (by decide) (fun hno => absurd hno (by decide)) (fun _ => ?_)
  refine n_ald cx hl (i := 0) (k3 := 0) (t := 11) (k := 0) (pc := 174) rfl rfl (by omega) (by decide +kernel) ?_
  refine n_get (t := 11) (k := 0) (j := 7) (index := 54) cx sx (by omega) (by decide) (show WF[0]? = some (11, 0, 0) from rfl) (by decide) rfl (hqZ50.get (by decide)) (in_t3 (List.mem_of_getElem? (i := 31) rfl) rfl) rfl (pc := 175) (by decide +kernel) ?_
  rw [show (fp 11 7 0).2.2 = 67 from rfl, cx.2.2.2.2.2.2.2.2.1 67 (by omega)]
  refine n_ild (i := 1) (k3 := 1) (v := Int32.ofNat 14) cx hl rfl rfl (pc := 178) (by decide +kernel) ?_
  refine n_new (t := 6) (n := 211) (index := 45) cx sx (hqZ50.fz (hmM33.le (by decide))) (by decide) (show WF[211]? = some (6, 0, 211) from rfl) (in_t2 (List.mem_of_getElem? (i := 71) rfl) rfl) (in_t2 (List.mem_of_getElem? (i := 72) rfl) rfl) (in_t1 (List.mem_of_getElem? (i := 10) rfl) rfl) (Nat.le_of_ble_eq_true rfl) (Nat.le_of_ble_eq_true rfl) (pc := 179) (by decide +kernel) (fun H1 sx => ?_)
  refine lv_dup cx.1.1 cx.1.2.1 (pc := 182) (by decide +kernel) rfl ?_
  refine n_ald cx hl (i := 0) (k3 := 0) (t := 11) (k := 0) (pc := 183) rfl rfl (by omega) (by decide +kernel) ?_
  refine n_get (t := 11) (k := 0) (j := 1) (index := 19) cx sx (by omega) (by decide) (show WF[0]? = some (11, 0, 0) from rfl) (by decide) rfl (hqZ50.get (by decide)) (in_t3 (List.mem_of_getElem? (i := 25) rfl) rfl) rfl (pc := 184) (by decide +kernel) ?_
  rw [show (fp 11 1 0).2.2 = 3 from rfl, cx.2.2.2.2.2.2.2.2.1 3 (by omega)]
  refine n_initS (t := 6) (k := 211) (index := 47) (as := [vR 9 0 3]) (rest := [.ref (B + 211), .int (Int32.ofNat 14), .ref (B + 67)]) (ρ := ρ) (by rw [← cx.2.2.2.2.2.2.2.2.1 3 (by omega)]; rfl) cc25 cx sx (by omega) hls (in_t2 (List.mem_of_getElem? (i := 75) rfl) rfl) (in_t1 (List.mem_of_getElem? (i := 10) rfl) rfl) (.inl (in_t2 (List.mem_of_getElem? (i := 73) rfl) rfl)) (in_t2 (List.mem_of_getElem? (i := 74) rfl) rfl) rfl ⟨by decide, by decide, rfl⟩ ⟨Nat.le_of_ble_eq_true rfl, Nat.le_of_ble_eq_true rfl⟩ ⟨Nat.le_of_ble_eq_true rfl, Nat.le_of_ble_eq_true rfl⟩ (Nat.le_of_ble_eq_true rfl) (pc := 187) (by decide +kernel) (fun H1 locs1 sx => ?_)
  refine n_astq (k := 67) (N := 16) (i := 14) (kv := 211) rfl (by decide) (by decide) cx sx (by decide) (show WF[67]? = some (24, 16, 67) from rfl) (by decide) (show WF[211]? = some (6, 0, 211) from rfl) (pc := 190) (by decide +kernel) (fun H1 locs1 sx => ?_)
  rw [← eZ52, ← eM35] at sx
  refine n_iinc (i := 1) (z := 1) (v := Int32.ofNat 14) (v' := Int32.ofNat 15) cx hl rfl (by decide) (by decide) (pc := 191) (by decide +kernel) (fun ls hl => ?_)
  have hls : ls.size = 2 := by obtain ⟨l0, h0, -⟩ := hl; exact h0.1
  refine lv_goto cx.1.1 cx.1.2.1 (off := -29) (tgt := 165) (pc := 194) (by decide +kernel) (by decide) ?_
  refine n_ild (i := 1) (k3 := 1) (v := Int32.ofNat 15) cx hl rfl rfl (pc := 165) (by decide +kernel) ?_
  refine n_ald cx hl (i := 0) (k3 := 0) (t := 11) (k := 0) (pc := 166) rfl rfl (by omega) (by decide +kernel) ?_
  refine n_get (t := 11) (k := 0) (j := 7) (index := 54) cx sx (by omega) (by decide) (show WF[0]? = some (11, 0, 0) from rfl) (by decide) rfl (hqZ52.get (by decide)) (in_t3 (List.mem_of_getElem? (i := 31) rfl) rfl) rfl (pc := 167) (by decide +kernel) ?_
  rw [show (fp 11 7 0).2.2 = 67 from rfl, cx.2.2.2.2.2.2.2.2.1 67 (by omega)]
  refine n_alen (k := 67) (N := 16) cx sx (by decide) (show WF[67]? = some (24, 16, 67) from rfl) (pc := 170) (by decide +kernel) ?_
  refine lv_icmp_ge cx.1.1 cx.1.2.1 (x := Int32.ofNat 15) (y := Int32.ofNat 16) (off := 26) (tgt := 197) (pc := 171) (by decide +kernel) (by decide) (fun hno => absurd hno (by decide)) (fun _ => ?_)
  refine n_ald cx hl (i := 0) (k3 := 0) (t := 11) (k := 0) (pc := 174) rfl rfl (by omega) (by decide +kernel) ?_
  refine n_get (t := 11) (k := 0) (j := 7) (index := 54) cx sx (by omega) (by decide) (show WF[0]? = some (11, 0, 0) from rfl) (by decide) rfl (hqZ52.get (by decide)) (in_t3 (List.mem_of_getElem? (i := 31) rfl) rfl) rfl (pc := 175) (by decide +kernel) ?_
  rw [show (fp 11 7 0).2.2 = 67 from rfl, cx.2.2.2.2.2.2.2.2.1 67 (by omega)]
  refine n_ild (i := 1) (k3 := 1) (v := Int32.ofNat 15) cx hl rfl rfl (pc := 178) (by decide +kernel) ?_
  refine n_new (t := 6) (n := 218) (index := 45) cx sx (hqZ52.fz (hmM35.le (by decide))) (by decide) (show WF[218]? = some (6, 0, 218) from rfl) (in_t2 (List.mem_of_getElem? (i := 71) rfl) rfl) (in_t2 (List.mem_of_getElem? (i := 72) rfl) rfl) (in_t1 (List.mem_of_getElem? (i := 10) rfl) rfl) (Nat.le_of_ble_eq_true rfl) (Nat.le_of_ble_eq_true rfl) (pc := 179) (by decide +kernel) (fun H1 sx => ?_)
  refine lv_dup cx.1.1 cx.1.2.1 (pc := 182) (by decide +kernel) rfl ?_
  refine n_ald cx hl (i := 0) (k3 := 0) (t := 11) (k := 0) (pc := 183) rfl rfl (by omega) (by decide +kernel) ?_
  refine n_get (t := 11) (k := 0) (j := 1) (index := 19) cx sx (by omega) (by decide) (show WF[0]? = some (11, 0, 0) from rfl) (by decide) rfl (hqZ52.get (by decide)) (in_t3 (List.mem_of_getElem? (i := 25) rfl) rfl) rfl (pc := 184) (by decide +kernel) ?_
  rw [show (fp 11 1 0).2.2 = 3 from rfl, cx.2.2.2.2.2.2.2.2.1 3 (by omega)]
  refine n_initS (t := 6) (k := 218) (index := 47) (as := [vR 9 0 3]) (rest := [.ref (B + 218), .int (Int32.ofNat 15), .ref (B + 67)]) (ρ := ρ) (by rw [← cx.2.2.2.2.2.2.2.2.1 3 (by omega)]; rfl) cc26 cx sx (by omega) hls (in_t2 (List.mem_of_getElem? (i := 75) rfl) rfl) (in_t1 (List.mem_of_getElem? (i := 10) rfl) rfl) (.inl (in_t2 (List.mem_of_getElem? (i := 73) rfl) rfl)) (in_t2 (List.mem_of_getElem? (i := 74) rfl) rfl) rfl ⟨by decide, by decide, rfl⟩ ⟨Nat.le_of_ble_eq_true rfl, Nat.le_of_ble_eq_true rfl⟩ ⟨Nat.le_of_ble_eq_true rfl, Nat.le_of_ble_eq_true rfl⟩ (Nat.le_of_ble_eq_true rfl) (pc := 187) (by decide +kernel) (fun H1 locs1 sx => ?_)
  refine n_astq (k := 67) (N := 16) (i := 15) (kv := 218) rfl (by decide) (by decide) cx sx (by decide) (show WF[67]? = some (24, 16, 67) from rfl) (by decide) (show WF[218]? = some (6, 0, 218) from rfl) (pc := 190) (by decide +kernel) (fun H1 locs1 sx => ?_)
  rw [← eZ54, ← eM37] at sx
  refine n_iinc (i := 1) (z := 1) (v := Int32.ofNat 15) (v' := Int32.ofNat 16) cx hl rfl (by decide) (by decide) (pc := 191) (by decide +kernel) (fun ls hl => ?_)
  have hls : ls.size = 2 := by obtain ⟨l0, h0, -⟩ := hl; exact h0.1
  refine lv_goto cx.1.1 cx.1.2.1 (off := -29) (tgt := 165) (pc := 194) (by decide +kernel) (by decide) ?_
  refine n_ild (i := 1) (k3 := 1) (v := Int32.ofNat 16) cx hl rfl rfl (pc := 165) (by decide +kernel) ?_
  refine n_ald cx hl (i := 0) (k3 := 0) (t := 11) (k := 0) (pc := 166) rfl rfl (by omega) (by decide +kernel) ?_
  refine n_get (t := 11) (k := 0) (j := 7) (index := 54) cx sx (by omega) (by decide) (show WF[0]? = some (11, 0, 0) from rfl) (by decide) rfl (hqZ54.get (by decide)) (in_t3 (List.mem_of_getElem? (i := 31) rfl) rfl) rfl (pc := 167) (by decide +kernel) ?_
  rw [show (fp 11 7 0).2.2 = 67 from rfl, cx.2.2.2.2.2.2.2.2.1 67 (by omega)]
  refine n_alen (k := 67) (N := 16) cx sx (by decide) (show WF[67]? = some (24, 16, 67) from rfl) (pc := 170) (by decide +kernel) ?_
  refine lv_icmp_ge cx.1.1 cx.1.2.1 (x := Int32.ofNat 16) (y := Int32.ofNat 16) (off := 26) (tgt := 197) (pc := 171) (by decide +kernel) (by decide) (fun _ => ?_) (fun hno => absurd (by decide) hno)
  refine lv_iconst cx.1.1 cx.1.2.1 (n := 0) (v := Int32.ofNat 0) (pc := 197) (by decide +kernel) (by decide) ?_
  refine n_ist (i := 1) (k3 := 1) (v := Int32.ofNat 0) cx hl rfl (by decide) (pc := 198) (by decide +kernel) (fun ls hl => ?_)
  have hls : ls.size = 2 := by obtain ⟨l0, h0, -⟩ := hl; exact h0.1
  refine n_ild (i := 1) (k3 := 1) (v := Int32.ofNat 0) cx hl rfl rfl (pc := 199) (by decide +kernel) ?_
  refine n_ald cx hl (i := 0) (k3 := 0) (t := 11) (k := 0) (pc := 200) rfl rfl (by omega) (by decide +kernel) ?_
  refine n_get (t := 11) (k := 0) (j := 9) (index := 58) cx sx (by omega) (by decide) (show WF[0]? = some (11, 0, 0) from rfl) (by decide) rfl (hqZ54.get (by decide)) (in_t3 (List.mem_of_getElem? (i := 33) rfl) rfl) rfl (pc := 201) (by decide +kernel) ?_
  rw [show (fp 11 9 0).2.2 = 68 from rfl, cx.2.2.2.2.2.2.2.2.1 68 (by omega)]
  refine n_alen (k := 68) (N := 4) cx sx (by decide) (show WF[68]? = some (24, 4, 68) from rfl) (pc := 204) (by decide +kernel) ?_
  refine lv_icmp_ge cx.1.1 cx.1.2.1 (x := Int32.ofNat 0) (y := Int32.ofNat 4) (off := 26) (tgt := 231) (pc := 205) (by decide +kernel) (by decide) (fun hno => absurd hno (by decide)) (fun _ => ?_)
  refine n_ald cx hl (i := 0) (k3 := 0) (t := 11) (k := 0) (pc := 208) rfl rfl (by omega) (by decide +kernel) ?_
  refine n_get (t := 11) (k := 0) (j := 9) (index := 58) cx sx (by omega) (by decide) (show WF[0]? = some (11, 0, 0) from rfl) (by decide) rfl (hqZ54.get (by decide)) (in_t3 (List.mem_of_getElem? (i := 33) rfl) rfl) rfl (pc := 209) (by decide +kernel) ?_
  rw [show (fp 11 9 0).2.2 = 68 from rfl, cx.2.2.2.2.2.2.2.2.1 68 (by omega)]
  refine n_ild (i := 1) (k3 := 1) (v := Int32.ofNat 0) cx hl rfl rfl (pc := 212) (by decide +kernel) ?_
  refine n_new (t := 6) (n := 225) (index := 45) cx sx (hqZ54.fz (hmM37.le (by decide))) (by decide) (show WF[225]? = some (6, 0, 225) from rfl) (in_t2 (List.mem_of_getElem? (i := 71) rfl) rfl) (in_t2 (List.mem_of_getElem? (i := 72) rfl) rfl) (in_t1 (List.mem_of_getElem? (i := 10) rfl) rfl) (Nat.le_of_ble_eq_true rfl) (Nat.le_of_ble_eq_true rfl) (pc := 213) (by decide +kernel) (fun H1 sx => ?_)
  refine lv_dup cx.1.1 cx.1.2.1 (pc := 216) (by decide +kernel) rfl ?_
  refine n_ald cx hl (i := 0) (k3 := 0) (t := 11) (k := 0) (pc := 217) rfl rfl (by omega) (by decide +kernel) ?_
  refine n_get (t := 11) (k := 0) (j := 1) (index := 19) cx sx (by omega) (by decide) (show WF[0]? = some (11, 0, 0) from rfl) (by decide) rfl (hqZ54.get (by decide)) (in_t3 (List.mem_of_getElem? (i := 25) rfl) rfl) rfl (pc := 218) (by decide +kernel) ?_
  rw [show (fp 11 1 0).2.2 = 3 from rfl, cx.2.2.2.2.2.2.2.2.1 3 (by omega)]
  refine n_initS (t := 6) (k := 225) (index := 47) (as := [vR 9 0 3]) (rest := [.ref (B + 225), .int (Int32.ofNat 0), .ref (B + 68)]) (ρ := ρ) (by rw [← cx.2.2.2.2.2.2.2.2.1 3 (by omega)]; rfl) cc27 cx sx (by omega) hls (in_t2 (List.mem_of_getElem? (i := 75) rfl) rfl) (in_t1 (List.mem_of_getElem? (i := 10) rfl) rfl) (.inl (in_t2 (List.mem_of_getElem? (i := 73) rfl) rfl)) (in_t2 (List.mem_of_getElem? (i := 74) rfl) rfl) rfl ⟨by decide, by decide, rfl⟩ ⟨Nat.le_of_ble_eq_true rfl, Nat.le_of_ble_eq_true rfl⟩ ⟨Nat.le_of_ble_eq_true rfl, Nat.le_of_ble_eq_true rfl⟩ (Nat.le_of_ble_eq_true rfl) (pc := 221) (by decide +kernel) (fun H1 locs1 sx => ?_)
  refine n_astq (k := 68) (N := 4) (i := 0) (kv := 225) rfl (by decide) (by decide) cx sx (by decide) (show WF[68]? = some (24, 4, 68) from rfl) (by decide) (show WF[225]? = some (6, 0, 225) from rfl) (pc := 224) (by decide +kernel) (fun H1 locs1 sx => ?_)
  rw [← eZ56, ← eM39] at sx
  refine n_iinc (i := 1) (z := 1) (v := Int32.ofNat 0) (v' := Int32.ofNat 1) cx hl rfl (by decide) (by decide) (pc := 225) (by decide +kernel) (fun ls hl => ?_)
  have hls : ls.size = 2 := by obtain ⟨l0, h0, -⟩ := hl; exact h0.1
  refine lv_goto cx.1.1 cx.1.2.1 (off := -29) (tgt := 199) (pc := 228) (by decide +kernel) (by decide) ?_
  refine n_ild (i := 1) (k3 := 1) (v := Int32.ofNat 1) cx hl rfl rfl (pc := 199) (by decide +kernel) ?_
  refine n_ald cx hl (i := 0) (k3 := 0) (t := 11) (k := 0) (pc := 200) rfl rfl (by omega) (by decide +kernel) ?_
  refine n_get (t := 11) (k := 0) (j := 9) (index := 58) cx sx (by omega) (by decide) (show WF[0]? = some (11, 0, 0) from rfl) (by decide) rfl (hqZ56.get (by decide)) (in_t3 (List.mem_of_getElem? (i := 33) rfl) rfl) rfl (pc := 201) (by decide +kernel) ?_
  rw [show (fp 11 9 0).2.2 = 68 from rfl, cx.2.2.2.2.2.2.2.2.1 68 (by omega)]
  refine n_alen (k := 68) (N := 4) cx sx (by decide) (show WF[68]? = some (24, 4, 68) from rfl) (pc := 204) (by decide +kernel) ?_
  refine lv_icmp_ge cx.1.1 cx.1.2.1 (x := Int32.ofNat 1) (y := Int32.ofNat 4) (off := 26) (tgt := 231) (pc := 205) (by decide +kernel) (by decide) (fun hno => absurd hno (by decide)) (fun _ => ?_)
  refine n_ald cx hl (i := 0) (k3 := 0) (t := 11) (k := 0) (pc := 208) rfl rfl (by omega) (by decide +kernel) ?_
  refine n_get (t := 11) (k := 0) (j := 9) (index := 58) cx sx (by omega) (by decide) (show WF[0]? = some (11, 0, 0) from rfl) (by decide) rfl (hqZ56.get (by decide)) (in_t3 (List.mem_of_getElem? (i := 33) rfl) rfl) rfl (pc := 209) (by decide +kernel) ?_
  rw [show (fp 11 9 0).2.2 = 68 from rfl, cx.2.2.2.2.2.2.2.2.1 68 (by omega)]
  refine n_ild (i := 1) (k3 := 1) (v := Int32.ofNat 1) cx hl rfl rfl (pc := 212) (by decide +kernel) ?_
  refine n_new (t := 6) (n := 232) (index := 45) cx sx (hqZ56.fz (hmM39.le (by decide))) (by decide) (show WF[232]? = some (6, 0, 232) from rfl) (in_t2 (List.mem_of_getElem? (i := 71) rfl) rfl) (in_t2 (List.mem_of_getElem? (i := 72) rfl) rfl) (in_t1 (List.mem_of_getElem? (i := 10) rfl) rfl) (Nat.le_of_ble_eq_true rfl) (Nat.le_of_ble_eq_true rfl) (pc := 213) (by decide +kernel) (fun H1 sx => ?_)
  refine lv_dup cx.1.1 cx.1.2.1 (pc := 216) (by decide +kernel) rfl ?_
  refine n_ald cx hl (i := 0) (k3 := 0) (t := 11) (k := 0) (pc := 217) rfl rfl (by omega) (by decide +kernel) ?_
  refine n_get (t := 11) (k := 0) (j := 1) (index := 19) cx sx (by omega) (by decide) (show WF[0]? = some (11, 0, 0) from rfl) (by decide) rfl (hqZ56.get (by decide)) (in_t3 (List.mem_of_getElem? (i := 25) rfl) rfl) rfl (pc := 218) (by decide +kernel) ?_
  rw [show (fp 11 1 0).2.2 = 3 from rfl, cx.2.2.2.2.2.2.2.2.1 3 (by omega)]
  refine n_initS (t := 6) (k := 232) (index := 47) (as := [vR 9 0 3]) (rest := [.ref (B + 232), .int (Int32.ofNat 1), .ref (B + 68)]) (ρ := ρ) (by rw [← cx.2.2.2.2.2.2.2.2.1 3 (by omega)]; rfl) cc28 cx sx (by omega) hls (in_t2 (List.mem_of_getElem? (i := 75) rfl) rfl) (in_t1 (List.mem_of_getElem? (i := 10) rfl) rfl) (.inl (in_t2 (List.mem_of_getElem? (i := 73) rfl) rfl)) (in_t2 (List.mem_of_getElem? (i := 74) rfl) rfl) rfl ⟨by decide, by decide, rfl⟩ ⟨Nat.le_of_ble_eq_true rfl, Nat.le_of_ble_eq_true rfl⟩ ⟨Nat.le_of_ble_eq_true rfl, Nat.le_of_ble_eq_true rfl⟩ (Nat.le_of_ble_eq_true rfl) (pc := 221) (by decide +kernel) (fun H1 locs1 sx => ?_)
  refine n_astq (k := 68) (N := 4) (i := 1) (kv := 232) rfl (by decide) (by decide) cx sx (by decide) (show WF[68]? = some (24, 4, 68) from rfl) (by decide) (show WF[232]? = some (6, 0, 232) from rfl) (pc := 224) (by decide +kernel) (fun H1 locs1 sx => ?_)
  rw [← eZ58, ← eM41] at sx
  refine n_iinc (i := 1) (z := 1) (v := Int32.ofNat 1) (v' := Int32.ofNat 2) cx hl rfl (by decide) (by decide) (pc := 225) (by decide +kernel) (fun ls hl => ?_)
  have hls : ls.size = 2 := by obtain ⟨l0, h0, -⟩ := hl; exact h0.1
  refine lv_goto cx.1.1 cx.1.2.1 (off := -29) (tgt := 199) (pc := 228) (by decide +kernel) (by decide) ?_
  refine n_ild (i := 1) (k3 := 1) (v := Int32.ofNat 2) cx hl rfl rfl (pc := 199) (by decide +kernel) ?_
  refine n_ald cx hl (i := 0) (k3 := 0) (t := 11) (k := 0) (pc := 200) rfl rfl (by omega) (by decide +kernel) ?_
  refine n_get (t := 11) (k := 0) (j := 9) (index := 58) cx sx (by omega) (by decide) (show WF[0]? = some (11, 0, 0) from rfl) (by decide) rfl (hqZ58.get (by decide)) (in_t3 (List.mem_of_getElem? (i := 33) rfl) rfl) rfl (pc := 201) (by decide +kernel) ?_
  rw [show (fp 11 9 0).2.2 = 68 from rfl, cx.2.2.2.2.2.2.2.2.1 68 (by omega)]
  refine n_alen (k := 68) (N := 4) cx sx (by decide) (show WF[68]? = some (24, 4, 68) from rfl) (pc := 204) (by decide +kernel) ?_
  refine lv_icmp_ge cx.1.1 cx.1.2.1 (x := Int32.ofNat 2) (y := Int32.ofNat 4) (off := 26) (tgt := 231) (pc := 205) (by decide +kernel) (by decide) (fun hno => absurd hno (by decide)) (fun _ => ?_)
  refine n_ald cx hl (i := 0) (k3 := 0) (t := 11) (k := 0) (pc := 208) rfl rfl (by omega) (by decide +kernel) ?_
  refine n_get (t := 11) (k := 0) (j := 9) (index := 58) cx sx (by omega) (by decide) (show WF[0]? = some (11, 0, 0) from rfl) (by decide) rfl (hqZ58.get (by decide)) (in_t3 (List.mem_of_getElem? (i := 33) rfl) rfl) rfl (pc := 209) (by decide +kernel) ?_
  rw [show (fp 11 9 0).2.2 = 68 from rfl, cx.2.2.2.2.2.2.2.2.1 68 (by omega)]
  refine n_ild (i := 1) (k3 := 1) (v := Int32.ofNat 2) cx hl rfl rfl (pc := 212) (by decide +kernel) ?_
  refine n_new (t := 6) (n := 239) (index := 45) cx sx (hqZ58.fz (hmM41.le (by decide))) (by decide) (show WF[239]? = some (6, 0, 239) from rfl) (in_t2 (List.mem_of_getElem? (i := 71) rfl) rfl) (in_t2 (List.mem_of_getElem? (i := 72) rfl) rfl) (in_t1 (List.mem_of_getElem? (i := 10) rfl) rfl) (Nat.le_of_ble_eq_true rfl) (Nat.le_of_ble_eq_true rfl) (pc := 213) (by decide +kernel) (fun H1 sx => ?_)
  refine lv_dup cx.1.1 cx.1.2.1 (pc := 216) (by decide +kernel) rfl ?_
  refine n_ald cx hl (i := 0) (k3 := 0) (t := 11) (k := 0) (pc := 217) rfl rfl (by omega) (by decide +kernel) ?_
  refine n_get (t := 11) (k := 0) (j := 1) (index := 19) cx sx (by omega) (by decide) (show WF[0]? = some (11, 0, 0) from rfl) (by decide) rfl (hqZ58.get (by decide)) (in_t3 (List.mem_of_getElem? (i := 25) rfl) rfl) rfl (pc := 218) (by decide +kernel) ?_
  rw [show (fp 11 1 0).2.2 = 3 from rfl, cx.2.2.2.2.2.2.2.2.1 3 (by omega)]
  refine n_initS (t := 6) (k := 239) (index := 47) (as := [vR 9 0 3]) (rest := [.ref (B + 239), .int (Int32.ofNat 2), .ref (B + 68)]) (ρ := ρ) (by rw [← cx.2.2.2.2.2.2.2.2.1 3 (by omega)]; rfl) cc29 cx sx (by omega) hls (in_t2 (List.mem_of_getElem? (i := 75) rfl) rfl) (in_t1 (List.mem_of_getElem? (i := 10) rfl) rfl) (.inl (in_t2 (List.mem_of_getElem? (i := 73) rfl) rfl)) (in_t2 (List.mem_of_getElem? (i := 74) rfl) rfl) rfl ⟨by decide, by decide, rfl⟩ ⟨Nat.le_of_ble_eq_true rfl, Nat.le_of_ble_eq_true rfl⟩ ⟨Nat.le_of_ble_eq_true rfl, Nat.le_of_ble_eq_true rfl⟩ (Nat.le_of_ble_eq_true rfl) (pc := 221) (by decide +kernel) (fun H1 locs1 sx => ?_)
  refine n_astq (k := 68) (N := 4) (i := 2) (kv := 239) rfl (by decide) (by decide) cx sx (by decide) (show WF[68]? = some (24, 4, 68) from rfl) (by decide) (show WF[239]? = some (6, 0, 239) from rfl) (pc := 224) (by decide +kernel) (fun H1 locs1 sx => ?_)
  rw [← eZ60, ← eM43] at sx
  refine n_iinc (i := 1) (z := 1) (v := Int32.ofNat 2) (v' := Int32.ofNat 3) cx hl rfl (by decide) (by decide) (pc := 225) (by decide +kernel) (fun ls hl => ?_)
  have hls : ls.size = 2 := by obtain ⟨l0, h0, -⟩ := hl; exact h0.1
  refine lv_goto cx.1.1 cx.1.2.1 (off := -29) (tgt := 199) (pc := 228) (by decide +kernel) (by decide) ?_
  refine n_ild (i := 1) (k3 := 1) (v := Int32.ofNat 3) cx hl rfl rfl (pc := 199) (by decide +kernel) ?_
  refine n_ald cx hl (i := 0) (k3 := 0) (t := 11) (k := 0) (pc := 200) rfl rfl (by omega) (by decide +kernel) ?_
  refine n_get (t := 11) (k := 0) (j := 9) (index := 58) cx sx (by omega) (by decide) (show WF[0]? = some (11, 0, 0) from rfl) (by decide) rfl (hqZ60.get (by decide)) (in_t3 (List.mem_of_getElem? (i := 33) rfl) rfl) rfl (pc := 201) (by decide +kernel) ?_
  rw [show (fp 11 9 0).2.2 = 68 from rfl, cx.2.2.2.2.2.2.2.2.1 68 (by omega)]
  refine n_alen (k := 68) (N := 4) cx sx (by decide) (show WF[68]? = some (24, 4, 68) from rfl) (pc := 204) (by decide +kernel) ?_
  refine lv_icmp_ge cx.1.1 cx.1.2.1 (x := Int32.ofNat 3) (y := Int32.ofNat 4) (off := 26) (tgt := 231) (pc := 205) (by decide +kernel) (by decide) (fun hno => absurd hno (by decide)) (fun _ => ?_)
  refine n_ald cx hl (i := 0) (k3 := 0) (t := 11) (k := 0) (pc := 208) rfl rfl (by omega) (by decide +kernel) ?_
  refine n_get (t := 11) (k := 0) (j := 9) (index := 58) cx sx (by omega) (by decide) (show WF[0]? = some (11, 0, 0) from rfl) (by decide) rfl (hqZ60.get (by decide)) (in_t3 (List.mem_of_getElem? (i := 33) rfl) rfl) rfl (pc := 209) (by decide +kernel) ?_
  rw [show (fp 11 9 0).2.2 = 68 from rfl, cx.2.2.2.2.2.2.2.2.1 68 (by omega)]
  refine n_ild (i := 1) (k3 := 1) (v := Int32.ofNat 3) cx hl rfl rfl (pc := 212) (by decide +kernel) ?_
  refine n_new (t := 6) (n := 246) (index := 45) cx sx (hqZ60.fz (hmM43.le (by decide))) (by decide) (show WF[246]? = some (6, 0, 246) from rfl) (in_t2 (List.mem_of_getElem? (i := 71) rfl) rfl) (in_t2 (List.mem_of_getElem? (i := 72) rfl) rfl) (in_t1 (List.mem_of_getElem? (i := 10) rfl) rfl) (Nat.le_of_ble_eq_true rfl) (Nat.le_of_ble_eq_true rfl) (pc := 213) (by decide +kernel) (fun H1 sx => ?_)
  refine lv_dup cx.1.1 cx.1.2.1 (pc := 216) (by decide +kernel) rfl ?_
  refine n_ald cx hl (i := 0) (k3 := 0) (t := 11) (k := 0) (pc := 217) rfl rfl (by omega) (by decide +kernel) ?_
  refine n_get (t := 11) (k := 0) (j := 1) (index := 19) cx sx (by omega) (by decide) (show WF[0]? = some (11, 0, 0) from rfl) (by decide) rfl (hqZ60.get (by decide)) (in_t3 (List.mem_of_getElem? (i := 25) rfl) rfl) rfl (pc := 218) (by decide +kernel) ?_
  rw [show (fp 11 1 0).2.2 = 3 from rfl, cx.2.2.2.2.2.2.2.2.1 3 (by omega)]
  refine n_initS (t := 6) (k := 246) (index := 47) (as := [vR 9 0 3]) (rest := [.ref (B + 246), .int (Int32.ofNat 3), .ref (B + 68)]) (ρ := ρ) (by rw [← cx.2.2.2.2.2.2.2.2.1 3 (by omega)]; rfl) cc30 cx sx (by omega) hls (in_t2 (List.mem_of_getElem? (i := 75) rfl) rfl) (in_t1 (List.mem_of_getElem? (i := 10) rfl) rfl) (.inl (in_t2 (List.mem_of_getElem? (i := 73) rfl) rfl)) (in_t2 (List.mem_of_getElem? (i := 74) rfl) rfl) rfl ⟨by decide, by decide, rfl⟩ ⟨Nat.le_of_ble_eq_true rfl, Nat.le_of_ble_eq_true rfl⟩ ⟨Nat.le_of_ble_eq_true rfl, Nat.le_of_ble_eq_true rfl⟩ (Nat.le_of_ble_eq_true rfl) (pc := 221) (by decide +kernel) (fun H1 locs1 sx => ?_)
  refine n_astq (k := 68) (N := 4) (i := 3) (kv := 246) rfl (by decide) (by decide) cx sx (by decide) (show WF[68]? = some (24, 4, 68) from rfl) (by decide) (show WF[246]? = some (6, 0, 246) from rfl) (pc := 224) (by decide +kernel) (fun H1 locs1 sx => ?_)
  rw [← eZ62, ← eM45] at sx
  refine n_iinc (i := 1) (z := 1) (v := Int32.ofNat 3) (v' := Int32.ofNat 4) cx hl rfl (by decide) (by decide) (pc := 225) (by decide +kernel) (fun ls hl => ?_)
  have hls : ls.size = 2 := by obtain ⟨l0, h0, -⟩ := hl; exact h0.1
  refine lv_goto cx.1.1 cx.1.2.1 (off := -29) (tgt := 199) (pc := 228) (by decide +kernel) (by decide) ?_
  refine n_ild (i := 1) (k3 := 1) (v := Int32.ofNat 4) cx hl rfl rfl (pc := 199) (by decide +kernel) ?_
  refine n_ald cx hl (i := 0) (k3 := 0) (t := 11) (k := 0) (pc := 200) rfl rfl (by omega) (by decide +kernel) ?_
  refine n_get (t := 11) (k := 0) (j := 9) (index := 58) cx sx (by omega) (by decide) (show WF[0]? = some (11, 0, 0) from rfl) (by decide) rfl (hqZ62.get (by decide)) (in_t3 (List.mem_of_getElem? (i := 33) rfl) rfl) rfl (pc := 201) (by decide +kernel) ?_
  rw [show (fp 11 9 0).2.2 = 68 from rfl, cx.2.2.2.2.2.2.2.2.1 68 (by omega)]
  refine n_alen (k := 68) (N := 4) cx sx (by decide) (show WF[68]? = some (24, 4, 68) from rfl) (pc := 204) (by decide +kernel) ?_
  refine lv_icmp_ge cx.1.1 cx.1.2.1 (x := Int32.ofNat 4) (y := Int32.ofNat 4) (off := 26) (tgt := 231) (pc := 205) (by decide +kernel) (by decide) (fun _ => ?_) (fun hno => absurd (by decide) hno)
  exact n_ret cx sx (Nat.le_of_ble_eq_true rfl) (Nat.le_of_ble_eq_true rfl) (pc := 231) (by decide +kernel)
end NICE
