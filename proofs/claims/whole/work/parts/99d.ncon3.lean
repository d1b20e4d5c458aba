/-! CONSTRUCTORS of the reader and of the trial, by a program (gen98d.py) -/
section NCON3
variable {M M' : Mem} {Z Z' : Zs}
section
variable {ρ : Nat → Nat} {cA : Nat → ClassId} {n n' B : Nat} {dC : Nat → ClassId} {dI : Nat → Nat → Nat}
variable {p : Program} {l : Launch} {e : Env} {R : Room} {s : State} {m : MethodId} {args : Array Value} {below : List Frame} {meth : Method} {c : Code} {H : Heap} {locs : List Loc} {cells slots : Nat} {Q : State → Prop}
variable {own : String} {cc : ByteArray} {nL pc : Nat} {ls : Array Slot} {rest : List Value}
theorem n_initS {y : MethodName} {bytes : ByteArray} {mL d mc ms index t k : Nat} {as : List AV} {st : List Value} (hst : st = (as.map (cv ρ)).reverse ++ .ref (B + k) :: rest) (hM : CNt y bytes mL d mc ms (vR t 0 k :: as) n M Z n' M' Z') (cx : CX own cc nL p s m args meth c dC dI cA ρ B) (sx : SX dC dI cA ρ B s n M Z H locs) (hk : k < 10000) (hls : ls.size = nL) (hcode : Cond.code y bytes mL none ∈ lw_g) (hini : Cond.initialized y.cls ∈ lw_g) (hlk : Cond.methodLink own index y ∈ lw_g ∨ ∃ C, (own, index, C) ∈ [("IceParliament", 11, "IceParliament$Tape"), ("IceParliament$Yard", 11, "IceParliament$Roll"), ("IceParliament$Yard", 57, "IceParliament$Law"), ("IceParliament", 37, "IceParliament$Session")] ∧ y = ⟨C, "<init>", "()V"⟩) (hin : Cond.instanceMethod y ∈ lw_g) (hy1 : y.name = "<init>")
    (hd : y.cls ≠ "java/lang/invoke/MethodHandle" ∧ y.cls ≠ "java/lang/invoke/VarHandle" ∧ (parseMethodDescriptor y.desc).map (fun d => d.parameters.length) = some as.length) (hR : d + 1 ≤ R.frames ∧ 8 + (mL + 11) + 60 * d ≤ R.locals) (hc : cells + mc ≤ R.cells ∧ slots + ms ≤ R.slots) (hrest : (rest.map fun v => v.category).sum ≤ 8) (hdg : decode cc pc = .ok (.invokespecial index, 3))
    (kk : ∀ (H1 : Heap) (locs1 : List Loc), SX dC dI cA ρ B s n' M' Z' H1 locs1 → W p l e R s m args below meth c H1 locs1 (cells + mc) (slots + ms) Q (F0 m (pc + 3) ls rest)) : W p l e R s m args below meth c H locs cells slots Q (F0 m pc ls st) := by
  subst hst
  exact n_init hM cx sx hk hls hcode hini hlk hin hy1 hd hR hc hrest hdg kk
end
set_option maxRecDepth 20000 in
set_option maxHeartbeats 1000000 in
theorem c_YardReader (fz : Fz 49 M Z) (hm : Mz 49 M) (hYd : ∀ a, 26 ≤ a → a ≤ 48 → ∀ b, Z a b = false) : ∃ M' Z', CNt ⟨"IceParliament$YardReader", "<init>", "(LIceParliament$Tape;LIceParliament$Yard;)V"⟩ prog_12_method_1_code 3 2 2 54 [vR 10 0 49, vR 7 0 1, vR 9 0 26] 50 M Z 52 M' Z' ∧ PZ 49 52 Z Z' ∧ M' = sR M 50 4 43 := by
  have hq : QZ 49 [] 50 Z Z := QZ.start
  obtain ⟨Z1, eZ1⟩ : ∃ Z1, Z1 = uZ Z 49 0 := ⟨_, rfl⟩
  have hqZ1 := hq.put eZ1
  obtain ⟨Z2, eZ2⟩ : ∃ Z2, Z2 = uZ Z1 49 1 := ⟨_, rfl⟩
  have hqZ2 := hqZ1.put eZ2
  obtain ⟨Z3, cc1, p1⟩ := c_LawReader (M := M) (Z := Z2) (hqZ2.fz fz hm) ((hqZ2.fz fz hm).mz)
  have hqZ3 := hqZ2.sub p1 (by omega)
  obtain ⟨Z4, eZ4⟩ : ∃ Z4, Z4 = uZ Z3 49 2 := ⟨_, rfl⟩
  have hqZ4 := hqZ3.put eZ4
  refine ⟨(sR M 50 4 43), Z4, CNt_of (own := "IceParliament$YardReader") (by decide) rfl rfl (Nat.le_of_ble_eq_true rfl) (fun B => Nat.le_add_right B _) ?_, hqZ4.fin fz (show WF[49]? = some (10, 0, 49) from rfl) (by decide), rfl⟩
  intro p l e s m args below meth c dC dI cA ρ B ls cx sx hsz hl
  have hls : ls.size = 3 := by obtain ⟨l0, h0, -⟩ := hl; exact h0.1
  refine n_ald cx hl (i := 0) (k3 := 0) (t := 10) (k := 49) (pc := 0) rfl rfl (by omega) (by decide +kernel) ?_
  refine n_obj (k := 49) (index := 3) cx hl (in_t2 (List.mem_of_getElem? (i := 8) rfl) rfl) (in_t1 (List.mem_of_getElem? (i := 33) rfl) rfl) (in_t1 (List.mem_of_getElem? (i := 34) rfl) rfl) ⟨Nat.le_of_ble_eq_true rfl, Nat.le_of_ble_eq_true rfl⟩ (by decide) (pc := 1) (by decide +kernel) ?_
  refine n_ald cx hl (i := 0) (k3 := 0) (t := 10) (k := 49) (pc := 4) rfl rfl (by omega) (by decide +kernel) ?_
  refine n_ald cx hl (i := 1) (k3 := 1) (t := 7) (k := 1) (pc := 5) rfl rfl (by omega) (by decide +kernel) ?_
  refine n_putF (t := 10) (k := 49) (j := 0) (index := 9) cx sx (by omega) (by decide) (show WF[49]? = some (10, 0, 49) from rfl) (by decide) rfl (by rw [show (fp 10 0 49).2.2 = 1 from rfl, cx.2.2.2.2.2.2.2.2.1 1 (by omega)]) rfl (in_t2 (List.mem_of_getElem? (i := 34) rfl) rfl) rfl rfl (fun _ => rfl) (fun _ => rfl) (pc := 6) (by decide +kernel) (fun H1 locs1 sx => ?_)
  rw [← eZ1] at sx
  refine n_ald cx hl (i := 0) (k3 := 0) (t := 10) (k := 49) (pc := 9) rfl rfl (by omega) (by decide +kernel) ?_
  refine n_ald cx hl (i := 2) (k3 := 2) (t := 9) (k := 26) (pc := 10) rfl rfl (by omega) (by decide +kernel) ?_
  refine n_putF (t := 10) (k := 49) (j := 1) (index := 15) cx sx (by omega) (by decide) (show WF[49]? = some (10, 0, 49) from rfl) (by decide) rfl (by rw [show (fp 10 1 49).2.2 = 26 from rfl, cx.2.2.2.2.2.2.2.2.1 26 (by omega)]) rfl (in_t2 (List.mem_of_getElem? (i := 35) rfl) rfl) rfl rfl (fun _ => rfl) (fun _ => rfl) (pc := 11) (by decide +kernel) (fun H1 locs1 sx => ?_)
  rw [← eZ2] at sx
  refine n_ald cx hl (i := 0) (k3 := 0) (t := 10) (k := 49) (pc := 14) rfl rfl (by omega) (by decide +kernel) ?_
  refine n_new (t := 2) (n := 50) (index := 19) cx sx (hqZ2.fz fz hm) (by decide) (show WF[50]? = some (2, 0, 50) from rfl) (in_t2 (List.mem_of_getElem? (i := 9) rfl) rfl) (in_t2 (List.mem_of_getElem? (i := 10) rfl) rfl) (in_t1 (List.mem_of_getElem? (i := 8) rfl) rfl) (Nat.le_of_ble_eq_true rfl) (Nat.le_of_ble_eq_true rfl) (pc := 15) (by decide +kernel) (fun H1 sx => ?_)
  refine lv_dup cx.1.1 cx.1.2.1 (pc := 18) (by decide +kernel) rfl ?_
  refine n_ald cx hl (i := 1) (k3 := 1) (t := 7) (k := 1) (pc := 19) rfl rfl (by omega) (by decide +kernel) ?_
  refine n_ald cx hl (i := 2) (k3 := 2) (t := 9) (k := 26) (pc := 20) rfl rfl (by omega) (by decide +kernel) ?_
  refine n_get (t := 9) (k := 26) (j := 16) (index := 21) cx sx (by omega) (by decide) (show WF[26]? = some (9, 0, 26) from rfl) (by decide) rfl ((hqZ2.2.1 26 16 (.inl (by decide))).trans (hYd 26 (by decide) (by decide) 16)) (in_t1 (List.mem_of_getElem? (i := 202) rfl) rfl) rfl (pc := 21) (by decide +kernel) ?_
  rw [show (fp 9 16 26).2.2 = 43 from rfl, cx.2.2.2.2.2.2.2.2.1 43 (by omega)]
  refine n_initS (t := 2) (k := 50) (index := 27) (as := [vR 7 0 1, vR 1 0 43]) (rest := [.ref (B + 50), .ref (B + 49)]) (ρ := ρ) (by rw [← cx.2.2.2.2.2.2.2.2.1 1 (by omega), ← cx.2.2.2.2.2.2.2.2.1 43 (by omega)]; rfl) cc1 cx sx (by omega) hls (in_t2 (List.mem_of_getElem? (i := 13) rfl) rfl) (in_t1 (List.mem_of_getElem? (i := 8) rfl) rfl) (.inl (in_t2 (List.mem_of_getElem? (i := 11) rfl) rfl)) (in_t2 (List.mem_of_getElem? (i := 12) rfl) rfl) rfl ⟨by decide, by decide, rfl⟩ ⟨Nat.le_of_ble_eq_true rfl, Nat.le_of_ble_eq_true rfl⟩ ⟨Nat.le_of_ble_eq_true rfl, Nat.le_of_ble_eq_true rfl⟩ (Nat.le_of_ble_eq_true rfl) (pc := 24) (by decide +kernel) (fun H1 locs1 sx => ?_)
  refine n_putF (t := 10) (k := 49) (j := 2) (index := 30) cx sx (by omega) (by decide) (show WF[49]? = some (10, 0, 49) from rfl) (by decide) rfl (by rw [show (fp 10 2 49).2.2 = 50 from rfl, cx.2.2.2.2.2.2.2.2.1 50 (by omega)]) rfl (in_t2 (List.mem_of_getElem? (i := 36) rfl) rfl) rfl rfl (fun _ => rfl) (fun _ => rfl) (pc := 27) (by decide +kernel) (fun H1 locs1 sx => ?_)
  rw [← eZ4] at sx
  exact n_ret cx sx (Nat.le_of_ble_eq_true rfl) (Nat.le_of_ble_eq_true rfl) (pc := 30) (by decide +kernel)
set_option maxRecDepth 20000 in
set_option maxHeartbeats 1000000 in
theorem c_Trial (fz : Fz 105 M Z) (hm : Mz 105 M) (hY : ∀ a, 3 ≤ a → a ≤ 25 → ∀ b, Z a b = false) : ∃ M' Z', CNt ⟨"IceParliament$Trial", "<init>", "(LIceParliament$Yard;)V"⟩ prog_10_method_1_code 2 4 7 47 [vR 8 0 105, vR 9 0 3] 106 M Z 113 M' Z' ∧ PZ 105 113 Z Z' ∧ Fr (fun c _ => 105 ≤ c ∧ c ≤ 112) M M' := by
  have hq : QZ 105 [] 106 Z Z := QZ.start
  obtain ⟨Z1, eZ1⟩ : ∃ Z1, Z1 = uZ Z 105 5 := ⟨_, rfl⟩
  have hqZ1 := hq.put eZ1
  obtain ⟨M1, Z2, cc1, p1, sc1, fr1⟩ := c_State106 (M := M) (Z := Z1) (hqZ1.fz fz hm) ((hqZ1.fz fz hm).mz) (fun a h1 h2 b => (hqZ1.2.1 a b (.inl (by omega))).trans (hY a h1 h2 b))
  have hqZ2 := hqZ1.sub p1 (by omega)
  obtain ⟨Z3, eZ3⟩ : ∃ Z3, Z3 = uZ Z2 105 6 := ⟨_, rfl⟩
  have hqZ3 := hqZ2.put eZ3
  refine ⟨M1, Z3, CNt_of (own := "IceParliament$Trial") (by decide) rfl rfl (Nat.le_of_ble_eq_true rfl) (fun B => Nat.le_add_right B _) ?_, hqZ3.fin fz (show WF[105]? = some (8, 0, 105) from rfl) (by decide), fr1.up (fun c j z => by omega)⟩
  intro p l e s m args below meth c dC dI cA ρ B ls cx sx hsz hl
  have hls : ls.size = 2 := by obtain ⟨l0, h0, -⟩ := hl; exact h0.1
  refine n_ald cx hl (i := 0) (k3 := 0) (t := 8) (k := 105) (pc := 0) rfl rfl (by omega) (by decide +kernel) ?_
  refine n_obj (k := 105) (index := 3) cx hl (in_t2 (List.mem_of_getElem? (i := 231) rfl) rfl) (in_t1 (List.mem_of_getElem? (i := 33) rfl) rfl) (in_t1 (List.mem_of_getElem? (i := 34) rfl) rfl) ⟨Nat.le_of_ble_eq_true rfl, Nat.le_of_ble_eq_true rfl⟩ (by decide) (pc := 1) (by decide +kernel) ?_
  refine n_ald cx hl (i := 0) (k3 := 0) (t := 8) (k := 105) (pc := 4) rfl rfl (by omega) (by decide +kernel) ?_
  refine n_ald cx hl (i := 1) (k3 := 1) (t := 9) (k := 3) (pc := 5) rfl rfl (by omega) (by decide +kernel) ?_
  refine n_putF (t := 8) (k := 105) (j := 5) (index := 9) cx sx (by omega) (by decide) (show WF[105]? = some (8, 0, 105) from rfl) (by decide) rfl (by rw [show (fp 8 5 105).2.2 = 3 from rfl, cx.2.2.2.2.2.2.2.2.1 3 (by omega)]) rfl (in_t3 (List.mem_of_getElem? (i := 4) rfl) rfl) rfl rfl (fun _ => rfl) (fun _ => rfl) (pc := 6) (by decide +kernel) (fun H1 locs1 sx => ?_)
  rw [← eZ1] at sx
  refine n_ald cx hl (i := 0) (k3 := 0) (t := 8) (k := 105) (pc := 9) rfl rfl (by omega) (by decide +kernel) ?_
  refine n_new (t := 6) (n := 106) (index := 15) cx sx (hqZ1.fz fz hm) (by decide) (show WF[106]? = some (6, 0, 106) from rfl) (in_t2 (List.mem_of_getElem? (i := 232) rfl) rfl) (in_t2 (List.mem_of_getElem? (i := 72) rfl) rfl) (in_t1 (List.mem_of_getElem? (i := 10) rfl) rfl) (Nat.le_of_ble_eq_true rfl) (Nat.le_of_ble_eq_true rfl) (pc := 10) (by decide +kernel) (fun H1 sx => ?_)
  refine lv_dup cx.1.1 cx.1.2.1 (pc := 13) (by decide +kernel) rfl ?_
  refine n_ald cx hl (i := 1) (k3 := 1) (t := 9) (k := 3) (pc := 14) rfl rfl (by omega) (by decide +kernel) ?_
  refine n_initS (t := 6) (k := 106) (index := 17) (as := [vR 9 0 3]) (rest := [.ref (B + 106), .ref (B + 105)]) (ρ := ρ) (by rw [← cx.2.2.2.2.2.2.2.2.1 3 (by omega)]; rfl) cc1 cx sx (by omega) hls (in_t2 (List.mem_of_getElem? (i := 75) rfl) rfl) (in_t1 (List.mem_of_getElem? (i := 10) rfl) rfl) (.inl (in_t2 (List.mem_of_getElem? (i := 233) rfl) rfl)) (in_t2 (List.mem_of_getElem? (i := 74) rfl) rfl) rfl ⟨by decide, by decide, rfl⟩ ⟨Nat.le_of_ble_eq_true rfl, Nat.le_of_ble_eq_true rfl⟩ ⟨Nat.le_of_ble_eq_true rfl, Nat.le_of_ble_eq_true rfl⟩ (Nat.le_of_ble_eq_true rfl) (pc := 15) (by decide +kernel) (fun H1 locs1 sx => ?_)
  refine n_putF (t := 8) (k := 105) (j := 6) (index := 20) cx sx (by omega) (by decide) (show WF[105]? = some (8, 0, 105) from rfl) (by decide) rfl (by rw [show (fp 8 6 105).2.2 = 106 from rfl, cx.2.2.2.2.2.2.2.2.1 106 (by omega)]) rfl (in_t3 (List.mem_of_getElem? (i := 5) rfl) rfl) rfl rfl (fun _ => rfl) (fun _ => rfl) (pc := 18) (by decide +kernel) (fun H1 locs1 sx => ?_)
  rw [← eZ3] at sx
  exact n_ret cx sx (Nat.le_of_ble_eq_true rfl) (Nat.le_of_ble_eq_true rfl) (pc := 21) (by decide +kernel)
end NCON3
