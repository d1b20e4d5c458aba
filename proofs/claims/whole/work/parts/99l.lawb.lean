/-! THE LAW'S START, by a program (gen99l.py) -/
section LAWB
variable {ρ : Nat → Nat} {cA : Nat → ClassId} {dC : Nat → ClassId} {dI : Nat → Nat → Nat}
variable {p : Program} {l : Launch} {e : Env} {s : State} {m : MethodId} {below : List Frame} {meth : Method} {c : Code} {Q : State → Prop}
variable {ls : Array Slot} {b L : Nat} {xs : Nat → Int32}
set_option maxRecDepth 20000 in
theorem law_begin_open (cw : CWl "IceParliamentLaw" code 7 p s m #[Value.ref b] c dC dI cA ρ s.heap.size) (cx : LZ p s m meth c dC dI cA ρ b L xs) (h25 : C25 p l e s m below meth c dC dI cA ρ b L xs Q) (hend : ∀ H locs ls, (∀ z ∈ locs, s.heap.size ≤ z.base) → W p l e room_1 s m #[Value.ref b] below meth c H locs 601024 7293034 Q (F0 m 1169 ls [.int 1])) (hl : lv_has ls 7 [(0, .ref b)]) : W p l e room_1 s m #[Value.ref b] below meth c s.heap [] 0 0 Q (F0 m 0 ls []) := by
  have hρ := cw.2.2.2.2.2.1
  have fz0 : Fz 0 ((fun _ _ => 0, fun _ _ => 0, fun _ _ => 0) : Mem) rfK := fun k _ j => ⟨rfl, rfl, rfl⟩
  obtain ⟨M1, Z1, cI, q1, x1⟩ := c_Ice fz0 (fun k _ j => ⟨rfl, rfl⟩)
  have m1 : Mz 253 M1 := x1.2.2.2.2.2.2
  have f1 : Fz 253 M1 Z1 := q1.fz m1
  obtain ⟨M2, Z2, cM, p2, fM, i2⟩ := c_Model f1 m1 x1
  have f2 : Fz 278 M2 Z2 := PZ.fz f1 p2 (by decide) (fM.up (fun c j z => by omega))
  have sx : SX dC dI cA ρ s.heap.size s 0 ((fun _ _ => 0, fun _ _ => 0, fun _ _ => 0) : Mem) rfK s.heap [] := ⟨fun k y h => absurd h (by show ¬ ([] : va_W)[k]? = some y; simp), rfl, va_S.rf⟩
  refine w_new (t := 11) (n := 0) (index := 8) cw sx fz0 (by decide) (show WF[0]? = some (11, 0, 0) from rfl) (in_t1 (List.mem_of_getElem? (i := 27) rfl) rfl) (in_t1 (List.mem_of_getElem? (i := 28) rfl) rfl) (in_t1 (List.mem_of_getElem? (i := 1) rfl) rfl) (Nat.le_of_ble_eq_true rfl) (Nat.le_of_ble_eq_true rfl) (pc := 0) (by decide +kernel) (fun H1 sx => ?_)
  refine lv_dup cw.1.1 cw.1.2.1 (pc := 3) (by decide +kernel) rfl ?_
  refine w_init (t := 11) (k := 0) (index := 15) (as := []) cI cw sx (by omega) hl.1 (in_t1 (List.mem_of_getElem? (i := 31) rfl) rfl) (in_t1 (List.mem_of_getElem? (i := 1) rfl) rfl) (.inl (in_t1 (List.mem_of_getElem? (i := 29) rfl) rfl)) (in_t1 (List.mem_of_getElem? (i := 30) rfl) rfl) rfl ⟨by decide, by decide, rfl⟩ ⟨Nat.le_of_ble_eq_true rfl, Nat.le_of_ble_eq_true rfl⟩ ⟨Nat.le_of_ble_eq_true rfl, Nat.le_of_ble_eq_true rfl⟩ (Nat.le_of_ble_eq_true rfl) (pc := 4) (by decide +kernel) (fun H1 locs1 sx => ?_)
  rw [← hρ 0 (by omega)]
  refine lv_astore_n (i := 1) (k := 1) (lv' := [(1, .ref (ρ 0)), (0, .ref b)]) cw.1.1 cw.1.2.1 (pc := 7) (by decide +kernel) rfl hl (by decide) rfl (fun ls hl => ?_)
  refine w_new (t := 12) (n := 253) (index := 16) cw sx f1 (by decide) (show WF[253]? = some (12, 0, 253) from rfl) (in_t7 (List.mem_of_getElem? (i := 50) rfl) rfl) (in_t7 (List.mem_of_getElem? (i := 48) rfl) rfl) (in_t1 (List.mem_of_getElem? (i := 15) rfl) rfl) (Nat.le_of_ble_eq_true rfl) (Nat.le_of_ble_eq_true rfl) (pc := 8) (by decide +kernel) (fun H1 sx => ?_)
  refine lv_dup cw.1.1 cw.1.2.1 (pc := 11) (by decide +kernel) rfl ?_
  refine w_init (t := 12) (k := 253) (index := 18) (as := []) cM cw sx (by omega) hl.1 (in_t7 (List.mem_of_getElem? (i := 53) rfl) rfl) (in_t1 (List.mem_of_getElem? (i := 15) rfl) rfl) (.inl (in_t7 (List.mem_of_getElem? (i := 51) rfl) rfl)) (in_t7 (List.mem_of_getElem? (i := 52) rfl) rfl) rfl ⟨by decide, by decide, rfl⟩ ⟨Nat.le_of_ble_eq_true rfl, Nat.le_of_ble_eq_true rfl⟩ ⟨Nat.le_of_ble_eq_true rfl, Nat.le_of_ble_eq_true rfl⟩ (Nat.le_of_ble_eq_true rfl) (pc := 12) (by decide +kernel) (fun H1 locs1 sx => ?_)
  rw [← hρ 253 (by omega)]
  refine lv_astore_n (i := 2) (k := 2) (lv' := [(2, .ref (ρ 253)), (1, .ref (ρ 0)), (0, .ref b)]) cw.1.1 cw.1.2.1 (pc := 15) (by decide +kernel) rfl hl (by decide) rfl (fun ls hl => ?_)
  refine lv_iconst cw.1.1 cw.1.2.1 (n := 1) (v := Int32.ofNat 1) (pc := 16) (by decide +kernel) (by decide) ?_
  refine w_newa (t := 23) (N := 1) (n := 278) (aty := .long) (ty := .long) (index := 0) rfl (by omega) rfl (.inr (.inr (.inr ⟨rfl, rfl⟩))) cw sx f2 (show WF[278]? = some (23, 1, 278) from rfl) (in_t1 (List.mem_of_getElem? (i := 103) rfl) rfl) (Nat.le_of_ble_eq_true rfl) (Nat.le_of_ble_eq_true rfl) (pc := 17) (by decide +kernel) (fun H1 sx => ?_)
  rw [← hρ 278 (by omega)]
  refine lv_astore_n (i := 3) (k := 3) (lv' := [(3, .ref (ρ 278)), (2, .ref (ρ 253)), (1, .ref (ρ 0)), (0, .ref b)]) cw.1.1 cw.1.2.1 (pc := 19) (by decide +kernel) rfl hl (by decide) rfl (fun ls hl => ?_)
  refine lv_iconst cw.1.1 cw.1.2.1 (n := 0) (v := Int32.ofNat 0) (pc := 20) (by decide +kernel) (by decide) ?_
  refine lv_istore (i := 4) (lv' := [(4, .int (Int32.ofNat 0)), (3, .ref (ρ 278)), (2, .ref (ρ 253)), (1, .ref (ρ 0)), (0, .ref b)]) cw.1.1 cw.1.2.1 (pc := 21) (by decide +kernel) hl (by decide) rfl (fun ls hl => ?_)
  refine W.widen (k := 1000 + 100 * 0) (n := 30000 + 1000 * 0) (Nat.le_of_ble_eq_true rfl) (Nat.le_of_ble_eq_true rfl) ?_
  exact law_loop_open cx h25 hend 512 0 0 M2 _ _ ls rfl (by omega) (by have := cx.2.2.2.2.2; omega) ⟨w_fin q1 (by decide) p2 sx.1, sx.2.2, mok_WF x1 fM⟩ i2 hl
end LAWB
