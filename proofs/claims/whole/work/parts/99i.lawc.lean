/-! THE LAW'S CASES, by a program (gen99i.py) -/
section LAWC
variable {M M' : Mem} {t i : Nat} {ρ : Nat → Nat} {cA : Nat → ClassId} {dC : Nat → ClassId} {dI : Nat → Nat → Nat}
variable {p : Program} {l : Launch} {e : Env} {R : Room} {s : State} {m : MethodId} {args : Array Value} {below : List Frame} {meth : Method} {c : Code} {H : Heap} {locs : List Loc} {cells slots : Nat} {Q : State → Prop}
variable {pc : Nat} {ls : Array Slot} {rest : List Value} {b L : Nat} {xs : Nat → Int32}
theorem vok_nil : VOKs WF [] := fun v h => absurd h List.not_mem_nil
theorem vok_I {x : Int32} {as : List AV} (h : VOKs WF as) : VOKs WF (vI x :: as) := fun v hv => by
  rcases List.mem_cons.mp hv with rfl | hv
  · exact trivial
  · exact h v hv
theorem vok_J {x : Int64} {as : List AV} (h : VOKs WF as) : VOKs WF (vJ x :: as) := fun v hv => by
  rcases List.mem_cons.mp hv with rfl | hv
  · exact trivial
  · exact h v hv
theorem lc_0 (cx : LZ p s m meth c dC dI cA ρ b L xs) (ly : LY s dC dI cA ρ M H locs) (hi : Inv t M) (ht : t + 1 < 10000) (hl : LVs ls ρ b i) (hij : i + 7 ≤ L) (hc : cells ≤ 601024 ∧ slots ≤ 7293034) (kk : ∀ M' H' locs', LY s dC dI cA ρ M' H' locs' → Inv (t + 1) M' → W p l e room_1 s m #[Value.ref b] below meth c H' locs' cells slots Q (F0 m 1162 ls [])) : W p l e room_1 s m #[Value.ref b] below meth c H locs cells slots Q (F0 m 172 ls []) := by
  obtain ⟨z7, l0, l1, l2, l3, l4⟩ := hl.all
  obtain ⟨r1, M1, ev1, v, hr1, r2, M2, ev2, hr2, inv2⟩ := (show Two t t 6 192 [vR 11 0 0, vJ (((xs (i + 1)).toInt64 <<< ((32 : Int32).toInt64 &&& 63)) ||| ((xs (i + 2)).toInt64 &&& 4294967295)), vJ (((xs (i + 3)).toInt64 <<< ((32 : Int32).toInt64 &&& 63)) ||| ((xs (i + 4)).toInt64 &&& 4294967295)), vJ (((xs (i + 5)).toInt64 <<< ((32 : Int32).toInt64 &&& 63)) ||| ((xs (i + 6)).toInt64 &&& 4294967295))] [vR 12 0 253, vJ (((xs (i + 1)).toInt64 <<< ((32 : Int32).toInt64 &&& 63)) ||| ((xs (i + 2)).toInt64 &&& 4294967295)), vJ (((xs (i + 3)).toInt64 <<< ((32 : Int32).toInt64 &&& 63)) ||| ((xs (i + 4)).toInt64 &&& 4294967295)), vJ (((xs (i + 5)).toInt64 <<< ((32 : Int32).toInt64 &&& 63)) ||| ((xs (i + 6)).toInt64 &&& 4294967295))] from two_feed) M hi
  subst hr1
  subst hr2
  refine lv_aload_n cx.1.1 cx.1.2.1 (k := 1) (pc := 172) (by decide +kernel) rfl l1 ?_
  refine l_arg (j := 1) cx ly l0 l4 rfl (by omega) (by decide) (pc := 173) (by decide +kernel) (by decide +kernel) (by decide +kernel) (by decide +kernel) (by decide +kernel) ?_
  refine lv_i2l cx.1.1 cx.1.2.1 (pc := 179) (by decide +kernel) rfl ?_
  refine lv_bipush cx.1.1 cx.1.2.1 (n := 32) (v := 32) (pc := 180) (by decide +kernel) (by decide) ?_
  refine lv_lshl cx.1.1 cx.1.2.1 (pc := 182) (by decide +kernel) rfl ?_
  refine l_arg (j := 2) cx ly l0 l4 rfl (by omega) (by decide) (pc := 183) (by decide +kernel) (by decide +kernel) (by decide +kernel) (by decide +kernel) (by decide +kernel) ?_
  refine lv_i2l cx.1.1 cx.1.2.1 (pc := 189) (by decide +kernel) rfl ?_
  refine lv_ldc2 cx.1.1 cx.1.2.1 (own := "IceParliamentLaw") (index := 19) (v := 4294967295) cx.1.2.2.2.1 (cx.1.2.2.2.2.1 _ (in_t9 (List.mem_of_getElem? (i := 179) rfl) rfl)) (pc := 190) (by decide +kernel) ?_
  refine lv_land cx.1.1 cx.1.2.1 (pc := 193) (by decide +kernel) ?_
  refine lv_lor cx.1.1 cx.1.2.1 (pc := 194) (by decide +kernel) ?_
  refine l_arg (j := 3) cx ly l0 l4 rfl (by omega) (by decide) (pc := 195) (by decide +kernel) (by decide +kernel) (by decide +kernel) (by decide +kernel) (by decide +kernel) ?_
  refine lv_i2l cx.1.1 cx.1.2.1 (pc := 201) (by decide +kernel) rfl ?_
  refine lv_bipush cx.1.1 cx.1.2.1 (n := 32) (v := 32) (pc := 202) (by decide +kernel) (by decide) ?_
  refine lv_lshl cx.1.1 cx.1.2.1 (pc := 204) (by decide +kernel) rfl ?_
  refine l_arg (j := 4) cx ly l0 l4 rfl (by omega) (by decide) (pc := 205) (by decide +kernel) (by decide +kernel) (by decide +kernel) (by decide +kernel) (by decide +kernel) ?_
  refine lv_i2l cx.1.1 cx.1.2.1 (pc := 211) (by decide +kernel) rfl ?_
  refine lv_ldc2 cx.1.1 cx.1.2.1 (own := "IceParliamentLaw") (index := 19) (v := 4294967295) cx.1.2.2.2.1 (cx.1.2.2.2.2.1 _ (in_t9 (List.mem_of_getElem? (i := 179) rfl) rfl)) (pc := 212) (by decide +kernel) ?_
  refine lv_land cx.1.1 cx.1.2.1 (pc := 215) (by decide +kernel) ?_
  refine lv_lor cx.1.1 cx.1.2.1 (pc := 216) (by decide +kernel) ?_
  refine l_arg (j := 5) cx ly l0 l4 rfl (by omega) (by decide) (pc := 217) (by decide +kernel) (by decide +kernel) (by decide +kernel) (by decide +kernel) (by decide +kernel) ?_
  refine lv_i2l cx.1.1 cx.1.2.1 (pc := 223) (by decide +kernel) rfl ?_
  refine lv_bipush cx.1.1 cx.1.2.1 (n := 32) (v := 32) (pc := 224) (by decide +kernel) (by decide) ?_
  refine lv_lshl cx.1.1 cx.1.2.1 (pc := 226) (by decide +kernel) rfl ?_
  refine l_arg6 cx ly l0 l4 rfl (by omega) (pc := 227) (by decide +kernel) (by decide +kernel) (by decide +kernel) (by decide +kernel) (by decide +kernel) ?_
  refine lv_i2l cx.1.1 cx.1.2.1 (pc := 234) (by decide +kernel) rfl ?_
  refine lv_ldc2 cx.1.1 cx.1.2.1 (own := "IceParliamentLaw") (index := 19) (v := 4294967295) cx.1.2.2.2.1 (cx.1.2.2.2.2.1 _ (in_t9 (List.mem_of_getElem? (i := 179) rfl) rfl)) (pc := 235) (by decide +kernel) ?_
  refine lv_land cx.1.1 cx.1.2.1 (pc := 238) (by decide +kernel) ?_
  refine lv_lor cx.1.1 cx.1.2.1 (pc := 239) (by decide +kernel) ?_
  refine l_ev (x := 6) (tg := 11) (k := 0) (index := 21) (as := [vJ (((xs (i + 1)).toInt64 <<< ((32 : Int32).toInt64 &&& 63)) ||| ((xs (i + 2)).toInt64 &&& 4294967295)), vJ (((xs (i + 3)).toInt64 <<< ((32 : Int32).toInt64 &&& 63)) ||| ((xs (i + 4)).toInt64 &&& 4294967295)), vJ (((xs (i + 5)).toInt64 <<< ((32 : Int32).toInt64 &&& 63)) ||| ((xs (i + 6)).toInt64 &&& 4294967295))]) (ρ := ρ) rfl ev1 (by decide +kernel) (by decide) rfl (by decide) (vok_J (vok_J (vok_J vok_nil))) cx ly z7 (in_t3 (List.mem_of_getElem? (i := 67) rfl) rfl) rfl hc (Nat.le_of_ble_eq_true rfl) (pc := 240) (by decide +kernel) (fun H1 locs1 ly => ?_)
  refine lv_aload_n cx.1.1 cx.1.2.1 (k := 2) (pc := 243) (by decide +kernel) rfl l2 ?_
  refine l_arg (j := 1) cx ly l0 l4 rfl (by omega) (by decide) (pc := 244) (by decide +kernel) (by decide +kernel) (by decide +kernel) (by decide +kernel) (by decide +kernel) ?_
  refine lv_i2l cx.1.1 cx.1.2.1 (pc := 250) (by decide +kernel) rfl ?_
  refine lv_bipush cx.1.1 cx.1.2.1 (n := 32) (v := 32) (pc := 251) (by decide +kernel) (by decide) ?_
  refine lv_lshl cx.1.1 cx.1.2.1 (pc := 253) (by decide +kernel) rfl ?_
  refine l_arg (j := 2) cx ly l0 l4 rfl (by omega) (by decide) (pc := 254) (by decide +kernel) (by decide +kernel) (by decide +kernel) (by decide +kernel) (by decide +kernel) ?_
  refine lv_i2l cx.1.1 cx.1.2.1 (pc := 260) (by decide +kernel) rfl ?_
  refine lv_ldc2 cx.1.1 cx.1.2.1 (own := "IceParliamentLaw") (index := 19) (v := 4294967295) cx.1.2.2.2.1 (cx.1.2.2.2.2.1 _ (in_t9 (List.mem_of_getElem? (i := 179) rfl) rfl)) (pc := 261) (by decide +kernel) ?_
  refine lv_land cx.1.1 cx.1.2.1 (pc := 264) (by decide +kernel) ?_
  refine lv_lor cx.1.1 cx.1.2.1 (pc := 265) (by decide +kernel) ?_
  refine l_arg (j := 3) cx ly l0 l4 rfl (by omega) (by decide) (pc := 266) (by decide +kernel) (by decide +kernel) (by decide +kernel) (by decide +kernel) (by decide +kernel) ?_
  refine lv_i2l cx.1.1 cx.1.2.1 (pc := 272) (by decide +kernel) rfl ?_
  refine lv_bipush cx.1.1 cx.1.2.1 (n := 32) (v := 32) (pc := 273) (by decide +kernel) (by decide) ?_
  refine lv_lshl cx.1.1 cx.1.2.1 (pc := 275) (by decide +kernel) rfl ?_
  refine l_arg (j := 4) cx ly l0 l4 rfl (by omega) (by decide) (pc := 276) (by decide +kernel) (by decide +kernel) (by decide +kernel) (by decide +kernel) (by decide +kernel) ?_
  refine lv_i2l cx.1.1 cx.1.2.1 (pc := 282) (by decide +kernel) rfl ?_
  refine lv_ldc2 cx.1.1 cx.1.2.1 (own := "IceParliamentLaw") (index := 19) (v := 4294967295) cx.1.2.2.2.1 (cx.1.2.2.2.2.1 _ (in_t9 (List.mem_of_getElem? (i := 179) rfl) rfl)) (pc := 283) (by decide +kernel) ?_
  refine lv_land cx.1.1 cx.1.2.1 (pc := 286) (by decide +kernel) ?_
  refine lv_lor cx.1.1 cx.1.2.1 (pc := 287) (by decide +kernel) ?_
  refine l_arg (j := 5) cx ly l0 l4 rfl (by omega) (by decide) (pc := 288) (by decide +kernel) (by decide +kernel) (by decide +kernel) (by decide +kernel) (by decide +kernel) ?_
  refine lv_i2l cx.1.1 cx.1.2.1 (pc := 294) (by decide +kernel) rfl ?_
  refine lv_bipush cx.1.1 cx.1.2.1 (n := 32) (v := 32) (pc := 295) (by decide +kernel) (by decide) ?_
  refine lv_lshl cx.1.1 cx.1.2.1 (pc := 297) (by decide +kernel) rfl ?_
  refine l_arg6 cx ly l0 l4 rfl (by omega) (pc := 298) (by decide +kernel) (by decide +kernel) (by decide +kernel) (by decide +kernel) (by decide +kernel) ?_
  refine lv_i2l cx.1.1 cx.1.2.1 (pc := 305) (by decide +kernel) rfl ?_
  refine lv_ldc2 cx.1.1 cx.1.2.1 (own := "IceParliamentLaw") (index := 19) (v := 4294967295) cx.1.2.2.2.1 (cx.1.2.2.2.2.1 _ (in_t9 (List.mem_of_getElem? (i := 179) rfl) rfl)) (pc := 306) (by decide +kernel) ?_
  refine lv_land cx.1.1 cx.1.2.1 (pc := 309) (by decide +kernel) ?_
  refine lv_lor cx.1.1 cx.1.2.1 (pc := 310) (by decide +kernel) ?_
  refine l_ev (x := 192) (tg := 12) (k := 253) (index := 25) (as := [vJ (((xs (i + 1)).toInt64 <<< ((32 : Int32).toInt64 &&& 63)) ||| ((xs (i + 2)).toInt64 &&& 4294967295)), vJ (((xs (i + 3)).toInt64 <<< ((32 : Int32).toInt64 &&& 63)) ||| ((xs (i + 4)).toInt64 &&& 4294967295)), vJ (((xs (i + 5)).toInt64 <<< ((32 : Int32).toInt64 &&& 63)) ||| ((xs (i + 6)).toInt64 &&& 4294967295))]) (ρ := ρ) rfl ev2 (by decide +kernel) (by decide) rfl (by decide) (vok_J (vok_J (vok_J vok_nil))) cx ly z7 (in_t7 (List.mem_of_getElem? (i := 41) rfl) rfl) rfl hc (Nat.le_of_ble_eq_true rfl) (pc := 311) (by decide +kernel) (fun H1 locs1 ly => ?_)
  refine lv_icmp_eq cx.1.1 cx.1.2.1 (off := 848) (tgt := 1162) (pc := 314) (by decide +kernel) (by decide) (fun _ => ?_) (fun hno => absurd rfl hno)
  exact kk _ _ _ ly (inv2.le (by omega) (by omega))
theorem lc_1 (cx : LZ p s m meth c dC dI cA ρ b L xs) (ly : LY s dC dI cA ρ M H locs) (hi : Inv t M) (ht : t + 1 < 10000) (hl : LVs ls ρ b i) (hij : i + 7 ≤ L) (hc : cells ≤ 601024 ∧ slots ≤ 7293034) (kk : ∀ M' H' locs', LY s dC dI cA ρ M' H' locs' → Inv (t + 1) M' → W p l e room_1 s m #[Value.ref b] below meth c H' locs' cells slots Q (F0 m 1162 ls [])) : W p l e room_1 s m #[Value.ref b] below meth c H locs cells slots Q (F0 m 319 ls []) := by
  obtain ⟨z7, l0, l1, l2, l3, l4⟩ := hl.all
  obtain ⟨r1, M1, ev1, v, hr1, r2, M2, ev2, hr2, inv2⟩ := (show Two t t 8 199 [vR 11 0 0] [vR 12 0 253] from two_yard) M hi
  subst hr1
  subst hr2
  refine lv_aload_n cx.1.1 cx.1.2.1 (k := 1) (pc := 319) (by decide +kernel) rfl l1 ?_
  refine l_ev (x := 8) (tg := 11) (k := 0) (index := 26) (as := []) (ρ := ρ) rfl ev1 (by decide +kernel) (by decide) rfl (by decide) vok_nil cx ly z7 (in_t3 (List.mem_of_getElem? (i := 75) rfl) rfl) rfl hc (Nat.le_of_ble_eq_true rfl) (pc := 320) (by decide +kernel) (fun H1 locs1 ly => ?_)
  refine lv_aload_n cx.1.1 cx.1.2.1 (k := 2) (pc := 323) (by decide +kernel) rfl l2 ?_
  refine l_ev (x := 199) (tg := 12) (k := 253) (index := 30) (as := []) (ρ := ρ) rfl ev2 (by decide +kernel) (by decide) rfl (by decide) vok_nil cx ly z7 (in_t7 (List.mem_of_getElem? (i := 230) rfl) rfl) rfl hc (Nat.le_of_ble_eq_true rfl) (pc := 324) (by decide +kernel) (fun H1 locs1 ly => ?_)
  refine lv_icmp_eq cx.1.1 cx.1.2.1 (off := 835) (tgt := 1162) (pc := 327) (by decide +kernel) (by decide) (fun _ => ?_) (fun hno => absurd rfl hno)
  exact kk _ _ _ ly (inv2.le (by omega) (by omega))
theorem lc_2 (cx : LZ p s m meth c dC dI cA ρ b L xs) (ly : LY s dC dI cA ρ M H locs) (hi : Inv t M) (ht : t + 1 < 10000) (hl : LVs ls ρ b i) (hij : i + 7 ≤ L) (hc : cells ≤ 601024 ∧ slots ≤ 7293034) (kk : ∀ M' H' locs', LY s dC dI cA ρ M' H' locs' → Inv (t + 1) M' → W p l e room_1 s m #[Value.ref b] below meth c H' locs' cells slots Q (F0 m 1162 ls [])) : W p l e room_1 s m #[Value.ref b] below meth c H locs cells slots Q (F0 m 332 ls []) := by
  obtain ⟨z7, l0, l1, l2, l3, l4⟩ := hl.all
  obtain ⟨r1, M1, ev1, v, hr1, r2, M2, ev2, hr2, inv2⟩ := (show Two t t 87 235 [vR 11 0 0] [vR 12 0 253] from two_session) M hi
  subst hr1
  subst hr2
  refine lv_aload_n cx.1.1 cx.1.2.1 (k := 1) (pc := 332) (by decide +kernel) rfl l1 ?_
  refine l_ev (x := 87) (tg := 11) (k := 0) (index := 31) (as := []) (ρ := ρ) rfl ev1 (by decide +kernel) (by decide) rfl (by decide) vok_nil cx ly z7 (in_t4 (List.mem_of_getElem? (i := 208) rfl) rfl) rfl hc (Nat.le_of_ble_eq_true rfl) (pc := 333) (by decide +kernel) (fun H1 locs1 ly => ?_)
  refine lv_aload_n cx.1.1 cx.1.2.1 (k := 2) (pc := 336) (by decide +kernel) rfl l2 ?_
  refine l_ev (x := 235) (tg := 12) (k := 253) (index := 34) (as := []) (ρ := ρ) rfl ev2 (by decide +kernel) (by decide) rfl (by decide) vok_nil cx ly z7 (in_t8 (List.mem_of_getElem? (i := 132) rfl) rfl) rfl hc (Nat.le_of_ble_eq_true rfl) (pc := 337) (by decide +kernel) (fun H1 locs1 ly => ?_)
  refine lv_icmp_eq cx.1.1 cx.1.2.1 (off := 822) (tgt := 1162) (pc := 340) (by decide +kernel) (by decide) (fun _ => ?_) (fun hno => absurd rfl hno)
  exact kk _ _ _ ly (inv2.le (by omega) (by omega))
theorem lc_3 (cx : LZ p s m meth c dC dI cA ρ b L xs) (ly : LY s dC dI cA ρ M H locs) (hi : Inv t M) (ht : t + 1 < 10000) (hl : LVs ls ρ b i) (hij : i + 7 ≤ L) (hc : cells ≤ 601024 ∧ slots ≤ 7293034) (kk : ∀ M' H' locs', LY s dC dI cA ρ M' H' locs' → Inv (t + 1) M' → W p l e room_1 s m #[Value.ref b] below meth c H' locs' cells slots Q (F0 m 1162 ls [])) : W p l e room_1 s m #[Value.ref b] below meth c H locs cells slots Q (F0 m 345 ls []) := by
  obtain ⟨z7, l0, l1, l2, l3, l4⟩ := hl.all
  obtain ⟨r1, M1, ev1, v, hr1, r2, M2, ev2, hr2, inv2⟩ := (show Two t t 93 236 [vR 11 0 0, vI (xs (i + 1)), vI (xs (i + 2))] [vR 12 0 253, vI (xs (i + 1)), vI (xs (i + 2))] from Two_ro (fun Y N hn hG hs => ro_act hn hs)) M hi
  subst hr1
  subst hr2
  refine lv_aload_n cx.1.1 cx.1.2.1 (k := 1) (pc := 345) (by decide +kernel) rfl l1 ?_
  refine l_arg (j := 1) cx ly l0 l4 rfl (by omega) (by decide) (pc := 346) (by decide +kernel) (by decide +kernel) (by decide +kernel) (by decide +kernel) (by decide +kernel) ?_
  refine l_arg (j := 2) cx ly l0 l4 rfl (by omega) (by decide) (pc := 352) (by decide +kernel) (by decide +kernel) (by decide +kernel) (by decide +kernel) (by decide +kernel) ?_
  refine l_ev (x := 93) (tg := 11) (k := 0) (index := 35) (as := [vI (xs (i + 1)), vI (xs (i + 2))]) (ρ := ρ) rfl ev1 (by decide +kernel) (by decide) rfl (by decide) (vok_I (vok_I vok_nil)) cx ly z7 (in_t5 (List.mem_of_getElem? (i := 5) rfl) rfl) rfl hc (Nat.le_of_ble_eq_true rfl) (pc := 358) (by decide +kernel) (fun H1 locs1 ly => ?_)
  refine lv_aload_n cx.1.1 cx.1.2.1 (k := 2) (pc := 361) (by decide +kernel) rfl l2 ?_
  refine l_arg (j := 1) cx ly l0 l4 rfl (by omega) (by decide) (pc := 362) (by decide +kernel) (by decide +kernel) (by decide +kernel) (by decide +kernel) (by decide +kernel) ?_
  refine l_arg (j := 2) cx ly l0 l4 rfl (by omega) (by decide) (pc := 368) (by decide +kernel) (by decide +kernel) (by decide +kernel) (by decide +kernel) (by decide +kernel) ?_
  refine l_ev (x := 236) (tg := 12) (k := 253) (index := 39) (as := [vI (xs (i + 1)), vI (xs (i + 2))]) (ρ := ρ) rfl ev2 (by decide +kernel) (by decide) rfl (by decide) (vok_I (vok_I vok_nil)) cx ly z7 (in_t8 (List.mem_of_getElem? (i := 136) rfl) rfl) rfl hc (Nat.le_of_ble_eq_true rfl) (pc := 374) (by decide +kernel) (fun H1 locs1 ly => ?_)
  refine lv_icmp_eq cx.1.1 cx.1.2.1 (off := 785) (tgt := 1162) (pc := 377) (by decide +kernel) (by decide) (fun _ => ?_) (fun hno => absurd rfl hno)
  exact kk _ _ _ ly (inv2.le (by omega) (by omega))
theorem lc_4 (cx : LZ p s m meth c dC dI cA ρ b L xs) (ly : LY s dC dI cA ρ M H locs) (hi : Inv t M) (ht : t + 1 < 10000) (hl : LVs ls ρ b i) (hij : i + 7 ≤ L) (hc : cells ≤ 601024 ∧ slots ≤ 7293034) (kk : ∀ M' H' locs', LY s dC dI cA ρ M' H' locs' → Inv (t + 1) M' → W p l e room_1 s m #[Value.ref b] below meth c H' locs' cells slots Q (F0 m 1162 ls [])) : W p l e room_1 s m #[Value.ref b] below meth c H locs cells slots Q (F0 m 382 ls []) := by
  obtain ⟨z7, l0, l1, l2, l3, l4⟩ := hl.all
  obtain ⟨r1, M1, ev1, v, hr1, r2, M2, ev2, hr2, inv2⟩ := (show Two t t 107 246 [vR 11 0 0, vI (xs (i + 1)), vI (xs (i + 2))] [vR 12 0 253, vI (xs (i + 1)), vI (xs (i + 2))] from Two_ro (fun Y N hn hG hs => ro_carver hn hs)) M hi
  subst hr1
  subst hr2
  refine lv_aload_n cx.1.1 cx.1.2.1 (k := 1) (pc := 382) (by decide +kernel) rfl l1 ?_
  refine l_arg (j := 1) cx ly l0 l4 rfl (by omega) (by decide) (pc := 383) (by decide +kernel) (by decide +kernel) (by decide +kernel) (by decide +kernel) (by decide +kernel) ?_
  refine l_arg (j := 2) cx ly l0 l4 rfl (by omega) (by decide) (pc := 389) (by decide +kernel) (by decide +kernel) (by decide +kernel) (by decide +kernel) (by decide +kernel) ?_
  refine l_ev (x := 107) (tg := 11) (k := 0) (index := 40) (as := [vI (xs (i + 1)), vI (xs (i + 2))]) (ρ := ρ) rfl ev1 (by decide +kernel) (by decide) rfl (by decide) (vok_I (vok_I vok_nil)) cx ly z7 (in_t5 (List.mem_of_getElem? (i := 64) rfl) rfl) rfl hc (Nat.le_of_ble_eq_true rfl) (pc := 395) (by decide +kernel) (fun H1 locs1 ly => ?_)
  refine lv_aload_n cx.1.1 cx.1.2.1 (k := 2) (pc := 398) (by decide +kernel) rfl l2 ?_
  refine l_arg (j := 1) cx ly l0 l4 rfl (by omega) (by decide) (pc := 399) (by decide +kernel) (by decide +kernel) (by decide +kernel) (by decide +kernel) (by decide +kernel) ?_
  refine l_arg (j := 2) cx ly l0 l4 rfl (by omega) (by decide) (pc := 405) (by decide +kernel) (by decide +kernel) (by decide +kernel) (by decide +kernel) (by decide +kernel) ?_
  refine l_ev (x := 246) (tg := 12) (k := 253) (index := 43) (as := [vI (xs (i + 1)), vI (xs (i + 2))]) (ρ := ρ) rfl ev2 (by decide +kernel) (by decide) rfl (by decide) (vok_I (vok_I vok_nil)) cx ly z7 (in_t8 (List.mem_of_getElem? (i := 175) rfl) rfl) rfl hc (Nat.le_of_ble_eq_true rfl) (pc := 411) (by decide +kernel) (fun H1 locs1 ly => ?_)
  refine lv_icmp_eq cx.1.1 cx.1.2.1 (off := 748) (tgt := 1162) (pc := 414) (by decide +kernel) (by decide) (fun _ => ?_) (fun hno => absurd rfl hno)
  exact kk _ _ _ ly (inv2.le (by omega) (by omega))
theorem lc_5 (cx : LZ p s m meth c dC dI cA ρ b L xs) (ly : LY s dC dI cA ρ M H locs) (hi : Inv t M) (ht : t + 1 < 10000) (hl : LVs ls ρ b i) (hij : i + 7 ≤ L) (hc : cells ≤ 601024 ∧ slots ≤ 7293034) (kk : ∀ M' H' locs', LY s dC dI cA ρ M' H' locs' → Inv (t + 1) M' → W p l e room_1 s m #[Value.ref b] below meth c H' locs' cells slots Q (F0 m 1162 ls [])) : W p l e room_1 s m #[Value.ref b] below meth c H locs cells slots Q (F0 m 419 ls []) := by
  obtain ⟨z7, l0, l1, l2, l3, l4⟩ := hl.all
  obtain ⟨r1, M1, ev1, v, hr1, r2, M2, ev2, hr2, inv2⟩ := (show Two t t 109 249 [vR 11 0 0] [vR 12 0 253] from Two_ro (fun Y N hn hG hs => ro_force)) M hi
  subst hr1
  subst hr2
  refine lv_aload_n cx.1.1 cx.1.2.1 (k := 1) (pc := 419) (by decide +kernel) rfl l1 ?_
  refine l_ev (x := 109) (tg := 11) (k := 0) (index := 44) (as := []) (ρ := ρ) rfl ev1 (by decide +kernel) (by decide) rfl (by decide) vok_nil cx ly z7 (in_t5 (List.mem_of_getElem? (i := 72) rfl) rfl) rfl hc (Nat.le_of_ble_eq_true rfl) (pc := 420) (by decide +kernel) (fun H1 locs1 ly => ?_)
  refine lv_aload_n cx.1.1 cx.1.2.1 (k := 2) (pc := 423) (by decide +kernel) rfl l2 ?_
  refine l_ev (x := 249) (tg := 12) (k := 253) (index := 47) (as := []) (ρ := ρ) rfl ev2 (by decide +kernel) (by decide) rfl (by decide) vok_nil cx ly z7 (in_t8 (List.mem_of_getElem? (i := 187) rfl) rfl) rfl hc (Nat.le_of_ble_eq_true rfl) (pc := 424) (by decide +kernel) (fun H1 locs1 ly => ?_)
  refine lv_icmp_eq cx.1.1 cx.1.2.1 (off := 735) (tgt := 1162) (pc := 427) (by decide +kernel) (by decide) (fun _ => ?_) (fun hno => absurd rfl hno)
  exact kk _ _ _ ly (inv2.le (by omega) (by omega))
theorem lc_6 (cx : LZ p s m meth c dC dI cA ρ b L xs) (ly : LY s dC dI cA ρ M H locs) (hi : Inv t M) (ht : t + 1 < 10000) (hl : LVs ls ρ b i) (hij : i + 7 ≤ L) (hc : cells ≤ 601024 ∧ slots ≤ 7293034) (kk : ∀ M' H' locs', LY s dC dI cA ρ M' H' locs' → Inv (t + 1) M' → W p l e room_1 s m #[Value.ref b] below meth c H' locs' cells slots Q (F0 m 1162 ls [])) : W p l e room_1 s m #[Value.ref b] below meth c H locs cells slots Q (F0 m 432 ls []) := by
  obtain ⟨z7, l0, l1, l2, l3, l4⟩ := hl.all
  obtain ⟨r1, M1, ev1, v, hr1, r2, M2, ev2, hr2, inv2⟩ := (show Two t t 111 251 [vR 11 0 0, vI (xs (i + 1))] [vR 12 0 253, vI (xs (i + 1))] from Two_ro (fun Y N hn hG hs => ro_side hn)) M hi
  subst hr1
  subst hr2
  refine lv_aload_n cx.1.1 cx.1.2.1 (k := 1) (pc := 432) (by decide +kernel) rfl l1 ?_
  refine l_arg (j := 1) cx ly l0 l4 rfl (by omega) (by decide) (pc := 433) (by decide +kernel) (by decide +kernel) (by decide +kernel) (by decide +kernel) (by decide +kernel) ?_
  refine l_ev (x := 111) (tg := 11) (k := 0) (index := 48) (as := [vI (xs (i + 1))]) (ρ := ρ) rfl ev1 (by decide +kernel) (by decide) rfl (by decide) (vok_I vok_nil) cx ly z7 (in_t5 (List.mem_of_getElem? (i := 81) rfl) rfl) rfl hc (Nat.le_of_ble_eq_true rfl) (pc := 439) (by decide +kernel) (fun H1 locs1 ly => ?_)
  refine lv_aload_n cx.1.1 cx.1.2.1 (k := 2) (pc := 442) (by decide +kernel) rfl l2 ?_
  refine l_arg (j := 1) cx ly l0 l4 rfl (by omega) (by decide) (pc := 443) (by decide +kernel) (by decide +kernel) (by decide +kernel) (by decide +kernel) (by decide +kernel) ?_
  refine l_ev (x := 251) (tg := 12) (k := 253) (index := 52) (as := [vI (xs (i + 1))]) (ρ := ρ) rfl ev2 (by decide +kernel) (by decide) rfl (by decide) (vok_I vok_nil) cx ly z7 (in_t8 (List.mem_of_getElem? (i := 195) rfl) rfl) rfl hc (Nat.le_of_ble_eq_true rfl) (pc := 449) (by decide +kernel) (fun H1 locs1 ly => ?_)
  refine lv_icmp_eq cx.1.1 cx.1.2.1 (off := 710) (tgt := 1162) (pc := 452) (by decide +kernel) (by decide) (fun _ => ?_) (fun hno => absurd rfl hno)
  exact kk _ _ _ ly (inv2.le (by omega) (by omega))
theorem lc_7 (cx : LZ p s m meth c dC dI cA ρ b L xs) (ly : LY s dC dI cA ρ M H locs) (hi : Inv t M) (ht : t + 1 < 10000) (hl : LVs ls ρ b i) (hij : i + 7 ≤ L) (hc : cells ≤ 601024 ∧ slots ≤ 7293034) (kk : ∀ M' H' locs', LY s dC dI cA ρ M' H' locs' → Inv (t + 1) M' → W p l e room_1 s m #[Value.ref b] below meth c H' locs' cells slots Q (F0 m 1162 ls [])) : W p l e room_1 s m #[Value.ref b] below meth c H locs cells slots Q (F0 m 457 ls []) := by
  obtain ⟨z7, l0, l1, l2, l3, l4⟩ := hl.all
  obtain ⟨r1, M1, ev1, v, hr1, r2, M2, ev2, hr2, inv2⟩ := (show Two t t 116 253 [vR 11 0 0, vI (xs (i + 1)), vI (xs (i + 2))] [vR 12 0 253, vI (xs (i + 1)), vI (xs (i + 2))] from two_begin) M hi
  subst hr1
  subst hr2
  refine lv_aload_n cx.1.1 cx.1.2.1 (k := 1) (pc := 457) (by decide +kernel) rfl l1 ?_
  refine l_arg (j := 1) cx ly l0 l4 rfl (by omega) (by decide) (pc := 458) (by decide +kernel) (by decide +kernel) (by decide +kernel) (by decide +kernel) (by decide +kernel) ?_
  refine l_arg (j := 2) cx ly l0 l4 rfl (by omega) (by decide) (pc := 464) (by decide +kernel) (by decide +kernel) (by decide +kernel) (by decide +kernel) (by decide +kernel) ?_
  refine l_ev (x := 116) (tg := 11) (k := 0) (index := 53) (as := [vI (xs (i + 1)), vI (xs (i + 2))]) (ρ := ρ) rfl ev1 (by decide +kernel) (by decide) rfl (by decide) (vok_I (vok_I vok_nil)) cx ly z7 (in_t5 (List.mem_of_getElem? (i := 105) rfl) rfl) rfl hc (Nat.le_of_ble_eq_true rfl) (pc := 470) (by decide +kernel) (fun H1 locs1 ly => ?_)
  refine lv_aload_n cx.1.1 cx.1.2.1 (k := 2) (pc := 473) (by decide +kernel) rfl l2 ?_
  refine l_arg (j := 1) cx ly l0 l4 rfl (by omega) (by decide) (pc := 474) (by decide +kernel) (by decide +kernel) (by decide +kernel) (by decide +kernel) (by decide +kernel) ?_
  refine l_arg (j := 2) cx ly l0 l4 rfl (by omega) (by decide) (pc := 480) (by decide +kernel) (by decide +kernel) (by decide +kernel) (by decide +kernel) (by decide +kernel) ?_
  refine l_ev (x := 253) (tg := 12) (k := 253) (index := 57) (as := [vI (xs (i + 1)), vI (xs (i + 2))]) (ρ := ρ) rfl ev2 (by decide +kernel) (by decide) rfl (by decide) (vok_I (vok_I vok_nil)) cx ly z7 (in_t8 (List.mem_of_getElem? (i := 203) rfl) rfl) rfl hc (Nat.le_of_ble_eq_true rfl) (pc := 486) (by decide +kernel) (fun H1 locs1 ly => ?_)
  refine lv_icmp_eq cx.1.1 cx.1.2.1 (off := 673) (tgt := 1162) (pc := 489) (by decide +kernel) (by decide) (fun _ => ?_) (fun hno => absurd rfl hno)
  exact kk _ _ _ ly (inv2.le (by omega) (by omega))
theorem lc_8 (cx : LZ p s m meth c dC dI cA ρ b L xs) (ly : LY s dC dI cA ρ M H locs) (hi : Inv t M) (ht : t + 1 < 10000) (hl : LVs ls ρ b i) (hij : i + 7 ≤ L) (hc : cells ≤ 601024 ∧ slots ≤ 7293034) (kk : ∀ M' H' locs', LY s dC dI cA ρ M' H' locs' → Inv (t + 1) M' → W p l e room_1 s m #[Value.ref b] below meth c H' locs' cells slots Q (F0 m 1162 ls [])) : W p l e room_1 s m #[Value.ref b] below meth c H locs cells slots Q (F0 m 494 ls []) := by
  obtain ⟨z7, l0, l1, l2, l3, l4⟩ := hl.all
  obtain ⟨r1, M1, ev1, v, hr1, r2, M2, ev2, hr2, inv2⟩ := (show Two t t 123 261 [vR 11 0 0, vI (xs (i + 1)), vI (xs (i + 2))] [vR 12 0 253, vI (xs (i + 1)), vI (xs (i + 2))] from two_carve) M hi
  subst hr1
  subst hr2
  refine lv_aload_n cx.1.1 cx.1.2.1 (k := 1) (pc := 494) (by decide +kernel) rfl l1 ?_
  refine l_arg (j := 1) cx ly l0 l4 rfl (by omega) (by decide) (pc := 495) (by decide +kernel) (by decide +kernel) (by decide +kernel) (by decide +kernel) (by decide +kernel) ?_
  refine l_arg (j := 2) cx ly l0 l4 rfl (by omega) (by decide) (pc := 501) (by decide +kernel) (by decide +kernel) (by decide +kernel) (by decide +kernel) (by decide +kernel) ?_
  refine l_ev (x := 123) (tg := 11) (k := 0) (index := 58) (as := [vI (xs (i + 1)), vI (xs (i + 2))]) (ρ := ρ) rfl ev1 (by decide +kernel) (by decide) rfl (by decide) (vok_I (vok_I vok_nil)) cx ly z7 (in_t5 (List.mem_of_getElem? (i := 133) rfl) rfl) rfl hc (Nat.le_of_ble_eq_true rfl) (pc := 507) (by decide +kernel) (fun H1 locs1 ly => ?_)
  refine lv_aload_n cx.1.1 cx.1.2.1 (k := 2) (pc := 510) (by decide +kernel) rfl l2 ?_
  refine l_arg (j := 1) cx ly l0 l4 rfl (by omega) (by decide) (pc := 511) (by decide +kernel) (by decide +kernel) (by decide +kernel) (by decide +kernel) (by decide +kernel) ?_
  refine l_arg (j := 2) cx ly l0 l4 rfl (by omega) (by decide) (pc := 517) (by decide +kernel) (by decide +kernel) (by decide +kernel) (by decide +kernel) (by decide +kernel) ?_
  refine l_ev (x := 261) (tg := 12) (k := 253) (index := 61) (as := [vI (xs (i + 1)), vI (xs (i + 2))]) (ρ := ρ) rfl ev2 (by decide +kernel) (by decide) rfl (by decide) (vok_I (vok_I vok_nil)) cx ly z7 (in_t8 (List.mem_of_getElem? (i := 235) rfl) rfl) rfl hc (Nat.le_of_ble_eq_true rfl) (pc := 523) (by decide +kernel) (fun H1 locs1 ly => ?_)
  refine lv_icmp_eq cx.1.1 cx.1.2.1 (off := 636) (tgt := 1162) (pc := 526) (by decide +kernel) (by decide) (fun _ => ?_) (fun hno => absurd rfl hno)
  exact kk _ _ _ ly (inv2.le (by omega) (by omega))
theorem lc_9 (cx : LZ p s m meth c dC dI cA ρ b L xs) (ly : LY s dC dI cA ρ M H locs) (hi : Inv t M) (ht : t + 1 < 10000) (hl : LVs ls ρ b i) (hij : i + 7 ≤ L) (hc : cells ≤ 601024 ∧ slots ≤ 7293034) (kk : ∀ M' H' locs', LY s dC dI cA ρ M' H' locs' → Inv (t + 1) M' → W p l e room_1 s m #[Value.ref b] below meth c H' locs' cells slots Q (F0 m 1162 ls [])) : W p l e room_1 s m #[Value.ref b] below meth c H locs cells slots Q (F0 m 531 ls []) := by
  obtain ⟨z7, l0, l1, l2, l3, l4⟩ := hl.all
  obtain ⟨r1, M1, ev1, v, hr1, r2, M2, ev2, hr2, inv2⟩ := (show Two t t 127 264 [vR 11 0 0, vI (xs (i + 1))] [vR 12 0 253, vI (xs (i + 1))] from two_prop) M hi
  subst hr1
  subst hr2
  refine lv_aload_n cx.1.1 cx.1.2.1 (k := 1) (pc := 531) (by decide +kernel) rfl l1 ?_
  refine l_arg (j := 1) cx ly l0 l4 rfl (by omega) (by decide) (pc := 532) (by decide +kernel) (by decide +kernel) (by decide +kernel) (by decide +kernel) (by decide +kernel) ?_
  refine l_ev (x := 127) (tg := 11) (k := 0) (index := 62) (as := [vI (xs (i + 1))]) (ρ := ρ) rfl ev1 (by decide +kernel) (by decide) rfl (by decide) (vok_I vok_nil) cx ly z7 (in_t5 (List.mem_of_getElem? (i := 149) rfl) rfl) rfl hc (Nat.le_of_ble_eq_true rfl) (pc := 538) (by decide +kernel) (fun H1 locs1 ly => ?_)
  refine lv_aload_n cx.1.1 cx.1.2.1 (k := 2) (pc := 541) (by decide +kernel) rfl l2 ?_
  refine l_arg (j := 1) cx ly l0 l4 rfl (by omega) (by decide) (pc := 542) (by decide +kernel) (by decide +kernel) (by decide +kernel) (by decide +kernel) (by decide +kernel) ?_
  refine l_ev (x := 264) (tg := 12) (k := 253) (index := 65) (as := [vI (xs (i + 1))]) (ρ := ρ) rfl ev2 (by decide +kernel) (by decide) rfl (by decide) (vok_I vok_nil) cx ly z7 (in_t9 (List.mem_of_getElem? (i := 7) rfl) rfl) rfl hc (Nat.le_of_ble_eq_true rfl) (pc := 548) (by decide +kernel) (fun H1 locs1 ly => ?_)
  refine lv_icmp_eq cx.1.1 cx.1.2.1 (off := 611) (tgt := 1162) (pc := 551) (by decide +kernel) (by decide) (fun _ => ?_) (fun hno => absurd rfl hno)
  exact kk _ _ _ ly (inv2.le (by omega) (by omega))
theorem lc_10 (cx : LZ p s m meth c dC dI cA ρ b L xs) (ly : LY s dC dI cA ρ M H locs) (hi : Inv t M) (ht : t + 1 < 10000) (hl : LVs ls ρ b i) (hij : i + 7 ≤ L) (hc : cells ≤ 601024 ∧ slots ≤ 7293034) (kk : ∀ M' H' locs', LY s dC dI cA ρ M' H' locs' → Inv (t + 1) M' → W p l e room_1 s m #[Value.ref b] below meth c H' locs' cells slots Q (F0 m 1162 ls [])) : W p l e room_1 s m #[Value.ref b] below meth c H locs cells slots Q (F0 m 556 ls []) := by
  obtain ⟨z7, l0, l1, l2, l3, l4⟩ := hl.all
  obtain ⟨r1, M1, ev1, v, hr1, r2, M2, ev2, hr2, inv2⟩ := (show Two t t 129 266 [vR 11 0 0, vI (xs (i + 1))] [vR 12 0 253, vI (xs (i + 1))] from two_torch) M hi
  subst hr1
  subst hr2
  refine lv_aload_n cx.1.1 cx.1.2.1 (k := 1) (pc := 556) (by decide +kernel) rfl l1 ?_
  refine l_arg (j := 1) cx ly l0 l4 rfl (by omega) (by decide) (pc := 557) (by decide +kernel) (by decide +kernel) (by decide +kernel) (by decide +kernel) (by decide +kernel) ?_
  refine l_ev (x := 129) (tg := 11) (k := 0) (index := 66) (as := [vI (xs (i + 1))]) (ρ := ρ) rfl ev1 (by decide +kernel) (by decide) rfl (by decide) (vok_I vok_nil) cx ly z7 (in_t5 (List.mem_of_getElem? (i := 157) rfl) rfl) rfl hc (Nat.le_of_ble_eq_true rfl) (pc := 563) (by decide +kernel) (fun H1 locs1 ly => ?_)
  refine lv_aload_n cx.1.1 cx.1.2.1 (k := 2) (pc := 566) (by decide +kernel) rfl l2 ?_
  refine l_arg (j := 1) cx ly l0 l4 rfl (by omega) (by decide) (pc := 567) (by decide +kernel) (by decide +kernel) (by decide +kernel) (by decide +kernel) (by decide +kernel) ?_
  refine l_ev (x := 266) (tg := 12) (k := 253) (index := 69) (as := [vI (xs (i + 1))]) (ρ := ρ) rfl ev2 (by decide +kernel) (by decide) rfl (by decide) (vok_I vok_nil) cx ly z7 (in_t9 (List.mem_of_getElem? (i := 15) rfl) rfl) rfl hc (Nat.le_of_ble_eq_true rfl) (pc := 573) (by decide +kernel) (fun H1 locs1 ly => ?_)
  refine lv_icmp_eq cx.1.1 cx.1.2.1 (off := 586) (tgt := 1162) (pc := 576) (by decide +kernel) (by decide) (fun _ => ?_) (fun hno => absurd rfl hno)
  exact kk _ _ _ ly (inv2.le (by omega) (by omega))
theorem lc_11 (cx : LZ p s m meth c dC dI cA ρ b L xs) (ly : LY s dC dI cA ρ M H locs) (hi : Inv t M) (ht : t + 1 < 10000) (hl : LVs ls ρ b i) (hij : i + 7 ≤ L) (hc : cells ≤ 601024 ∧ slots ≤ 7293034) (kk : ∀ M' H' locs', LY s dC dI cA ρ M' H' locs' → Inv (t + 1) M' → W p l e room_1 s m #[Value.ref b] below meth c H' locs' cells slots Q (F0 m 1162 ls [])) : W p l e room_1 s m #[Value.ref b] below meth c H locs cells slots Q (F0 m 581 ls []) := by
  obtain ⟨z7, l0, l1, l2, l3, l4⟩ := hl.all
  obtain ⟨r1, M1, ev1, v, hr1, r2, M2, ev2, hr2, inv2⟩ := (show Two t (t + 1) 132 268 [vR 11 0 0] [vR 12 0 253] from two_night (by omega)) M hi
  subst hr1
  subst hr2
  refine lv_aload_n cx.1.1 cx.1.2.1 (k := 1) (pc := 581) (by decide +kernel) rfl l1 ?_
  refine l_ev (x := 132) (tg := 11) (k := 0) (index := 70) (as := []) (ρ := ρ) rfl ev1 (by decide +kernel) (by decide) rfl (by decide) vok_nil cx ly z7 (in_t5 (List.mem_of_getElem? (i := 170) rfl) rfl) rfl hc (Nat.le_of_ble_eq_true rfl) (pc := 582) (by decide +kernel) (fun H1 locs1 ly => ?_)
  refine lv_aload_n cx.1.1 cx.1.2.1 (k := 2) (pc := 585) (by decide +kernel) rfl l2 ?_
  refine l_ev (x := 268) (tg := 12) (k := 253) (index := 73) (as := []) (ρ := ρ) rfl ev2 (by decide +kernel) (by decide) rfl (by decide) vok_nil cx ly z7 (in_t9 (List.mem_of_getElem? (i := 23) rfl) rfl) rfl hc (Nat.le_of_ble_eq_true rfl) (pc := 586) (by decide +kernel) (fun H1 locs1 ly => ?_)
  refine lv_icmp_eq cx.1.1 cx.1.2.1 (off := 573) (tgt := 1162) (pc := 589) (by decide +kernel) (by decide) (fun _ => ?_) (fun hno => absurd rfl hno)
  exact kk _ _ _ ly (inv2.le (by omega) (by omega))
theorem lc_12 (cx : LZ p s m meth c dC dI cA ρ b L xs) (ly : LY s dC dI cA ρ M H locs) (hi : Inv t M) (ht : t + 1 < 10000) (hl : LVs ls ρ b i) (hij : i + 7 ≤ L) (hc : cells ≤ 601024 ∧ slots ≤ 7293034) (kk : ∀ M' H' locs', LY s dC dI cA ρ M' H' locs' → Inv (t + 1) M' → W p l e room_1 s m #[Value.ref b] below meth c H' locs' cells slots Q (F0 m 1162 ls [])) : W p l e room_1 s m #[Value.ref b] below meth c H locs cells slots Q (F0 m 594 ls []) := by
  obtain ⟨z7, l0, l1, l2, l3, l4⟩ := hl.all
  obtain ⟨r1, M1, ev1, v, hr1, r2, M2, ev2, hr2, inv2⟩ := (show Two t t 134 271 [vR 11 0 0] [vR 12 0 253] from two_undo) M hi
  subst hr1
  subst hr2
  refine lv_aload_n cx.1.1 cx.1.2.1 (k := 1) (pc := 594) (by decide +kernel) rfl l1 ?_
  refine l_ev (x := 134) (tg := 11) (k := 0) (index := 74) (as := []) (ρ := ρ) rfl ev1 (by decide +kernel) (by decide) rfl (by decide) vok_nil cx ly z7 (in_t5 (List.mem_of_getElem? (i := 179) rfl) rfl) rfl hc (Nat.le_of_ble_eq_true rfl) (pc := 595) (by decide +kernel) (fun H1 locs1 ly => ?_)
  refine lv_aload_n cx.1.1 cx.1.2.1 (k := 2) (pc := 598) (by decide +kernel) rfl l2 ?_
  refine l_ev (x := 271) (tg := 12) (k := 253) (index := 78) (as := []) (ρ := ρ) rfl ev2 (by decide +kernel) (by decide) rfl (by decide) vok_nil cx ly z7 (in_t9 (List.mem_of_getElem? (i := 35) rfl) rfl) rfl hc (Nat.le_of_ble_eq_true rfl) (pc := 599) (by decide +kernel) (fun H1 locs1 ly => ?_)
  refine lv_icmp_eq cx.1.1 cx.1.2.1 (off := 560) (tgt := 1162) (pc := 602) (by decide +kernel) (by decide) (fun _ => ?_) (fun hno => absurd rfl hno)
  exact kk _ _ _ ly (inv2.le (by omega) (by omega))
theorem lc_13 (cx : LZ p s m meth c dC dI cA ρ b L xs) (ly : LY s dC dI cA ρ M H locs) (hi : Inv t M) (ht : t + 1 < 10000) (hl : LVs ls ρ b i) (hij : i + 7 ≤ L) (hc : cells ≤ 601024 ∧ slots ≤ 7293034) (kk : ∀ M' H' locs', LY s dC dI cA ρ M' H' locs' → Inv (t + 1) M' → W p l e room_1 s m #[Value.ref b] below meth c H' locs' cells slots Q (F0 m 1162 ls [])) : W p l e room_1 s m #[Value.ref b] below meth c H locs cells slots Q (F0 m 607 ls []) := by
  obtain ⟨z7, l0, l1, l2, l3, l4⟩ := hl.all
  obtain ⟨r1, M1, ev1, v, hr1, r2, M2, ev2, hr2, inv2⟩ := (show Two t t 136 272 [vR 11 0 0, vI (xs (i + 1))] [vR 12 0 253, vI (xs (i + 1))] from two_judged) M hi
  subst hr1
  subst hr2
  refine lv_aload_n cx.1.1 cx.1.2.1 (k := 1) (pc := 607) (by decide +kernel) rfl l1 ?_
  refine l_arg (j := 1) cx ly l0 l4 rfl (by omega) (by decide) (pc := 608) (by decide +kernel) (by decide +kernel) (by decide +kernel) (by decide +kernel) (by decide +kernel) ?_
  refine l_ev (x := 136) (tg := 11) (k := 0) (index := 79) (as := [vI (xs (i + 1))]) (ρ := ρ) rfl ev1 (by decide +kernel) (by decide) rfl (by decide) (vok_I vok_nil) cx ly z7 (in_t5 (List.mem_of_getElem? (i := 187) rfl) rfl) rfl hc (Nat.le_of_ble_eq_true rfl) (pc := 614) (by decide +kernel) (fun H1 locs1 ly => ?_)
  refine lv_aload_n cx.1.1 cx.1.2.1 (k := 2) (pc := 617) (by decide +kernel) rfl l2 ?_
  refine l_arg (j := 1) cx ly l0 l4 rfl (by omega) (by decide) (pc := 618) (by decide +kernel) (by decide +kernel) (by decide +kernel) (by decide +kernel) (by decide +kernel) ?_
  refine l_ev (x := 272) (tg := 12) (k := 253) (index := 82) (as := [vI (xs (i + 1))]) (ρ := ρ) rfl ev2 (by decide +kernel) (by decide) rfl (by decide) (vok_I vok_nil) cx ly z7 (in_t9 (List.mem_of_getElem? (i := 39) rfl) rfl) rfl hc (Nat.le_of_ble_eq_true rfl) (pc := 624) (by decide +kernel) (fun H1 locs1 ly => ?_)
  refine lv_icmp_eq cx.1.1 cx.1.2.1 (off := 535) (tgt := 1162) (pc := 627) (by decide +kernel) (by decide) (fun _ => ?_) (fun hno => absurd rfl hno)
  exact kk _ _ _ ly (inv2.le (by omega) (by omega))
theorem lc_14 (cx : LZ p s m meth c dC dI cA ρ b L xs) (ly : LY s dC dI cA ρ M H locs) (hi : Inv t M) (ht : t + 1 < 10000) (hl : LVs ls ρ b i) (hij : i + 7 ≤ L) (hc : cells ≤ 601024 ∧ slots ≤ 7293034) (kk : ∀ M' H' locs', LY s dC dI cA ρ M' H' locs' → Inv (t + 1) M' → W p l e room_1 s m #[Value.ref b] below meth c H' locs' cells slots Q (F0 m 1162 ls [])) : W p l e room_1 s m #[Value.ref b] below meth c H locs cells slots Q (F0 m 632 ls []) := by
  obtain ⟨z7, l0, l1, l2, l3, l4⟩ := hl.all
  obtain ⟨r1, M1, ev1, v, hr1, r2, M2, ev2, hr2, inv2⟩ := (show Two t t 146 274 [vR 11 0 0, vI (xs (i + 1))] [vR 12 0 253, vI (xs (i + 1))] from Two_ro (fun Y N hn hG hs => ro_falls hn hs (by omega))) M hi
  subst hr1
  subst hr2
  refine lv_aload_n cx.1.1 cx.1.2.1 (k := 1) (pc := 632) (by decide +kernel) rfl l1 ?_
  refine l_arg (j := 1) cx ly l0 l4 rfl (by omega) (by decide) (pc := 633) (by decide +kernel) (by decide +kernel) (by decide +kernel) (by decide +kernel) (by decide +kernel) ?_
  refine l_ev (x := 146) (tg := 11) (k := 0) (index := 83) (as := [vI (xs (i + 1))]) (ρ := ρ) rfl ev1 (by decide +kernel) (by decide) rfl (by decide) (vok_I vok_nil) cx ly z7 (in_t6 (List.mem_of_getElem? (i := 5) rfl) rfl) rfl hc (Nat.le_of_ble_eq_true rfl) (pc := 639) (by decide +kernel) (fun H1 locs1 ly => ?_)
  refine lv_aload_n cx.1.1 cx.1.2.1 (k := 2) (pc := 642) (by decide +kernel) rfl l2 ?_
  refine l_arg (j := 1) cx ly l0 l4 rfl (by omega) (by decide) (pc := 643) (by decide +kernel) (by decide +kernel) (by decide +kernel) (by decide +kernel) (by decide +kernel) ?_
  refine l_ev (x := 274) (tg := 12) (k := 253) (index := 86) (as := [vI (xs (i + 1))]) (ρ := ρ) rfl ev2 (by decide +kernel) (by decide) rfl (by decide) (vok_I vok_nil) cx ly z7 (in_t9 (List.mem_of_getElem? (i := 47) rfl) rfl) rfl hc (Nat.le_of_ble_eq_true rfl) (pc := 649) (by decide +kernel) (fun H1 locs1 ly => ?_)
  refine lv_icmp_eq cx.1.1 cx.1.2.1 (off := 510) (tgt := 1162) (pc := 652) (by decide +kernel) (by decide) (fun _ => ?_) (fun hno => absurd rfl hno)
  exact kk _ _ _ ly (inv2.le (by omega) (by omega))
theorem lc_15 (cx : LZ p s m meth c dC dI cA ρ b L xs) (ly : LY s dC dI cA ρ M H locs) (hi : Inv t M) (ht : t + 1 < 10000) (hl : LVs ls ρ b i) (hij : i + 7 ≤ L) (hc : cells ≤ 601024 ∧ slots ≤ 7293034) (kk : ∀ M' H' locs', LY s dC dI cA ρ M' H' locs' → Inv (t + 1) M' → W p l e room_1 s m #[Value.ref b] below meth c H' locs' cells slots Q (F0 m 1162 ls [])) : W p l e room_1 s m #[Value.ref b] below meth c H locs cells slots Q (F0 m 657 ls []) := by
  obtain ⟨z7, l0, l1, l2, l3, l4⟩ := hl.all
  obtain ⟨r1, M1, ev1, v, hr1, r2, M2, ev2, hr2, inv2⟩ := (show Two t t 149 275 [vR 11 0 0] [vR 12 0 253] from Two_ro (fun Y N hn hG hs => ro_clashes)) M hi
  subst hr1
  subst hr2
  refine lv_aload_n cx.1.1 cx.1.2.1 (k := 1) (pc := 657) (by decide +kernel) rfl l1 ?_
  refine l_ev (x := 149) (tg := 11) (k := 0) (index := 87) (as := []) (ρ := ρ) rfl ev1 (by decide +kernel) (by decide) rfl (by decide) vok_nil cx ly z7 (in_t6 (List.mem_of_getElem? (i := 19) rfl) rfl) rfl hc (Nat.le_of_ble_eq_true rfl) (pc := 658) (by decide +kernel) (fun H1 locs1 ly => ?_)
  refine lv_aload_n cx.1.1 cx.1.2.1 (k := 2) (pc := 661) (by decide +kernel) rfl l2 ?_
  refine l_ev (x := 275) (tg := 12) (k := 253) (index := 90) (as := []) (ρ := ρ) rfl ev2 (by decide +kernel) (by decide) rfl (by decide) vok_nil cx ly z7 (in_t9 (List.mem_of_getElem? (i := 51) rfl) rfl) rfl hc (Nat.le_of_ble_eq_true rfl) (pc := 662) (by decide +kernel) (fun H1 locs1 ly => ?_)
  refine lv_icmp_eq cx.1.1 cx.1.2.1 (off := 497) (tgt := 1162) (pc := 665) (by decide +kernel) (by decide) (fun _ => ?_) (fun hno => absurd rfl hno)
  exact kk _ _ _ ly (inv2.le (by omega) (by omega))
theorem lc_16 (cx : LZ p s m meth c dC dI cA ρ b L xs) (ly : LY s dC dI cA ρ M H locs) (hi : Inv t M) (ht : t + 1 < 10000) (hl : LVs ls ρ b i) (hij : i + 7 ≤ L) (hc : cells ≤ 601024 ∧ slots ≤ 7293034) (kk : ∀ M' H' locs', LY s dC dI cA ρ M' H' locs' → Inv (t + 1) M' → W p l e room_1 s m #[Value.ref b] below meth c H' locs' cells slots Q (F0 m 1162 ls [])) : W p l e room_1 s m #[Value.ref b] below meth c H locs cells slots Q (F0 m 670 ls []) := by
  obtain ⟨z7, l0, l1, l2, l3, l4⟩ := hl.all
  obtain ⟨r1, M1, ev1, v, hr1, r2, M2, ev2, hr2, inv2⟩ := (show Two t t 151 277 [vR 11 0 0, vI (xs (i + 1))] [vR 12 0 253, vI (xs (i + 1))] from Two_ro (fun Y N hn hG hs => ro_mend hn)) M hi
  subst hr1
  subst hr2
  refine lv_aload_n cx.1.1 cx.1.2.1 (k := 1) (pc := 670) (by decide +kernel) rfl l1 ?_
  refine l_arg (j := 1) cx ly l0 l4 rfl (by omega) (by decide) (pc := 671) (by decide +kernel) (by decide +kernel) (by decide +kernel) (by decide +kernel) (by decide +kernel) ?_
  refine l_ev (x := 151) (tg := 11) (k := 0) (index := 91) (as := [vI (xs (i + 1))]) (ρ := ρ) rfl ev1 (by decide +kernel) (by decide) rfl (by decide) (vok_I vok_nil) cx ly z7 (in_t6 (List.mem_of_getElem? (i := 28) rfl) rfl) rfl hc (Nat.le_of_ble_eq_true rfl) (pc := 677) (by decide +kernel) (fun H1 locs1 ly => ?_)
  refine lv_aload_n cx.1.1 cx.1.2.1 (k := 2) (pc := 680) (by decide +kernel) rfl l2 ?_
  refine l_arg (j := 1) cx ly l0 l4 rfl (by omega) (by decide) (pc := 681) (by decide +kernel) (by decide +kernel) (by decide +kernel) (by decide +kernel) (by decide +kernel) ?_
  refine l_ev (x := 277) (tg := 12) (k := 253) (index := 94) (as := [vI (xs (i + 1))]) (ρ := ρ) rfl ev2 (by decide +kernel) (by decide) rfl (by decide) (vok_I vok_nil) cx ly z7 (in_t9 (List.mem_of_getElem? (i := 59) rfl) rfl) rfl hc (Nat.le_of_ble_eq_true rfl) (pc := 687) (by decide +kernel) (fun H1 locs1 ly => ?_)
  refine lv_icmp_eq cx.1.1 cx.1.2.1 (off := 472) (tgt := 1162) (pc := 690) (by decide +kernel) (by decide) (fun _ => ?_) (fun hno => absurd rfl hno)
  exact kk _ _ _ ly (inv2.le (by omega) (by omega))
theorem lc_17 (cx : LZ p s m meth c dC dI cA ρ b L xs) (ly : LY s dC dI cA ρ M H locs) (hi : Inv t M) (ht : t + 1 < 10000) (hl : LVs ls ρ b i) (hij : i + 7 ≤ L) (hc : cells ≤ 601024 ∧ slots ≤ 7293034) (kk : ∀ M' H' locs', LY s dC dI cA ρ M' H' locs' → Inv (t + 1) M' → W p l e room_1 s m #[Value.ref b] below meth c H' locs' cells slots Q (F0 m 1162 ls [])) : W p l e room_1 s m #[Value.ref b] below meth c H locs cells slots Q (F0 m 695 ls []) := by
  obtain ⟨z7, l0, l1, l2, l3, l4⟩ := hl.all
  obtain ⟨r1, M1, ev1, v, hr1, r2, M2, ev2, hr2, inv2⟩ := (show Two t t 153 278 [vR 11 0 0, vI (xs (i + 1)), vI (xs (i + 2))] [vR 12 0 253, vI (xs (i + 1)), vI (xs (i + 2))] from Two_ro (fun Y N hn hG hs => ro_work hn hG)) M hi
  subst hr1
  subst hr2
  refine lv_aload_n cx.1.1 cx.1.2.1 (k := 1) (pc := 695) (by decide +kernel) rfl l1 ?_
  refine l_arg (j := 1) cx ly l0 l4 rfl (by omega) (by decide) (pc := 696) (by decide +kernel) (by decide +kernel) (by decide +kernel) (by decide +kernel) (by decide +kernel) ?_
  refine l_arg (j := 2) cx ly l0 l4 rfl (by omega) (by decide) (pc := 702) (by decide +kernel) (by decide +kernel) (by decide +kernel) (by decide +kernel) (by decide +kernel) ?_
  refine l_ev (x := 153) (tg := 11) (k := 0) (index := 95) (as := [vI (xs (i + 1)), vI (xs (i + 2))]) (ρ := ρ) rfl ev1 (by decide +kernel) (by decide) rfl (by decide) (vok_I (vok_I vok_nil)) cx ly z7 (in_t6 (List.mem_of_getElem? (i := 40) rfl) rfl) rfl hc (Nat.le_of_ble_eq_true rfl) (pc := 708) (by decide +kernel) (fun H1 locs1 ly => ?_)
  refine lv_aload_n cx.1.1 cx.1.2.1 (k := 2) (pc := 711) (by decide +kernel) rfl l2 ?_
  refine l_arg (j := 1) cx ly l0 l4 rfl (by omega) (by decide) (pc := 712) (by decide +kernel) (by decide +kernel) (by decide +kernel) (by decide +kernel) (by decide +kernel) ?_
  refine l_arg (j := 2) cx ly l0 l4 rfl (by omega) (by decide) (pc := 718) (by decide +kernel) (by decide +kernel) (by decide +kernel) (by decide +kernel) (by decide +kernel) ?_
  refine l_ev (x := 278) (tg := 12) (k := 253) (index := 98) (as := [vI (xs (i + 1)), vI (xs (i + 2))]) (ρ := ρ) rfl ev2 (by decide +kernel) (by decide) rfl (by decide) (vok_I (vok_I vok_nil)) cx ly z7 (in_t9 (List.mem_of_getElem? (i := 63) rfl) rfl) rfl hc (Nat.le_of_ble_eq_true rfl) (pc := 724) (by decide +kernel) (fun H1 locs1 ly => ?_)
  refine lv_icmp_eq cx.1.1 cx.1.2.1 (off := 435) (tgt := 1162) (pc := 727) (by decide +kernel) (by decide) (fun _ => ?_) (fun hno => absurd rfl hno)
  exact kk _ _ _ ly (inv2.le (by omega) (by omega))
theorem lc_18 (cx : LZ p s m meth c dC dI cA ρ b L xs) (ly : LY s dC dI cA ρ M H locs) (hi : Inv t M) (ht : t + 1 < 10000) (hl : LVs ls ρ b i) (hij : i + 7 ≤ L) (hc : cells ≤ 601024 ∧ slots ≤ 7293034) (kk : ∀ M' H' locs', LY s dC dI cA ρ M' H' locs' → Inv (t + 1) M' → W p l e room_1 s m #[Value.ref b] below meth c H' locs' cells slots Q (F0 m 1162 ls [])) : W p l e room_1 s m #[Value.ref b] below meth c H locs cells slots Q (F0 m 732 ls []) := by
  obtain ⟨z7, l0, l1, l2, l3, l4⟩ := hl.all
  obtain ⟨r1, M1, ev1, v, hr1, r2, M2, ev2, hr2, inv2⟩ := (show Two t t 163 282 [vR 11 0 0, vI (xs (i + 1))] [vR 12 0 253, vI (xs (i + 1))] from Two_ro (fun Y N hn hG hs => ro_places hn)) M hi
  subst hr1
  subst hr2
  refine lv_aload_n cx.1.1 cx.1.2.1 (k := 1) (pc := 732) (by decide +kernel) rfl l1 ?_
  refine l_arg (j := 1) cx ly l0 l4 rfl (by omega) (by decide) (pc := 733) (by decide +kernel) (by decide +kernel) (by decide +kernel) (by decide +kernel) (by decide +kernel) ?_
  refine l_ev (x := 163) (tg := 11) (k := 0) (index := 99) (as := [vI (xs (i + 1))]) (ρ := ρ) rfl ev1 (by decide +kernel) (by decide) rfl (by decide) (vok_I vok_nil) cx ly z7 (in_t6 (List.mem_of_getElem? (i := 88) rfl) rfl) rfl hc (Nat.le_of_ble_eq_true rfl) (pc := 739) (by decide +kernel) (fun H1 locs1 ly => ?_)
  refine lv_aload_n cx.1.1 cx.1.2.1 (k := 2) (pc := 742) (by decide +kernel) rfl l2 ?_
  refine l_arg (j := 1) cx ly l0 l4 rfl (by omega) (by decide) (pc := 743) (by decide +kernel) (by decide +kernel) (by decide +kernel) (by decide +kernel) (by decide +kernel) ?_
  refine l_ev (x := 282) (tg := 12) (k := 253) (index := 102) (as := [vI (xs (i + 1))]) (ρ := ρ) rfl ev2 (by decide +kernel) (by decide) rfl (by decide) (vok_I vok_nil) cx ly z7 (in_t9 (List.mem_of_getElem? (i := 79) rfl) rfl) rfl hc (Nat.le_of_ble_eq_true rfl) (pc := 749) (by decide +kernel) (fun H1 locs1 ly => ?_)
  refine lv_icmp_eq cx.1.1 cx.1.2.1 (off := 410) (tgt := 1162) (pc := 752) (by decide +kernel) (by decide) (fun _ => ?_) (fun hno => absurd rfl hno)
  exact kk _ _ _ ly (inv2.le (by omega) (by omega))
theorem lc_19 (cx : LZ p s m meth c dC dI cA ρ b L xs) (ly : LY s dC dI cA ρ M H locs) (hi : Inv t M) (ht : t + 1 < 10000) (hl : LVs ls ρ b i) (hij : i + 7 ≤ L) (hc : cells ≤ 601024 ∧ slots ≤ 7293034) (kk : ∀ M' H' locs', LY s dC dI cA ρ M' H' locs' → Inv (t + 1) M' → W p l e room_1 s m #[Value.ref b] below meth c H' locs' cells slots Q (F0 m 1162 ls [])) : W p l e room_1 s m #[Value.ref b] below meth c H locs cells slots Q (F0 m 757 ls []) := by
  obtain ⟨z7, l0, l1, l2, l3, l4⟩ := hl.all
  obtain ⟨r1, M1, ev1, v, hr1, r2, M2, ev2, hr2, inv2⟩ := (show Two t t 168 285 [vR 11 0 0, vI (xs (i + 1)), vI (xs (i + 2)), vI (xs (i + 3))] [vR 12 0 253, vI (xs (i + 1)), vI (xs (i + 2)), vI (xs (i + 3))] from Two_ro (fun Y N hn hG hs => ro_thin hn)) M hi
  subst hr1
  subst hr2
  refine lv_aload_n cx.1.1 cx.1.2.1 (k := 1) (pc := 757) (by decide +kernel) rfl l1 ?_
  refine l_arg (j := 1) cx ly l0 l4 rfl (by omega) (by decide) (pc := 758) (by decide +kernel) (by decide +kernel) (by decide +kernel) (by decide +kernel) (by decide +kernel) ?_
  refine l_arg (j := 2) cx ly l0 l4 rfl (by omega) (by decide) (pc := 764) (by decide +kernel) (by decide +kernel) (by decide +kernel) (by decide +kernel) (by decide +kernel) ?_
  refine l_arg (j := 3) cx ly l0 l4 rfl (by omega) (by decide) (pc := 770) (by decide +kernel) (by decide +kernel) (by decide +kernel) (by decide +kernel) (by decide +kernel) ?_
  refine l_ev (x := 168) (tg := 11) (k := 0) (index := 103) (as := [vI (xs (i + 1)), vI (xs (i + 2)), vI (xs (i + 3))]) (ρ := ρ) rfl ev1 (by decide +kernel) (by decide) rfl (by decide) (vok_I (vok_I (vok_I vok_nil))) cx ly z7 (in_t6 (List.mem_of_getElem? (i := 111) rfl) rfl) rfl hc (Nat.le_of_ble_eq_true rfl) (pc := 776) (by decide +kernel) (fun H1 locs1 ly => ?_)
  refine lv_aload_n cx.1.1 cx.1.2.1 (k := 2) (pc := 779) (by decide +kernel) rfl l2 ?_
  refine l_arg (j := 1) cx ly l0 l4 rfl (by omega) (by decide) (pc := 780) (by decide +kernel) (by decide +kernel) (by decide +kernel) (by decide +kernel) (by decide +kernel) ?_
  refine l_arg (j := 2) cx ly l0 l4 rfl (by omega) (by decide) (pc := 786) (by decide +kernel) (by decide +kernel) (by decide +kernel) (by decide +kernel) (by decide +kernel) ?_
  refine l_arg (j := 3) cx ly l0 l4 rfl (by omega) (by decide) (pc := 792) (by decide +kernel) (by decide +kernel) (by decide +kernel) (by decide +kernel) (by decide +kernel) ?_
  refine l_ev (x := 285) (tg := 12) (k := 253) (index := 107) (as := [vI (xs (i + 1)), vI (xs (i + 2)), vI (xs (i + 3))]) (ρ := ρ) rfl ev2 (by decide +kernel) (by decide) rfl (by decide) (vok_I (vok_I (vok_I vok_nil))) cx ly z7 (in_t9 (List.mem_of_getElem? (i := 91) rfl) rfl) rfl hc (Nat.le_of_ble_eq_true rfl) (pc := 798) (by decide +kernel) (fun H1 locs1 ly => ?_)
  refine lv_icmp_eq cx.1.1 cx.1.2.1 (off := 361) (tgt := 1162) (pc := 801) (by decide +kernel) (by decide) (fun _ => ?_) (fun hno => absurd rfl hno)
  exact kk _ _ _ ly (inv2.le (by omega) (by omega))
theorem lc_20 (cx : LZ p s m meth c dC dI cA ρ b L xs) (ly : LY s dC dI cA ρ M H locs) (hi : Inv t M) (ht : t + 1 < 10000) (hl : LVs ls ρ b i) (hij : i + 7 ≤ L) (hc : cells ≤ 601024 ∧ slots ≤ 7293034) (kk : ∀ M' H' locs', LY s dC dI cA ρ M' H' locs' → Inv (t + 1) M' → W p l e room_1 s m #[Value.ref b] below meth c H' locs' cells slots Q (F0 m 1162 ls [])) : W p l e room_1 s m #[Value.ref b] below meth c H locs cells slots Q (F0 m 806 ls []) := by
  obtain ⟨z7, l0, l1, l2, l3, l4⟩ := hl.all
  obtain ⟨r1, M1, ev1, v, hr1, r2, M2, ev2, hr2, inv2⟩ := (show Two t t 169 286 [vR 11 0 0, vI (xs (i + 1)), vI (xs (i + 2))] [vR 12 0 253, vI (xs (i + 1)), vI (xs (i + 2))] from Two_ro (fun Y N hn hG hs => ro_stands hn hG hs (by omega))) M hi
  subst hr1
  subst hr2
  refine lv_aload_n cx.1.1 cx.1.2.1 (k := 1) (pc := 806) (by decide +kernel) rfl l1 ?_
  refine l_arg (j := 1) cx ly l0 l4 rfl (by omega) (by decide) (pc := 807) (by decide +kernel) (by decide +kernel) (by decide +kernel) (by decide +kernel) (by decide +kernel) ?_
  refine l_arg (j := 2) cx ly l0 l4 rfl (by omega) (by decide) (pc := 813) (by decide +kernel) (by decide +kernel) (by decide +kernel) (by decide +kernel) (by decide +kernel) ?_
  refine l_ev (x := 169) (tg := 11) (k := 0) (index := 108) (as := [vI (xs (i + 1)), vI (xs (i + 2))]) (ρ := ρ) rfl ev1 (by decide +kernel) (by decide) rfl (by decide) (vok_I (vok_I vok_nil)) cx ly z7 (in_t6 (List.mem_of_getElem? (i := 116) rfl) rfl) rfl hc (Nat.le_of_ble_eq_true rfl) (pc := 819) (by decide +kernel) (fun H1 locs1 ly => ?_)
  refine lv_aload_n cx.1.1 cx.1.2.1 (k := 2) (pc := 822) (by decide +kernel) rfl l2 ?_
  refine l_arg (j := 1) cx ly l0 l4 rfl (by omega) (by decide) (pc := 823) (by decide +kernel) (by decide +kernel) (by decide +kernel) (by decide +kernel) (by decide +kernel) ?_
  refine l_arg (j := 2) cx ly l0 l4 rfl (by omega) (by decide) (pc := 829) (by decide +kernel) (by decide +kernel) (by decide +kernel) (by decide +kernel) (by decide +kernel) ?_
  refine l_ev (x := 286) (tg := 12) (k := 253) (index := 111) (as := [vI (xs (i + 1)), vI (xs (i + 2))]) (ρ := ρ) rfl ev2 (by decide +kernel) (by decide) rfl (by decide) (vok_I (vok_I vok_nil)) cx ly z7 (in_t9 (List.mem_of_getElem? (i := 95) rfl) rfl) rfl hc (Nat.le_of_ble_eq_true rfl) (pc := 835) (by decide +kernel) (fun H1 locs1 ly => ?_)
  refine lv_icmp_eq cx.1.1 cx.1.2.1 (off := 324) (tgt := 1162) (pc := 838) (by decide +kernel) (by decide) (fun _ => ?_) (fun hno => absurd rfl hno)
  exact kk _ _ _ ly (inv2.le (by omega) (by omega))
theorem lc_21 (cx : LZ p s m meth c dC dI cA ρ b L xs) (ly : LY s dC dI cA ρ M H locs) (hi : Inv t M) (ht : t + 1 < 10000) (hl : LVs ls ρ b i) (hij : i + 7 ≤ L) (hc : cells ≤ 601024 ∧ slots ≤ 7293034) (kk : ∀ M' H' locs', LY s dC dI cA ρ M' H' locs' → Inv (t + 1) M' → W p l e room_1 s m #[Value.ref b] below meth c H' locs' cells slots Q (F0 m 1162 ls [])) : W p l e room_1 s m #[Value.ref b] below meth c H locs cells slots Q (F0 m 843 ls []) := by
  obtain ⟨z7, l0, l1, l2, l3, l4⟩ := hl.all
  obtain ⟨r1, M1, ev1, v, hr1, r2, M2, ev2, hr2, inv2⟩ := (show Two t t 173 288 [vR 11 0 0, vI (xs (i + 1))] [vR 12 0 253, vI (xs (i + 1))] from Two_ro (fun Y N hn hG hs => ro_propped hn hG hs (by omega))) M hi
  subst hr1
  subst hr2
  refine lv_aload_n cx.1.1 cx.1.2.1 (k := 1) (pc := 843) (by decide +kernel) rfl l1 ?_
  refine l_arg (j := 1) cx ly l0 l4 rfl (by omega) (by decide) (pc := 844) (by decide +kernel) (by decide +kernel) (by decide +kernel) (by decide +kernel) (by decide +kernel) ?_
  refine l_ev (x := 173) (tg := 11) (k := 0) (index := 112) (as := [vI (xs (i + 1))]) (ρ := ρ) rfl ev1 (by decide +kernel) (by decide) rfl (by decide) (vok_I vok_nil) cx ly z7 (in_t6 (List.mem_of_getElem? (i := 134) rfl) rfl) rfl hc (Nat.le_of_ble_eq_true rfl) (pc := 850) (by decide +kernel) (fun H1 locs1 ly => ?_)
  refine lv_aload_n cx.1.1 cx.1.2.1 (k := 2) (pc := 853) (by decide +kernel) rfl l2 ?_
  refine l_arg (j := 1) cx ly l0 l4 rfl (by omega) (by decide) (pc := 854) (by decide +kernel) (by decide +kernel) (by decide +kernel) (by decide +kernel) (by decide +kernel) ?_
  refine l_ev (x := 288) (tg := 12) (k := 253) (index := 115) (as := [vI (xs (i + 1))]) (ρ := ρ) rfl ev2 (by decide +kernel) (by decide) rfl (by decide) (vok_I vok_nil) cx ly z7 (in_t9 (List.mem_of_getElem? (i := 104) rfl) rfl) rfl hc (Nat.le_of_ble_eq_true rfl) (pc := 860) (by decide +kernel) (fun H1 locs1 ly => ?_)
  refine lv_icmp_eq cx.1.1 cx.1.2.1 (off := 299) (tgt := 1162) (pc := 863) (by decide +kernel) (by decide) (fun _ => ?_) (fun hno => absurd rfl hno)
  exact kk _ _ _ ly (inv2.le (by omega) (by omega))
theorem lc_22 (cx : LZ p s m meth c dC dI cA ρ b L xs) (ly : LY s dC dI cA ρ M H locs) (hi : Inv t M) (ht : t + 1 < 10000) (hl : LVs ls ρ b i) (hij : i + 7 ≤ L) (hc : cells ≤ 601024 ∧ slots ≤ 7293034) (kk : ∀ M' H' locs', LY s dC dI cA ρ M' H' locs' → Inv (t + 1) M' → W p l e room_1 s m #[Value.ref b] below meth c H' locs' cells slots Q (F0 m 1162 ls [])) : W p l e room_1 s m #[Value.ref b] below meth c H locs cells slots Q (F0 m 868 ls []) := by
  obtain ⟨z7, l0, l1, l2, l3, l4⟩ := hl.all
  obtain ⟨r1, M1, ev1, v, hr1, r2, M2, ev2, hr2, inv2⟩ := (show Two t t 176 290 [vR 11 0 0, vI (xs (i + 1)), vI (xs (i + 2))] [vR 12 0 253, vI (xs (i + 1)), vI (xs (i + 2))] from two_tell) M hi
  subst hr1
  subst hr2
  refine lv_aload_n cx.1.1 cx.1.2.1 (k := 1) (pc := 868) (by decide +kernel) rfl l1 ?_
  refine l_arg (j := 1) cx ly l0 l4 rfl (by omega) (by decide) (pc := 869) (by decide +kernel) (by decide +kernel) (by decide +kernel) (by decide +kernel) (by decide +kernel) ?_
  refine l_arg (j := 2) cx ly l0 l4 rfl (by omega) (by decide) (pc := 875) (by decide +kernel) (by decide +kernel) (by decide +kernel) (by decide +kernel) (by decide +kernel) ?_
  refine l_ev (x := 176) (tg := 11) (k := 0) (index := 116) (as := [vI (xs (i + 1)), vI (xs (i + 2))]) (ρ := ρ) rfl ev1 (by decide +kernel) (by decide) rfl (by decide) (vok_I (vok_I vok_nil)) cx ly z7 (in_t6 (List.mem_of_getElem? (i := 149) rfl) rfl) rfl hc (Nat.le_of_ble_eq_true rfl) (pc := 881) (by decide +kernel) (fun H1 locs1 ly => ?_)
  refine lv_aload_n cx.1.1 cx.1.2.1 (k := 2) (pc := 884) (by decide +kernel) rfl l2 ?_
  refine l_arg (j := 1) cx ly l0 l4 rfl (by omega) (by decide) (pc := 885) (by decide +kernel) (by decide +kernel) (by decide +kernel) (by decide +kernel) (by decide +kernel) ?_
  refine l_arg (j := 2) cx ly l0 l4 rfl (by omega) (by decide) (pc := 891) (by decide +kernel) (by decide +kernel) (by decide +kernel) (by decide +kernel) (by decide +kernel) ?_
  refine l_ev (x := 290) (tg := 12) (k := 253) (index := 119) (as := [vI (xs (i + 1)), vI (xs (i + 2))]) (ρ := ρ) rfl ev2 (by decide +kernel) (by decide) rfl (by decide) (vok_I (vok_I vok_nil)) cx ly z7 (in_t9 (List.mem_of_getElem? (i := 112) rfl) rfl) rfl hc (Nat.le_of_ble_eq_true rfl) (pc := 897) (by decide +kernel) (fun H1 locs1 ly => ?_)
  refine lv_icmp_eq cx.1.1 cx.1.2.1 (off := 262) (tgt := 1162) (pc := 900) (by decide +kernel) (by decide) (fun _ => ?_) (fun hno => absurd rfl hno)
  exact kk _ _ _ ly (inv2.le (by omega) (by omega))
theorem lc_23 (cx : LZ p s m meth c dC dI cA ρ b L xs) (ly : LY s dC dI cA ρ M H locs) (hi : Inv t M) (ht : t + 1 < 10000) (hl : LVs ls ρ b i) (hij : i + 7 ≤ L) (hc : cells ≤ 601024 ∧ slots ≤ 7293034) (kk : ∀ M' H' locs', LY s dC dI cA ρ M' H' locs' → Inv (t + 1) M' → W p l e room_1 s m #[Value.ref b] below meth c H' locs' cells slots Q (F0 m 1162 ls [])) : W p l e room_1 s m #[Value.ref b] below meth c H locs cells slots Q (F0 m 905 ls []) := by
  obtain ⟨z7, l0, l1, l2, l3, l4⟩ := hl.all
  obtain ⟨r1, M1, ev1, v, hr1, r2, M2, ev2, hr2, inv2⟩ := (show Two t t 177 291 [vR 11 0 0, vI (xs (i + 1))] [vR 12 0 253, vI (xs (i + 1))] from Two_ro (fun Y N hn hG hs => ro_sets hn)) M hi
  subst hr1
  subst hr2
  refine lv_aload_n cx.1.1 cx.1.2.1 (k := 1) (pc := 905) (by decide +kernel) rfl l1 ?_
  refine l_arg (j := 1) cx ly l0 l4 rfl (by omega) (by decide) (pc := 906) (by decide +kernel) (by decide +kernel) (by decide +kernel) (by decide +kernel) (by decide +kernel) ?_
  refine l_ev (x := 177) (tg := 11) (k := 0) (index := 120) (as := [vI (xs (i + 1))]) (ρ := ρ) rfl ev1 (by decide +kernel) (by decide) rfl (by decide) (vok_I vok_nil) cx ly z7 (in_t6 (List.mem_of_getElem? (i := 153) rfl) rfl) rfl hc (Nat.le_of_ble_eq_true rfl) (pc := 912) (by decide +kernel) (fun H1 locs1 ly => ?_)
  refine lv_aload_n cx.1.1 cx.1.2.1 (k := 2) (pc := 915) (by decide +kernel) rfl l2 ?_
  refine l_arg (j := 1) cx ly l0 l4 rfl (by omega) (by decide) (pc := 916) (by decide +kernel) (by decide +kernel) (by decide +kernel) (by decide +kernel) (by decide +kernel) ?_
  refine l_ev (x := 291) (tg := 12) (k := 253) (index := 123) (as := [vI (xs (i + 1))]) (ρ := ρ) rfl ev2 (by decide +kernel) (by decide) rfl (by decide) (vok_I vok_nil) cx ly z7 (in_t9 (List.mem_of_getElem? (i := 116) rfl) rfl) rfl hc (Nat.le_of_ble_eq_true rfl) (pc := 922) (by decide +kernel) (fun H1 locs1 ly => ?_)
  refine lv_icmp_eq cx.1.1 cx.1.2.1 (off := 237) (tgt := 1162) (pc := 925) (by decide +kernel) (by decide) (fun _ => ?_) (fun hno => absurd rfl hno)
  exact kk _ _ _ ly (inv2.le (by omega) (by omega))
theorem lc_24 (cx : LZ p s m meth c dC dI cA ρ b L xs) (ly : LY s dC dI cA ρ M H locs) (hi : Inv t M) (ht : t + 1 < 10000) (hl : LVs ls ρ b i) (hij : i + 7 ≤ L) (hc : cells ≤ 601024 ∧ slots ≤ 7293034) (kk : ∀ M' H' locs', LY s dC dI cA ρ M' H' locs' → Inv (t + 1) M' → W p l e room_1 s m #[Value.ref b] below meth c H' locs' cells slots Q (F0 m 1162 ls [])) : W p l e room_1 s m #[Value.ref b] below meth c H locs cells slots Q (F0 m 930 ls []) := by
  obtain ⟨z7, l0, l1, l2, l3, l4⟩ := hl.all
  obtain ⟨r1, M1, ev1, v, hr1, r2, M2, ev2, hr2, inv2⟩ := (show Two t t 184 295 [vR 11 0 0] [vR 12 0 253] from Two_ro (fun Y N hn hG hs => ro_look hn)) M hi
  subst hr1
  subst hr2
  refine lv_aload_n cx.1.1 cx.1.2.1 (k := 1) (pc := 930) (by decide +kernel) rfl l1 ?_
  refine l_ev (x := 184) (tg := 11) (k := 0) (index := 124) (as := []) (ρ := ρ) rfl ev1 (by decide +kernel) (by decide) rfl (by decide) vok_nil cx ly z7 (in_t6 (List.mem_of_getElem? (i := 185) rfl) rfl) rfl hc (Nat.le_of_ble_eq_true rfl) (pc := 931) (by decide +kernel) (fun H1 locs1 ly => ?_)
  refine lv_aload_n cx.1.1 cx.1.2.1 (k := 2) (pc := 934) (by decide +kernel) rfl l2 ?_
  refine l_ev (x := 295) (tg := 12) (k := 253) (index := 127) (as := []) (ρ := ρ) rfl ev2 (by decide +kernel) (by decide) rfl (by decide) vok_nil cx ly z7 (in_t9 (List.mem_of_getElem? (i := 132) rfl) rfl) rfl hc (Nat.le_of_ble_eq_true rfl) (pc := 935) (by decide +kernel) (fun H1 locs1 ly => ?_)
  refine lv_icmp_eq cx.1.1 cx.1.2.1 (off := 224) (tgt := 1162) (pc := 938) (by decide +kernel) (by decide) (fun _ => ?_) (fun hno => absurd rfl hno)
  exact kk _ _ _ ly (inv2.le (by omega) (by omega))
theorem lc_26 (cx : LZ p s m meth c dC dI cA ρ b L xs) (ly : LY s dC dI cA ρ M H locs) (hi : Inv t M) (ht : t + 1 < 10000) (hl : LVs ls ρ b i) (hij : i + 7 ≤ L) (hc : cells ≤ 601024 ∧ slots ≤ 7293034) (kk : ∀ M' H' locs', LY s dC dI cA ρ M' H' locs' → Inv (t + 1) M' → W p l e room_1 s m #[Value.ref b] below meth c H' locs' cells slots Q (F0 m 1162 ls [])) : W p l e room_1 s m #[Value.ref b] below meth c H locs cells slots Q (F0 m 1035 ls []) := by
  obtain ⟨z7, l0, l1, l2, l3, l4⟩ := hl.all
  obtain ⟨r1, M1, ev1, v, hr1, r2, M2, ev2, hr2, inv2⟩ := (show Two t t 141 299 [vR 11 0 0, vI (xs (i + 1)), vI (xs (i + 2)), vI (xs (i + 3))] [vR 12 0 253, vI (xs (i + 1)), vI (xs (i + 2)), vI (xs (i + 3))] from two_decades) M hi
  subst hr1
  subst hr2
  refine lv_aload_n cx.1.1 cx.1.2.1 (k := 1) (pc := 1035) (by decide +kernel) rfl l1 ?_
  refine l_arg (j := 1) cx ly l0 l4 rfl (by omega) (by decide) (pc := 1036) (by decide +kernel) (by decide +kernel) (by decide +kernel) (by decide +kernel) (by decide +kernel) ?_
  refine l_arg (j := 2) cx ly l0 l4 rfl (by omega) (by decide) (pc := 1042) (by decide +kernel) (by decide +kernel) (by decide +kernel) (by decide +kernel) (by decide +kernel) ?_
  refine l_arg (j := 3) cx ly l0 l4 rfl (by omega) (by decide) (pc := 1048) (by decide +kernel) (by decide +kernel) (by decide +kernel) (by decide +kernel) (by decide +kernel) ?_
  refine l_ev (x := 141) (tg := 11) (k := 0) (index := 137) (as := [vI (xs (i + 1)), vI (xs (i + 2)), vI (xs (i + 3))]) (ρ := ρ) rfl ev1 (by decide +kernel) (by decide) rfl (by decide) (vok_I (vok_I (vok_I vok_nil))) cx ly z7 (in_t5 (List.mem_of_getElem? (i := 218) rfl) rfl) rfl hc (Nat.le_of_ble_eq_true rfl) (pc := 1054) (by decide +kernel) (fun H1 locs1 ly => ?_)
  refine lv_aload_n cx.1.1 cx.1.2.1 (k := 2) (pc := 1057) (by decide +kernel) rfl l2 ?_
  refine l_arg (j := 1) cx ly l0 l4 rfl (by omega) (by decide) (pc := 1058) (by decide +kernel) (by decide +kernel) (by decide +kernel) (by decide +kernel) (by decide +kernel) ?_
  refine l_arg (j := 2) cx ly l0 l4 rfl (by omega) (by decide) (pc := 1064) (by decide +kernel) (by decide +kernel) (by decide +kernel) (by decide +kernel) (by decide +kernel) ?_
  refine l_arg (j := 3) cx ly l0 l4 rfl (by omega) (by decide) (pc := 1070) (by decide +kernel) (by decide +kernel) (by decide +kernel) (by decide +kernel) (by decide +kernel) ?_
  refine l_ev (x := 299) (tg := 12) (k := 253) (index := 140) (as := [vI (xs (i + 1)), vI (xs (i + 2)), vI (xs (i + 3))]) (ρ := ρ) rfl ev2 (by decide +kernel) (by decide) rfl (by decide) (vok_I (vok_I (vok_I vok_nil))) cx ly z7 (in_t9 (List.mem_of_getElem? (i := 147) rfl) rfl) rfl hc (Nat.le_of_ble_eq_true rfl) (pc := 1076) (by decide +kernel) (fun H1 locs1 ly => ?_)
  refine lv_icmp_eq cx.1.1 cx.1.2.1 (off := 83) (tgt := 1162) (pc := 1079) (by decide +kernel) (by decide) (fun _ => ?_) (fun hno => absurd rfl hno)
  exact kk _ _ _ ly (inv2.le (by omega) (by omega))
theorem lc_27a (hz : xs (i + 2) = 0) (cx : LZ p s m meth c dC dI cA ρ b L xs) (ly : LY s dC dI cA ρ M H locs) (hi : Inv t M) (ht : t + 1 < 10000) (hl : LVs ls ρ b i) (hij : i + 7 ≤ L) (hc : cells ≤ 601024 ∧ slots ≤ 7293034) (kk : ∀ M' H' locs', LY s dC dI cA ρ M' H' locs' → Inv (t + 1) M' → W p l e room_1 s m #[Value.ref b] below meth c H' locs' cells slots Q (F0 m 1162 ls [])) : W p l e room_1 s m #[Value.ref b] below meth c H locs cells slots Q (F0 m 1084 ls []) := by
  obtain ⟨z7, l0, l1, l2, l3, l4⟩ := hl.all
  obtain ⟨r1, M1, ev1, v, hr1, r2, M2, ev2, hr2, inv2⟩ := (show Two t t 135 302 [vR 11 0 0, vI (xs (i + 1)), vI 0] [vR 12 0 253, vI (xs (i + 1)), vI 0] from two_mark) M hi
  subst hr1
  subst hr2
  refine lv_aload_n cx.1.1 cx.1.2.1 (k := 1) (pc := 1084) (by decide +kernel) rfl l1 ?_
  refine l_arg (j := 1) cx ly l0 l4 rfl (by omega) (by decide) (pc := 1085) (by decide +kernel) (by decide +kernel) (by decide +kernel) (by decide +kernel) (by decide +kernel) ?_
  refine l_arg (j := 2) cx ly l0 l4 rfl (by omega) (by decide) (pc := 1091) (by decide +kernel) (by decide +kernel) (by decide +kernel) (by decide +kernel) (by decide +kernel) ?_
  refine lv_if_eq cx.1.1 cx.1.2.1 (off := 7) (tgt := 1104) (pc := 1097) (by decide +kernel) (by decide) (fun _ => ?_) (fun hno => absurd hz hno)
  refine lv_iconst cx.1.1 cx.1.2.1 (n := 0) (v := 0) (pc := 1104) (by decide +kernel) (by decide) ?_
  refine l_ev (x := 135) (tg := 11) (k := 0) (index := 141) (as := [vI (xs (i + 1)), vI 0]) (ρ := ρ) rfl ev1 (by decide +kernel) (by decide) rfl (by decide) (vok_I (vok_I vok_nil)) cx ly z7 (in_t5 (List.mem_of_getElem? (i := 183) rfl) rfl) rfl hc (Nat.le_of_ble_eq_true rfl) (pc := 1105) (by decide +kernel) (fun H1 locs1 ly => ?_)
  refine lv_aload_n cx.1.1 cx.1.2.1 (k := 2) (pc := 1108) (by decide +kernel) rfl l2 ?_
  refine l_arg (j := 1) cx ly l0 l4 rfl (by omega) (by decide) (pc := 1109) (by decide +kernel) (by decide +kernel) (by decide +kernel) (by decide +kernel) (by decide +kernel) ?_
  refine l_arg (j := 2) cx ly l0 l4 rfl (by omega) (by decide) (pc := 1115) (by decide +kernel) (by decide +kernel) (by decide +kernel) (by decide +kernel) (by decide +kernel) ?_
  refine lv_if_eq cx.1.1 cx.1.2.1 (off := 7) (tgt := 1128) (pc := 1121) (by decide +kernel) (by decide) (fun _ => ?_) (fun hno => absurd hz hno)
  refine lv_iconst cx.1.1 cx.1.2.1 (n := 0) (v := 0) (pc := 1128) (by decide +kernel) (by decide) ?_
  refine l_ev (x := 302) (tg := 12) (k := 253) (index := 145) (as := [vI (xs (i + 1)), vI 0]) (ρ := ρ) rfl ev2 (by decide +kernel) (by decide) rfl (by decide) (vok_I (vok_I vok_nil)) cx ly z7 (in_t9 (List.mem_of_getElem? (i := 163) rfl) rfl) rfl hc (Nat.le_of_ble_eq_true rfl) (pc := 1129) (by decide +kernel) (fun H1 locs1 ly => ?_)
  refine lv_icmp_eq cx.1.1 cx.1.2.1 (off := 30) (tgt := 1162) (pc := 1132) (by decide +kernel) (by decide) (fun _ => ?_) (fun hno => absurd rfl hno)
  exact kk _ _ _ ly (inv2.le (by omega) (by omega))
theorem lc_27b (hz : ¬ xs (i + 2) = 0) (cx : LZ p s m meth c dC dI cA ρ b L xs) (ly : LY s dC dI cA ρ M H locs) (hi : Inv t M) (ht : t + 1 < 10000) (hl : LVs ls ρ b i) (hij : i + 7 ≤ L) (hc : cells ≤ 601024 ∧ slots ≤ 7293034) (kk : ∀ M' H' locs', LY s dC dI cA ρ M' H' locs' → Inv (t + 1) M' → W p l e room_1 s m #[Value.ref b] below meth c H' locs' cells slots Q (F0 m 1162 ls [])) : W p l e room_1 s m #[Value.ref b] below meth c H locs cells slots Q (F0 m 1084 ls []) := by
  obtain ⟨z7, l0, l1, l2, l3, l4⟩ := hl.all
  obtain ⟨r1, M1, ev1, v, hr1, r2, M2, ev2, hr2, inv2⟩ := (show Two t t 135 302 [vR 11 0 0, vI (xs (i + 1)), vI 1] [vR 12 0 253, vI (xs (i + 1)), vI 1] from two_mark) M hi
  subst hr1
  subst hr2
  refine lv_aload_n cx.1.1 cx.1.2.1 (k := 1) (pc := 1084) (by decide +kernel) rfl l1 ?_
  refine l_arg (j := 1) cx ly l0 l4 rfl (by omega) (by decide) (pc := 1085) (by decide +kernel) (by decide +kernel) (by decide +kernel) (by decide +kernel) (by decide +kernel) ?_
  refine l_arg (j := 2) cx ly l0 l4 rfl (by omega) (by decide) (pc := 1091) (by decide +kernel) (by decide +kernel) (by decide +kernel) (by decide +kernel) (by decide +kernel) ?_
  refine lv_if_eq cx.1.1 cx.1.2.1 (off := 7) (tgt := 1104) (pc := 1097) (by decide +kernel) (by decide) (fun hno => absurd hno hz) (fun _ => ?_)
  refine lv_iconst cx.1.1 cx.1.2.1 (n := 1) (v := 1) (pc := 1100) (by decide +kernel) (by decide) ?_
  refine lv_goto cx.1.1 cx.1.2.1 (off := 4) (tgt := 1105) (pc := 1101) (by decide +kernel) (by decide) ?_
  refine l_ev (x := 135) (tg := 11) (k := 0) (index := 141) (as := [vI (xs (i + 1)), vI 1]) (ρ := ρ) rfl ev1 (by decide +kernel) (by decide) rfl (by decide) (vok_I (vok_I vok_nil)) cx ly z7 (in_t5 (List.mem_of_getElem? (i := 183) rfl) rfl) rfl hc (Nat.le_of_ble_eq_true rfl) (pc := 1105) (by decide +kernel) (fun H1 locs1 ly => ?_)
  refine lv_aload_n cx.1.1 cx.1.2.1 (k := 2) (pc := 1108) (by decide +kernel) rfl l2 ?_
  refine l_arg (j := 1) cx ly l0 l4 rfl (by omega) (by decide) (pc := 1109) (by decide +kernel) (by decide +kernel) (by decide +kernel) (by decide +kernel) (by decide +kernel) ?_
  refine l_arg (j := 2) cx ly l0 l4 rfl (by omega) (by decide) (pc := 1115) (by decide +kernel) (by decide +kernel) (by decide +kernel) (by decide +kernel) (by decide +kernel) ?_
  refine lv_if_eq cx.1.1 cx.1.2.1 (off := 7) (tgt := 1128) (pc := 1121) (by decide +kernel) (by decide) (fun hno => absurd hno hz) (fun _ => ?_)
  refine lv_iconst cx.1.1 cx.1.2.1 (n := 1) (v := 1) (pc := 1124) (by decide +kernel) (by decide) ?_
  refine lv_goto cx.1.1 cx.1.2.1 (off := 4) (tgt := 1129) (pc := 1125) (by decide +kernel) (by decide) ?_
  refine l_ev (x := 302) (tg := 12) (k := 253) (index := 145) (as := [vI (xs (i + 1)), vI 1]) (ρ := ρ) rfl ev2 (by decide +kernel) (by decide) rfl (by decide) (vok_I (vok_I vok_nil)) cx ly z7 (in_t9 (List.mem_of_getElem? (i := 163) rfl) rfl) rfl hc (Nat.le_of_ble_eq_true rfl) (pc := 1129) (by decide +kernel) (fun H1 locs1 ly => ?_)
  refine lv_icmp_eq cx.1.1 cx.1.2.1 (off := 30) (tgt := 1162) (pc := 1132) (by decide +kernel) (by decide) (fun _ => ?_) (fun hno => absurd rfl hno)
  exact kk _ _ _ ly (inv2.le (by omega) (by omega))
theorem lc_28 (cx : LZ p s m meth c dC dI cA ρ b L xs) (ly : LY s dC dI cA ρ M H locs) (hi : Inv t M) (ht : t + 1 < 10000) (hl : LVs ls ρ b i) (hij : i + 7 ≤ L) (hc : cells ≤ 601024 ∧ slots ≤ 7293034) (kk : ∀ M' H' locs', LY s dC dI cA ρ M' H' locs' → Inv (t + 1) M' → W p l e room_1 s m #[Value.ref b] below meth c H' locs' cells slots Q (F0 m 1162 ls [])) : W p l e room_1 s m #[Value.ref b] below meth c H locs cells slots Q (F0 m 1137 ls []) := by
  obtain ⟨z7, l0, l1, l2, l3, l4⟩ := hl.all
  obtain ⟨r1, M1, ev1, v, hr1, r2, M2, ev2, hr2, inv2⟩ := (show Two t t 112 303 [vR 11 0 0, vI (xs (i + 1))] [vR 12 0 253, vI (xs (i + 1))] from two_count) M hi
  subst hr1
  subst hr2
  refine lv_aload_n cx.1.1 cx.1.2.1 (k := 1) (pc := 1137) (by decide +kernel) rfl l1 ?_
  refine l_arg (j := 1) cx ly l0 l4 rfl (by omega) (by decide) (pc := 1138) (by decide +kernel) (by decide +kernel) (by decide +kernel) (by decide +kernel) (by decide +kernel) ?_
  refine l_ev (x := 112) (tg := 11) (k := 0) (index := 146) (as := [vI (xs (i + 1))]) (ρ := ρ) rfl ev1 (by decide +kernel) (by decide) rfl (by decide) (vok_I vok_nil) cx ly z7 (in_t5 (List.mem_of_getElem? (i := 85) rfl) rfl) rfl hc (Nat.le_of_ble_eq_true rfl) (pc := 1144) (by decide +kernel) (fun H1 locs1 ly => ?_)
  refine lv_aload_n cx.1.1 cx.1.2.1 (k := 2) (pc := 1147) (by decide +kernel) rfl l2 ?_
  refine l_arg (j := 1) cx ly l0 l4 rfl (by omega) (by decide) (pc := 1148) (by decide +kernel) (by decide +kernel) (by decide +kernel) (by decide +kernel) (by decide +kernel) ?_
  refine l_ev (x := 303) (tg := 12) (k := 253) (index := 149) (as := [vI (xs (i + 1))]) (ρ := ρ) rfl ev2 (by decide +kernel) (by decide) rfl (by decide) (vok_I vok_nil) cx ly z7 (in_t9 (List.mem_of_getElem? (i := 167) rfl) rfl) rfl hc (Nat.le_of_ble_eq_true rfl) (pc := 1154) (by decide +kernel) (fun H1 locs1 ly => ?_)
  refine lv_icmp_eq cx.1.1 cx.1.2.1 (off := 5) (tgt := 1162) (pc := 1157) (by decide +kernel) (by decide) (fun _ => ?_) (fun hno => absurd rfl hno)
  exact kk _ _ _ ly (inv2.le (by omega) (by omega))
end LAWC
