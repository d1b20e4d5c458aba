/-! the law's case that throws (gen99p.py) -/
section RESTL
variable {ρ : Nat → Nat} {cA : Nat → ClassId} {dC : Nat → ClassId} {dI : Nat → Nat → Nat} {M M' : Mem}
variable {p : Program} {l : Launch} {e : Env} {s : State} {m : MethodId} {below : List Frame} {meth : Method} {c : Code} {H : Heap} {locs : List Loc} {cells slots : Nat} {Q : State → Prop}
variable {ls : Array Slot} {h u x w : Int32} {b L : Nat} {xs : Nat → Int32}
theorem lr_words : GoodIn lw_g (va_wsS "IceParliamentLaw" 128 yLr (.codeWith yLr method_3_code 7 (Option.some Jvm.ClassFile.FieldType.int) [(0, 14, 17, 13)] :: lw_g)) := by
  have hg : ∀ {z : Cond}, z ∈ lw_g → z ∈ lw_g ∧ ((z.onTables && z.keeps) = true ∨ ∃ ty, z = .arrayClass ty) := fun h => ⟨h, good_of_word (List.mem_filter.mp h).2⟩
  intro z hz
  rcases List.mem_append.mp hz with hz | hz
  · rcases List.mem_cons.mp hz with rfl | hz
    · exact hg (in_t6 (List.mem_of_getElem? (i := 199) rfl) rfl)
    · rcases List.mem_cons.mp hz with rfl | hz
      · exact hg (in_t6 (List.mem_of_getElem? (i := 200) rfl) rfl)
      · rcases List.mem_cons.mp hz with rfl | hz
        · exact hg (in_t1 (List.mem_of_getElem? (i := 0) rfl) rfl)
        · exact absurd hz List.not_mem_nil
  · rcases List.mem_cons.mp hz with rfl | hz
    · exact hg (in_t6 (List.mem_of_getElem? (i := 201) rfl) rfl)
    · exact hg hz
theorem l_rests {v : Int32} (cx : LZ p s m meth c dC dI cA ρ b L xs) (htr : l.stackTraces = false) (hxn : XN s) (hxz : XZ (AB s.heap.size) s s.heap) (hres : LRs h u x w v M M') (hm' : MOK WF M') (ly : LY s dC dI cA ρ M H locs) (hls : ls.size = 7) (hc : cells + 1 ≤ 601024 ∧ slots + 6 ≤ 7293034)
    (kk : ∀ (H1 : Heap) (locs1 : List Loc), LY s dC dI cA ρ M' H1 locs1 → W p l e room_1 s m #[Value.ref b] below meth c H1 locs1 (cells + 1) (slots + 6) Q (F0 m 972 ls [.int v])) : W p l e room_1 s m #[Value.ref b] below meth c H locs cells slots Q (F0 m 969 ls [.ref (ρ 278), .int w, .int x, .int u, .int h, .ref (ρ 0)]) := by
  obtain ⟨hB, hK, hρ, hX, hbl, hL⟩ := cx
  obtain ⟨hP, hS, hmok⟩ := ly
  have hD : va_D (AB s.heap.size) (wsOf ρ cA M WF) := D_WF hρ (fun q h => h)
  have hF : CallFix p m c code 7 s #[Value.ref b] lw_g "IceParliamentLaw" := ⟨hB.1, hB.2.1, hB.2.2.1, hB.2.2.2.1, hB.2.2.2.2.1⟩
  have hMm := c_lr (dC := dC) (dI := dI) (cA := cA) (ρ := ρ) (A := AB s.heap.size) (sz := H.size) htr hmok hres
  have cw := vx_cwSW (R := room_1) (rm := rmN 80 1 6) 6 hB.2.2.2.2.1 lr_words rfl rfl rfl ⟨by decide, by decide, rfl⟩ ⟨Nat.le_of_ble_eq_true rfl, Nat.le_of_ble_eq_true rfl⟩
  have hps := rx_of (as := [.ref (ρ 0), .int h, .int u, .int x, .int w, .ref (ρ 278)]) hK hxn hxz hP hD hS
  have hrun := vx_runSW (e := e) (meth := meth) (locs := locs) (below := below) (cells := cells) (slots := slots) (As := [.ref (ρ 0), .int h, .int u, .int x, .int w, .ref (ρ 278)]) (rest := []) (g := F0 m 969 ls [.ref (ρ 278), .int w, .int x, .int u, .int h, .ref (ρ 0)]) hF hMm cw hps rfl rfl hls rfl (lv_room (Nat.le_of_ble_eq_true rfl)) (show decode code 969 = .ok (.invokestatic 128, 3) by decide +kernel) hc
  exact call_goX hrun hS (fun H1 locs1 hP1 hS1 => kk H1 locs1 ⟨hP1, hS1, hm'⟩)
/-- the case, from its answer on -/
theorem l_rests2 {t i : Nat} {v r : Int32} {M1 : Mem} (hv : (v = 0 ∧ M1.2.1 278 0 = r.toInt64) ∨ v = 1) (cx : LZ p s m meth c dC dI cA ρ b L xs) (ev : evD 60 297 [vR 12 0 253, vI (xs (i + 1)), vI (xs (i + 2)), vI (xs (i + 3)), vI (xs (i + 4))] M1 = some (some (vI r), sI M1 253 0 v)) (inv : Inv (t + 1) M1) (ly : LY s dC dI cA ρ M1 H locs) (hl : LVs ls ρ b i) (hij : i + 7 ≤ L) (hc : cells ≤ 601024 ∧ slots ≤ 7293034)
    (kk : ∀ M' H' locs' ls', LY s dC dI cA ρ M' H' locs' → Inv (t + 1) M' → LVs ls' ρ b i → W p l e room_1 s m #[Value.ref b] below meth c H' locs' cells slots Q (F0 m 1162 ls' [])) : W p l e room_1 s m #[Value.ref b] below meth c H locs cells slots Q (F0 m 972 ls [.int v]) := by
  obtain ⟨hB, hK, hρ, hX, hbl, hL⟩ := id cx
  refine lv_istore (i := 5) (lv' := [(5, .int v), (4, .int (Int32.ofNat i)), (3, .ref (ρ 278)), (2, .ref (ρ 253)), (1, .ref (ρ 0)), (0, .ref b)]) hB.1 hB.2.1 (pc := 972) (by decide +kernel) hl (by decide) rfl (fun ls2 hl2 => ?_)
  have l0 : ls2[0]? = some (.val (.ref b)) := hl2.2.2 (0, .ref b) (by simp)
  have l2 : ls2[2]? = some (.val (.ref (ρ 253))) := hl2.2.2 (2, .ref (ρ 253)) (by simp)
  have l4 : ls2[4]? = some (.val (.int (Int32.ofNat i))) := hl2.2.2 (4, .int (Int32.ofNat i)) (by simp)
  refine lv_aload_n hB.1 hB.2.1 (k := 2) (pc := 974) (by decide +kernel) rfl l2 ?_
  refine l_arg (j := 1) cx ly l0 l4 rfl (by omega) (by decide) (pc := 975) (by decide +kernel) (by decide +kernel) (by decide +kernel) (by decide +kernel) (by decide +kernel) ?_
  refine l_arg (j := 2) cx ly l0 l4 rfl (by omega) (by decide) (pc := 981) (by decide +kernel) (by decide +kernel) (by decide +kernel) (by decide +kernel) (by decide +kernel) ?_
  refine l_arg (j := 3) cx ly l0 l4 rfl (by omega) (by decide) (pc := 987) (by decide +kernel) (by decide +kernel) (by decide +kernel) (by decide +kernel) (by decide +kernel) ?_
  refine l_arg (j := 4) cx ly l0 l4 rfl (by omega) (by decide) (pc := 993) (by decide +kernel) (by decide +kernel) (by decide +kernel) (by decide +kernel) (by decide +kernel) ?_
  refine l_ev (x := 297) (tg := 12) (k := 253) (index := 133) (as := [vI (xs (i + 1)), vI (xs (i + 2)), vI (xs (i + 3)), vI (xs (i + 4))]) (ρ := ρ) rfl ev (by decide +kernel) (by decide) rfl (by decide) (vok_I (vok_I (vok_I (vok_I vok_nil)))) cx ly hl2.1 (in_t9 (List.mem_of_getElem? (i := 140) rfl) rfl) rfl hc (Nat.le_of_ble_eq_true rfl) (pc := 999) (by decide +kernel) (fun H1 locs1 ly => ?_)
  refine lv_istore (i := 6) (lv' := [(6, .int r), (5, .int v), (4, .int (Int32.ofNat i)), (3, .ref (ρ 278)), (2, .ref (ρ 253)), (1, .ref (ρ 0)), (0, .ref b)]) hB.1 hB.2.1 (pc := 1002) (by decide +kernel) hl2 (by decide) rfl (fun ls3 hl3 => ?_)
  have m2 : ls3[2]? = some (.val (.ref (ρ 253))) := hl3.2.2 (2, .ref (ρ 253)) (by simp)
  have m3 : ls3[3]? = some (.val (.ref (ρ 278))) := hl3.2.2 (3, .ref (ρ 278)) (by simp)
  have m5 : ls3[5]? = some (.val (.int v)) := hl3.2.2 (5, .int v) (by simp)
  have m6 : ls3[6]? = some (.val (.int r)) := hl3.2.2 (6, .int r) (by simp)
  have ev3 : evD 60 191 [vR 12 0 253] (sI M1 253 0 v) = some (some (vI v), sI M1 253 0 v) := by rw [e191, sI_eq]
  refine lv_aload_n hB.1 hB.2.1 (k := 2) (pc := 1004) (by decide +kernel) rfl m2 ?_
  refine l_ev (x := 191) (tg := 12) (k := 253) (index := 134) (as := []) (ρ := ρ) rfl ev3 (by decide +kernel) (by decide) rfl (by decide) vok_nil cx ly hl3.1 (in_t7 (List.mem_of_getElem? (i := 37) rfl) rfl) rfl hc (Nat.le_of_ble_eq_true rfl) (pc := 1005) (by decide +kernel) (fun H2 locs2 ly => ?_)
  refine lv_iload hB.1 hB.2.1 (pc := 1008) (by decide +kernel) m5 ?_
  refine lv_icmp_eq hB.1 hB.2.1 (off := 5) (tgt := 1015) (pc := 1010) (by decide +kernel) (by decide) (fun _ => ?_) (fun hno => absurd rfl hno)
  refine lv_iload hB.1 hB.2.1 (pc := 1015) (by decide +kernel) m5 ?_
  have fin : W p l e room_1 s m #[Value.ref b] below meth c H2 locs2 cells slots Q (F0 m 1032 ls3 []) := by
    refine lv_goto hB.1 hB.2.1 (off := 130) (tgt := 1162) (pc := 1032) (by decide +kernel) (by decide) ?_
    exact kk _ _ _ _ ly inv.th (lv_sub hl3 [2, 3, 4, 5, 6] rfl)
  rcases hv with ⟨rfl, hr⟩ | rfl
  · refine lv_if_ne hB.1 hB.2.1 (off := 15) (tgt := 1032) (pc := 1017) (by decide +kernel) (by decide) (fun hno => absurd rfl hno) (fun _ => ?_)
    refine lv_aload_n hB.1 hB.2.1 (k := 3) (pc := 1020) (by decide +kernel) rfl m3 ?_
    refine lv_iconst hB.1 hB.2.1 (n := 0) (v := 0) (pc := 1021) (by decide +kernel) (by decide) ?_
    have he := wsOf_at (ρ := ρ) (cA := cA) (M := sI M1 253 0 0) (show WF[278]? = some (23, 1, 278) from rfl)
    rw [ce_long rfl] at he
    refine va_lald hB.1 hB.2.1 hK.1 ly.1 278 3 he rfl (i := 0) (show ¬ ((0 : Int32) < 0 ∨ 1 ≤ (0 : Int32).toNatClampNeg) by decide) (pc := 1022) (by decide +kernel) ?_
    refine lv_iload hB.1 hB.2.1 (pc := 1023) (by decide +kernel) m6 ?_
    refine lv_i2l hB.1 hB.2.1 (v := r.toInt64) (pc := 1025) (by decide +kernel) rfl ?_
    refine W.lcmp hB.1 hB.2.1 (pc := 1026) (by decide +kernel) ?_
    refine lv_if_eq hB.1 hB.2.1 (off := 5) (tgt := 1032) (pc := 1027) (by decide +kernel) (by decide) (fun _ => fin) (fun hno => absurd ((lg_cmp_eq _ _).mpr hr) hno)
  · refine lv_if_ne hB.1 hB.2.1 (off := 15) (tgt := 1032) (pc := 1017) (by decide +kernel) (by decide) (fun _ => fin) (fun he => absurd he (by decide))
theorem c25 (cx : LZ p s m meth c dC dI cA ρ b L xs) (htr : l.stackTraces = false) (hxn : XN s) (hxz : XZ (AB s.heap.size) s s.heap) : C25 p l e s m below meth c dC dI cA ρ b L xs Q := by
  intro M H locs t i cells slots ls ly hi ht hl hij hc kk
  obtain ⟨z7, l0, l1, l2, l3, l4⟩ := hl.all
  obtain ⟨hB, hK, hρ, hX, hbl, hL⟩ := id cx
  refine lv_aload_n hB.1 hB.2.1 (k := 1) (pc := 943) (by decide +kernel) rfl l1 ?_
  refine l_arg (j := 1) cx ly l0 l4 rfl (by omega) (by decide) (pc := 944) (by decide +kernel) (by decide +kernel) (by decide +kernel) (by decide +kernel) (by decide +kernel) ?_
  refine l_arg (j := 2) cx ly l0 l4 rfl (by omega) (by decide) (pc := 950) (by decide +kernel) (by decide +kernel) (by decide +kernel) (by decide +kernel) (by decide +kernel) ?_
  refine l_arg (j := 3) cx ly l0 l4 rfl (by omega) (by decide) (pc := 956) (by decide +kernel) (by decide +kernel) (by decide +kernel) (by decide +kernel) (by decide +kernel) ?_
  refine l_arg (j := 4) cx ly l0 l4 rfl (by omega) (by decide) (pc := 962) (by decide +kernel) (by decide +kernel) (by decide +kernel) (by decide +kernel) (by decide +kernel) ?_
  refine lv_aload_n hB.1 hB.2.1 (k := 3) (pc := 968) (by decide +kernel) rfl l3 ?_
  have hi1 : Inv (t + 1) M := hi.le (by omega) (by omega)
  have kw : ∀ M' H' locs' ls', LY s dC dI cA ρ M' H' locs' → Inv (t + 1) M' → LVs ls' ρ b i → W p l e room_1 s m #[Value.ref b] below meth c H' locs' (cells + 1) (slots + 6) Q (F0 m 1162 ls' []) := fun M' H' locs' ls' a1 a2 a3 => W.widen (by omega) (by omega) (kk M' H' locs' ls' a1 a2 a3)
  rcases rests_two (xs (i + 1)) (xs (i + 2)) (xs (i + 3)) (xs (i + 4)) with ⟨r, c1, e1, ev⟩ | ⟨hbad, ev⟩
  · refine l_rests cx htr hxn hxz (.inl ⟨r, c1, e1, rfl, rfl⟩) (MOK_sJ ly.2.2) ly z7 ⟨by omega, by omega⟩ (fun H1 locs1 ly1 => ?_)
    exact l_rests2 (.inl ⟨rfl, sJ_eq⟩) cx (ev _) hi1.out ly1 hl hij ⟨by omega, by omega⟩ kw
  · refine l_rests cx htr hxn hxz (.inr ⟨hbad, rfl, rfl⟩) ly.2.2 ly z7 ⟨by omega, by omega⟩ (fun H1 locs1 ly1 => ?_)
    exact l_rests2 (.inr rfl) cx (ev _) hi1 ly1 hl hij ⟨by omega, by omega⟩ kw
end RESTL
