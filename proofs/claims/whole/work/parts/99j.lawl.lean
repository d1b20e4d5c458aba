/-! THE LAW'S LOOP, by a program (gen99j.py); C25 (rests) is left open here -/
section LAWL
variable {M M' : Mem} {t i : Nat} {ρ : Nat → Nat} {cA : Nat → ClassId} {dC : Nat → ClassId} {dI : Nat → Nat → Nat}
variable {p : Program} {l : Launch} {e : Env} {R : Room} {s : State} {m : MethodId} {args : Array Value} {below : List Frame} {meth : Method} {c : Code} {H : Heap} {locs : List Loc} {cells slots : Nat} {Q : State → Prop}
variable {pc : Nat} {ls : Array Slot} {rest : List Value} {b L : Nat} {xs : Nat → Int32}
/-- the case that throws: owed -/
def C25 (p : Program) (l : Launch) (e : Env) (s : State) (m : MethodId) (below : List Frame) (meth : Method) (c : Code) (dC : Nat → ClassId) (dI : Nat → Nat → Nat) (cA : Nat → ClassId) (ρ : Nat → Nat) (b L : Nat) (xs : Nat → Int32) (Q : State → Prop) : Prop :=
  ∀ (M : Mem) (H : Heap) (locs : List Loc) (t i cells slots : Nat) (ls : Array Slot), LY s dC dI cA ρ M H locs → Inv t M → t + 1 < 10000 → LVs ls ρ b i → i + 7 ≤ L → cells + 100 ≤ 601024 ∧ slots + 1000 ≤ 7293034 →
    (∀ M' H' locs' ls', LY s dC dI cA ρ M' H' locs' → Inv (t + 1) M' → LVs ls' ρ b i → W p l e room_1 s m #[Value.ref b] below meth c H' locs' (cells + 100) (slots + 1000) Q (F0 m 1162 ls' [])) → W p l e room_1 s m #[Value.ref b] below meth c H locs cells slots Q (F0 m 943 ls [])
theorem and31 (x : Int32) : ∃ k, k < 32 ∧ x &&& 31 = Int32.ofNat k := by
  refine ⟨x.toBitVec.toNat &&& 31, Nat.lt_of_le_of_lt Nat.and_le_right (by decide), ?_⟩
  apply Int32.toBitVec_inj.mp
  apply BitVec.eq_of_toNat_eq
  rw [Int32.toBitVec_and, BitVec.toNat_and]
  have h1 : x.toBitVec.toNat &&& 31 ≤ 31 := Nat.and_le_right
  have h2 : (Int32.toBitVec (Int32.ofNat (x.toBitVec.toNat &&& 31))).toNat = x.toBitVec.toNat &&& 31 := by
    show (BitVec.ofNat 32 (x.toBitVec.toNat &&& 31)).toNat = _
    rw [BitVec.toNat_ofNat]; exact Nat.mod_eq_of_lt (by omega)
  rw [h2]; rfl
theorem l_gt {L i : Nat} (hL : L ≤ 3584) (hi : i ≤ 3591) : Int32.ofNat L - 7 < Int32.ofNat i ↔ L < i + 7 := by
  have e1 : Int32.ofNat L - 7 = Int32.ofInt ((L : Int) - 7) := by
    rw [Int32.ofInt_sub]; rfl
  have e2 : Int32.ofNat i = Int32.ofInt (i : Int) := rfl
  rw [e1, e2, Int32.lt_iff_toInt_lt, Int32.toInt_ofInt_of_le (by omega) (by omega), Int32.toInt_ofInt_of_le (by omega) (by omega)]
  omega
set_option maxRecDepth 20000 in
theorem d40 : decode code 40 = .ok (.tableswitch 1122 0 28 #[132, 279, 292, 305, 342, 379, 392, 417, 454, 491, 516, 541, 554, 567, 592, 617, 630, 655, 692, 717, 766, 803, 828, 865, 890, 903, 995, 1044, 1097], 132) := by decide +kernel
theorem law_head (cx : LZ p s m meth c dC dI cA ρ b L xs) (hend : ∀ H locs ls, (∀ z ∈ locs, s.heap.size ≤ z.base) → W p l e room_1 s m #[Value.ref b] below meth c H locs 601024 7293034 Q (F0 m 1169 ls [.int 1])) (hit : i ≤ 3591) (hc : cells ≤ 601024 ∧ slots ≤ 7293034) (ly : LY s dC dI cA ρ M H locs) (hl : LVs ls ρ b i) (kk : i + 7 ≤ L → W p l e room_1 s m #[Value.ref b] below meth c H locs cells slots Q (F0 m 40 ls [.int (xs i &&& 31)])) : W p l e room_1 s m #[Value.ref b] below meth c H locs cells slots Q (F0 m 23 ls []) := by
  obtain ⟨z7, l0, l1, l2, l3, l4⟩ := hl.all
  obtain ⟨hB, hK, hρ, hX, hbl, hL⟩ := id cx
  refine lv_iload hB.1 hB.2.1 (pc := 23) (by decide +kernel) l4 ?_
  refine lv_aload_n hB.1 hB.2.1 (k := 0) (pc := 25) (by decide +kernel) rfl l0 ?_
  refine va_slen (A := AB s.heap.size) hB.1 hB.2.1 hX hbl (Nat.not_le.mpr hbl) ly.2.1 (pc := 26) (by decide +kernel) ?_
  refine lv_bipush hB.1 hB.2.1 (n := 7) (v := 7) (pc := 27) (by decide +kernel) (by decide) ?_
  refine lv_isub hB.1 hB.2.1 (pc := 29) (by decide +kernel) ?_
  refine lv_icmp_gt hB.1 hB.2.1 (off := 1138) (tgt := 1168) (pc := 30) (by decide +kernel) (by decide) (fun _ => ?_) (fun hno => ?_)
  · refine lv_iconst hB.1 hB.2.1 (n := 1) (v := 1) (pc := 1168) (by decide +kernel) (by decide) ?_
    exact W.widen hc.1 hc.2 (hend H locs ls (fun z hz => ly.2.1.2.2 z hz))
  · have hij : i + 7 ≤ L := by
      have := (not_congr (l_gt hL hit)).mp hno
      omega
    refine lv_aload_n hB.1 hB.2.1 (k := 0) (pc := 33) (by decide +kernel) rfl l0 ?_
    refine lv_iload hB.1 hB.2.1 (pc := 34) (by decide +kernel) l4 ?_
    have e2 : (Int32.ofNat i).toNatClampNeg = i := i_nat (by omega)
    refine va_sld (A := AB s.heap.size) hB.1 hB.2.1 hX hbl (Nat.not_le.mpr hbl) ly.2.1 (fun z => ?_) (pc := 36) (by decide +kernel) ?_
    · rcases z with z | z
      · exact i_neg (n := i) (by omega) z
      · rw [e2] at z; omega
    · rw [e2]
      refine lv_bipush hB.1 hB.2.1 (n := 31) (v := 31) (pc := 37) (by decide +kernel) (by decide) ?_
      refine lv_iand hB.1 hB.2.1 (pc := 39) (by decide +kernel) ?_
      exact kk hij
set_option maxRecDepth 20000 in
theorem l_case_open (cx : LZ p s m meth c dC dI cA ρ b L xs) (h25 : C25 p l e s m below meth c dC dI cA ρ b L xs Q) (ly : LY s dC dI cA ρ M H locs) (hi : Inv t M) (ht : t + 1 < 10000) (hl : LVs ls ρ b i) (hij : i + 7 ≤ L) (hc : cells + 100 ≤ 601024 ∧ slots + 1000 ≤ 7293034) (kk : ∀ M' H' locs' ls', LY s dC dI cA ρ M' H' locs' → Inv (t + 1) M' → LVs ls' ρ b i → W p l e room_1 s m #[Value.ref b] below meth c H' locs' (cells + 100) (slots + 1000) Q (F0 m 1162 ls' [])) : ∀ k, k < 32 → W p l e room_1 s m #[Value.ref b] below meth c H locs cells slots Q (F0 m 40 ls [.int (Int32.ofNat k)])
  | 0, _ => lv_tableIn cx.1.1 cx.1.2.1 (off := 132) (tgt := 172) d40 (by decide) (by decide) (by decide +kernel) (by decide) (W.widen (Nat.le_add_right cells 100) (Nat.le_add_right slots 1000) (lc_0 cx ly hi ht hl hij hc (fun M' H' locs' a b => kk M' H' locs' ls a b hl)))
  | 1, _ => lv_tableIn cx.1.1 cx.1.2.1 (off := 279) (tgt := 319) d40 (by decide) (by decide) (by decide +kernel) (by decide) (W.widen (Nat.le_add_right cells 100) (Nat.le_add_right slots 1000) (lc_1 cx ly hi ht hl hij hc (fun M' H' locs' a b => kk M' H' locs' ls a b hl)))
  | 2, _ => lv_tableIn cx.1.1 cx.1.2.1 (off := 292) (tgt := 332) d40 (by decide) (by decide) (by decide +kernel) (by decide) (W.widen (Nat.le_add_right cells 100) (Nat.le_add_right slots 1000) (lc_2 cx ly hi ht hl hij hc (fun M' H' locs' a b => kk M' H' locs' ls a b hl)))
  | 3, _ => lv_tableIn cx.1.1 cx.1.2.1 (off := 305) (tgt := 345) d40 (by decide) (by decide) (by decide +kernel) (by decide) (W.widen (Nat.le_add_right cells 100) (Nat.le_add_right slots 1000) (lc_3 cx ly hi ht hl hij hc (fun M' H' locs' a b => kk M' H' locs' ls a b hl)))
  | 4, _ => lv_tableIn cx.1.1 cx.1.2.1 (off := 342) (tgt := 382) d40 (by decide) (by decide) (by decide +kernel) (by decide) (W.widen (Nat.le_add_right cells 100) (Nat.le_add_right slots 1000) (lc_4 cx ly hi ht hl hij hc (fun M' H' locs' a b => kk M' H' locs' ls a b hl)))
  | 5, _ => lv_tableIn cx.1.1 cx.1.2.1 (off := 379) (tgt := 419) d40 (by decide) (by decide) (by decide +kernel) (by decide) (W.widen (Nat.le_add_right cells 100) (Nat.le_add_right slots 1000) (lc_5 cx ly hi ht hl hij hc (fun M' H' locs' a b => kk M' H' locs' ls a b hl)))
  | 6, _ => lv_tableIn cx.1.1 cx.1.2.1 (off := 392) (tgt := 432) d40 (by decide) (by decide) (by decide +kernel) (by decide) (W.widen (Nat.le_add_right cells 100) (Nat.le_add_right slots 1000) (lc_6 cx ly hi ht hl hij hc (fun M' H' locs' a b => kk M' H' locs' ls a b hl)))
  | 7, _ => lv_tableIn cx.1.1 cx.1.2.1 (off := 417) (tgt := 457) d40 (by decide) (by decide) (by decide +kernel) (by decide) (W.widen (Nat.le_add_right cells 100) (Nat.le_add_right slots 1000) (lc_7 cx ly hi ht hl hij hc (fun M' H' locs' a b => kk M' H' locs' ls a b hl)))
  | 8, _ => lv_tableIn cx.1.1 cx.1.2.1 (off := 454) (tgt := 494) d40 (by decide) (by decide) (by decide +kernel) (by decide) (W.widen (Nat.le_add_right cells 100) (Nat.le_add_right slots 1000) (lc_8 cx ly hi ht hl hij hc (fun M' H' locs' a b => kk M' H' locs' ls a b hl)))
  | 9, _ => lv_tableIn cx.1.1 cx.1.2.1 (off := 491) (tgt := 531) d40 (by decide) (by decide) (by decide +kernel) (by decide) (W.widen (Nat.le_add_right cells 100) (Nat.le_add_right slots 1000) (lc_9 cx ly hi ht hl hij hc (fun M' H' locs' a b => kk M' H' locs' ls a b hl)))
  | 10, _ => lv_tableIn cx.1.1 cx.1.2.1 (off := 516) (tgt := 556) d40 (by decide) (by decide) (by decide +kernel) (by decide) (W.widen (Nat.le_add_right cells 100) (Nat.le_add_right slots 1000) (lc_10 cx ly hi ht hl hij hc (fun M' H' locs' a b => kk M' H' locs' ls a b hl)))
  | 11, _ => lv_tableIn cx.1.1 cx.1.2.1 (off := 541) (tgt := 581) d40 (by decide) (by decide) (by decide +kernel) (by decide) (W.widen (Nat.le_add_right cells 100) (Nat.le_add_right slots 1000) (lc_11 cx ly hi ht hl hij hc (fun M' H' locs' a b => kk M' H' locs' ls a b hl)))
  | 12, _ => lv_tableIn cx.1.1 cx.1.2.1 (off := 554) (tgt := 594) d40 (by decide) (by decide) (by decide +kernel) (by decide) (W.widen (Nat.le_add_right cells 100) (Nat.le_add_right slots 1000) (lc_12 cx ly hi ht hl hij hc (fun M' H' locs' a b => kk M' H' locs' ls a b hl)))
  | 13, _ => lv_tableIn cx.1.1 cx.1.2.1 (off := 567) (tgt := 607) d40 (by decide) (by decide) (by decide +kernel) (by decide) (W.widen (Nat.le_add_right cells 100) (Nat.le_add_right slots 1000) (lc_13 cx ly hi ht hl hij hc (fun M' H' locs' a b => kk M' H' locs' ls a b hl)))
  | 14, _ => lv_tableIn cx.1.1 cx.1.2.1 (off := 592) (tgt := 632) d40 (by decide) (by decide) (by decide +kernel) (by decide) (W.widen (Nat.le_add_right cells 100) (Nat.le_add_right slots 1000) (lc_14 cx ly hi ht hl hij hc (fun M' H' locs' a b => kk M' H' locs' ls a b hl)))
  | 15, _ => lv_tableIn cx.1.1 cx.1.2.1 (off := 617) (tgt := 657) d40 (by decide) (by decide) (by decide +kernel) (by decide) (W.widen (Nat.le_add_right cells 100) (Nat.le_add_right slots 1000) (lc_15 cx ly hi ht hl hij hc (fun M' H' locs' a b => kk M' H' locs' ls a b hl)))
  | 16, _ => lv_tableIn cx.1.1 cx.1.2.1 (off := 630) (tgt := 670) d40 (by decide) (by decide) (by decide +kernel) (by decide) (W.widen (Nat.le_add_right cells 100) (Nat.le_add_right slots 1000) (lc_16 cx ly hi ht hl hij hc (fun M' H' locs' a b => kk M' H' locs' ls a b hl)))
  | 17, _ => lv_tableIn cx.1.1 cx.1.2.1 (off := 655) (tgt := 695) d40 (by decide) (by decide) (by decide +kernel) (by decide) (W.widen (Nat.le_add_right cells 100) (Nat.le_add_right slots 1000) (lc_17 cx ly hi ht hl hij hc (fun M' H' locs' a b => kk M' H' locs' ls a b hl)))
  | 18, _ => lv_tableIn cx.1.1 cx.1.2.1 (off := 692) (tgt := 732) d40 (by decide) (by decide) (by decide +kernel) (by decide) (W.widen (Nat.le_add_right cells 100) (Nat.le_add_right slots 1000) (lc_18 cx ly hi ht hl hij hc (fun M' H' locs' a b => kk M' H' locs' ls a b hl)))
  | 19, _ => lv_tableIn cx.1.1 cx.1.2.1 (off := 717) (tgt := 757) d40 (by decide) (by decide) (by decide +kernel) (by decide) (W.widen (Nat.le_add_right cells 100) (Nat.le_add_right slots 1000) (lc_19 cx ly hi ht hl hij hc (fun M' H' locs' a b => kk M' H' locs' ls a b hl)))
  | 20, _ => lv_tableIn cx.1.1 cx.1.2.1 (off := 766) (tgt := 806) d40 (by decide) (by decide) (by decide +kernel) (by decide) (W.widen (Nat.le_add_right cells 100) (Nat.le_add_right slots 1000) (lc_20 cx ly hi ht hl hij hc (fun M' H' locs' a b => kk M' H' locs' ls a b hl)))
  | 21, _ => lv_tableIn cx.1.1 cx.1.2.1 (off := 803) (tgt := 843) d40 (by decide) (by decide) (by decide +kernel) (by decide) (W.widen (Nat.le_add_right cells 100) (Nat.le_add_right slots 1000) (lc_21 cx ly hi ht hl hij hc (fun M' H' locs' a b => kk M' H' locs' ls a b hl)))
  | 22, _ => lv_tableIn cx.1.1 cx.1.2.1 (off := 828) (tgt := 868) d40 (by decide) (by decide) (by decide +kernel) (by decide) (W.widen (Nat.le_add_right cells 100) (Nat.le_add_right slots 1000) (lc_22 cx ly hi ht hl hij hc (fun M' H' locs' a b => kk M' H' locs' ls a b hl)))
  | 23, _ => lv_tableIn cx.1.1 cx.1.2.1 (off := 865) (tgt := 905) d40 (by decide) (by decide) (by decide +kernel) (by decide) (W.widen (Nat.le_add_right cells 100) (Nat.le_add_right slots 1000) (lc_23 cx ly hi ht hl hij hc (fun M' H' locs' a b => kk M' H' locs' ls a b hl)))
  | 24, _ => lv_tableIn cx.1.1 cx.1.2.1 (off := 890) (tgt := 930) d40 (by decide) (by decide) (by decide +kernel) (by decide) (W.widen (Nat.le_add_right cells 100) (Nat.le_add_right slots 1000) (lc_24 cx ly hi ht hl hij hc (fun M' H' locs' a b => kk M' H' locs' ls a b hl)))
  | 25, _ => lv_tableIn cx.1.1 cx.1.2.1 (off := 903) (tgt := 943) d40 (by decide) (by decide) (by decide +kernel) (by decide) (h25 M H locs t i cells slots ls ly hi ht hl hij hc kk)
  | 26, _ => lv_tableIn cx.1.1 cx.1.2.1 (off := 995) (tgt := 1035) d40 (by decide) (by decide) (by decide +kernel) (by decide) (W.widen (Nat.le_add_right cells 100) (Nat.le_add_right slots 1000) (lc_26 cx ly hi ht hl hij hc (fun M' H' locs' a b => kk M' H' locs' ls a b hl)))
  | 27, _ => lv_tableIn cx.1.1 cx.1.2.1 (off := 1044) (tgt := 1084) d40 (by decide) (by decide) (by decide +kernel) (by decide) (W.widen (Nat.le_add_right cells 100) (Nat.le_add_right slots 1000) (by
      by_cases hz : xs (i + 2) = 0
      · exact lc_27a hz cx ly hi ht hl hij hc (fun M' H' locs' a b => kk M' H' locs' ls a b hl)
      · exact lc_27b hz cx ly hi ht hl hij hc (fun M' H' locs' a b => kk M' H' locs' ls a b hl)))
  | 28, _ => lv_tableIn cx.1.1 cx.1.2.1 (off := 1097) (tgt := 1137) d40 (by decide) (by decide) (by decide +kernel) (by decide) (W.widen (Nat.le_add_right cells 100) (Nat.le_add_right slots 1000) (lc_28 cx ly hi ht hl hij hc (fun M' H' locs' a b => kk M' H' locs' ls a b hl)))
  | 29, _ => lv_tableOut cx.1.1 cx.1.2.1 (tgt := 1162) d40 (by decide) (by decide) (W.widen (Nat.le_add_right cells 100) (Nat.le_add_right slots 1000) (kk M H locs ls ly (hi.le (by omega) (by omega)) hl))
  | 30, _ => lv_tableOut cx.1.1 cx.1.2.1 (tgt := 1162) d40 (by decide) (by decide) (W.widen (Nat.le_add_right cells 100) (Nat.le_add_right slots 1000) (kk M H locs ls ly (hi.le (by omega) (by omega)) hl))
  | 31, _ => lv_tableOut cx.1.1 cx.1.2.1 (tgt := 1162) d40 (by decide) (by decide) (W.widen (Nat.le_add_right cells 100) (Nat.le_add_right slots 1000) (kk M H locs ls ly (hi.le (by omega) (by omega)) hl))
  | k + 32, h => absurd h (by omega)
theorem law_loop_open (cx : LZ p s m meth c dC dI cA ρ b L xs) (h25 : C25 p l e s m below meth c dC dI cA ρ b L xs Q) (hend : ∀ H locs ls, (∀ z ∈ locs, s.heap.size ≤ z.base) → W p l e room_1 s m #[Value.ref b] below meth c H locs 601024 7293034 Q (F0 m 1169 ls [.int 1])) :
    ∀ (n t i : Nat) (M : Mem) (H : Heap) (locs : List Loc) (ls : Array Slot), t + n = 512 → i ≤ 7 * t → L ≤ i + 7 * n + 6 → LY s dC dI cA ρ M H locs → Inv t M → LVs ls ρ b i → W p l e room_1 s m #[Value.ref b] below meth c H locs (1000 + 100 * t) (30000 + 1000 * t) Q (F0 m 23 ls []) := by
  intro n
  induction n with
  | zero =>
    intro t i M H locs ls htn hit hLn ly hi hl
    exact law_head cx hend (by omega) (by omega) ly hl (fun h => by omega)
  | succ n ih =>
    intro t i M H locs ls htn hit hLn ly hi hl
    refine law_head cx hend (by omega) (by omega) ly hl (fun hij => ?_)
    obtain ⟨k, hk, ek⟩ := and31 (xs i)
    rw [ek]
    refine l_case_open cx h25 ly hi (by omega) hl hij ⟨by omega, by omega⟩ (fun M' H' locs' ls' ly' hi' hl' => ?_) k hk
    have hB := cx.1
    refine lv_iinc (i := 4) (k := 0) (n := 7) (v := Int32.ofNat (i + 7)) (lv' := [(4, .int (Int32.ofNat (i + 7))), (3, .ref (ρ 278)), (2, .ref (ρ 253)), (1, .ref (ρ 0)), (0, .ref b)]) hB.1 hB.2.1 (pc := 1162) (by decide +kernel) hl' rfl (Int32.ofNat_add i 7).symm (by decide) rfl (fun ls2 hl2 => ?_)
    refine lv_goto hB.1 hB.2.1 (off := -1142) (tgt := 23) (pc := 1165) (by decide +kernel) (by decide) ?_
    have := ih (t + 1) (i + 7) M' H' locs' ls2 (by omega) (by omega) (by omega) ly' hi' hl2
    rw [show 1000 + 100 * (t + 1) = 1000 + 100 * t + 100 by omega, show 30000 + 1000 * (t + 1) = 30000 + 1000 * t + 1000 by omega] at this
    exact this
end LAWL
