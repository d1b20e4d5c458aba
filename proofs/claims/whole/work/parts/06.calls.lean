/-! ROWS: strings, statics, arraycopy, calls, returns -/
theorem SFc.moved {ρ : Nat → Nat} {A : Nat → Prop} {u U : State} {H : Heap} (hvm : u.vm.Alike U.vm) (h : SFc ρ A u H) : SFc ρ A U H := ⟨h.1.moved hvm, h.2.1.moved hvm, h.2.2.moved hvm⟩
theorem SFc.kept {ρ : Nat → Nat} {A : Nat → Prop} {U : State} {H H1 : Heap} (h : SFc ρ A U H) (hq : ∀ a : Nat, a < H.size → ¬ A a → H1[a]? = H[a]?) : SFc ρ A U H1 := ⟨h.1.kept hq, h.2.1.kept hq, h.2.2.kept hq⟩
theorem strL_eq : ∀ i, i < 35 → (strT.map List.length).getD i 0 = strL i := by decide +kernel
section RS
variable {w : List Ref3} {own : String} {cc : ByteArray} {nL : Nat} {ret : Option FieldType} {d pc : Nat} {lv : Lv} {st : List AV} {M : Mem} {r : Option AV × Mem} {q : Ref3}
theorem x_ldcs {index i : Nat} {tx : String} (hw : (own, index, tx, i) ∈ strW) (hdg : decode cc pc = .ok (.ldc index, 2))
    (k : WPs w own cc nL ret d (pc + 2) lv (.inr (.inr (40, i, SB + i)) :: st) M r) : WPs w own cc nL ret d pc lv st M r := by
  intro p l e s m args below meth c dC dI cA ρ A H locs ls hB hK hP hD hS hlv
  exact va_ldcS hB.1 hB.2.1 hB.2.2.2.1 (hK.2.2.1.1 _ hw) hdg (k p l e s m args below meth c dC dI cA ρ A H locs ls hB hK hP hD hS hlv)
theorem x_sval {index i : Nat} (hi : i < 35) (hl : Cond.fieldLink own index "java/lang/String" "value" "[B" ∈ lw_g) (hdg : decode cc pc = .ok (.getfield index, 3))
    (k : WPs w own cc nL ret d (pc + 3) lv (.inr (.inr (41, strL i, SV + i)) :: st) M r) : WPs w own cc nL ret d pc lv (.inr (.inr (40, i, SB + i)) :: st) M r := by
  intro p l e s m args below meth c dC dI cA ρ A H locs ls hB hK hP hD hS hlv
  exact vk_getf hB.1 hB.2.1 (hK.2.1.1.1 i hi).2.2.1 hS hB.2.2.2.1 (hB.2.2.2.2.1 _ hl) (fun _ h => h) hdg (k p l e s m args below meth c dC dI cA ρ A H locs ls hB hK hP hD hS hlv)
theorem x_scod {index i : Nat} (hi : i < 35) (hl : Cond.fieldLink own index "java/lang/String" "coder" "B" ∈ lw_g) (hdg : decode cc pc = .ok (.getfield index, 3))
    (k : WPs w own cc nL ret d (pc + 3) lv (.inl 0 :: st) M r) : WPs w own cc nL ret d pc lv (.inr (.inr (40, i, SB + i)) :: st) M r := by
  intro p l e s m args below meth c dC dI cA ρ A H locs ls hB hK hP hD hS hlv
  exact vk_getf hB.1 hB.2.1 (hK.2.1.1.1 i hi).2.1 hS hB.2.2.2.1 (hB.2.2.2.2.1 _ hl) (fun _ h => h) hdg (k p l e s m args below meth c dC dI cA ρ A H locs ls hB hK hP hD hS hlv)
theorem x_slen {i : Nat} (hi : i < 35) (hdg : decode cc pc = .ok (.arraylength, 1))
    (k : WPs w own cc nL ret d (pc + 1) lv (.inl (Int32.ofNat (strL i)) :: st) M r) : WPs w own cc nL ret d pc lv (.inr (.inr (41, strL i, SV + i)) :: st) M r := by
  intro p l e s m args below meth c dC dI cA ρ A H locs ls hB hK hP hD hS hlv
  exact va_tlen hB.1 hB.2.1 (hK.2.1.1.1 i hi).2.2.2 hS (by rw [strL_eq i hi]) hdg (k p l e s m args below meth c dC dI cA ρ A H locs ls hB hK hP hD hS hlv)
theorem x_sbyt {i : Nat} {j : Int32} (hi : i < 35) (hin : ¬ (j < 0 ∨ strL i ≤ j.toNatClampNeg)) (hdg : decode cc pc = .ok (.baload, 1))
    (k : WPs w own cc nL ret d (pc + 1) lv (.inl (strB i j.toNatClampNeg) :: st) M r) : WPs w own cc nL ret d pc lv (.inl j :: .inr (.inr (41, strL i, SV + i)) :: st) M r := by
  intro p l e s m args below meth c dC dI cA ρ A H locs ls hB hK hP hD hS hlv
  exact va_tb hB.1 hB.2.1 (hK.2.1.1.1 i hi).2.2.2 hS (by rw [strL_eq i hi]; exact hin) rfl hdg (k p l e s m args below meth c dC dI cA ρ A H locs ls hB hK hP hD hS hlv)
theorem x_stat1 {index : Nat} (hl : Cond.fieldLink own index "java/lang/String" "COMPACT_STRINGS" "Z" ∈ lw_g) (hdg : decode cc pc = .ok (.getstatic index, 3))
    (k : WPs w own cc nL ret d (pc + 3) lv (.inl 1 :: st) M r) : WPs w own cc nL ret d pc lv st M r := by
  intro p l e s m args below meth c dC dI cA ρ A H locs ls hB hK hP hD hS hlv
  exact va_gets hB.1 hB.2.1 hK.2.1.2.1 hS hB.2.2.2.1 (hB.2.2.2.2.1 _ hl) (fun _ h => h) hdg (k p l e s m args below meth c dC dI cA ρ A H locs ls hB hK hP hD hS hlv)
theorem x_stat2 {index : Nat} (hl : Cond.fieldLink own index "jdk/internal/util/Preconditions" "SIOOBE_FORMATTER" "Ljava/util/function/BiFunction;" ∈ lw_g) (hdg : decode cc pc = .ok (.getstatic index, 3))
    (k : WPs w own cc nL ret d (pc + 3) lv (.inr (.inr (50, 0, SF0)) :: st) M r) : WPs w own cc nL ret d pc lv st M r := by
  intro p l e s m args below meth c dC dI cA ρ A H locs ls hB hK hP hD hS hlv
  exact va_gets hB.1 hB.2.1 hK.2.1.2.2 hS hB.2.2.2.1 (hB.2.2.2.2.1 _ hl) (fun _ h => h) hdg (k p l e s m args below meth c dC dI cA ρ A H locs ls hB hK hP hD hS hlv)
theorem catS_cv {ρ : Nat → Nat} : ∀ st : List AV, ((st.map (cv ρ)).map fun v => v.category).sum = catS st
  | [] => rfl
  | .inl _ :: t => by have := catS_cv (ρ := ρ) t; simp [cv, catS, Value.category] at this ⊢; omega
  | .inr (.inl _) :: t => by have := catS_cv (ρ := ρ) t; simp [cv, catS, Value.category] at this ⊢; omega
  | .inr (.inr q) :: t => by
    have := catS_cv (ρ := ρ) t
    rw [List.map_cons, List.map_cons, List.sum_cons, cv_cat, this]
    show 1 + catS t = catS t + 1
    omega
theorem x_cpI {index : Nat} {a b : Ref3} {sp dp n : Int32} (ha : a ∈ w) (hb : b ∈ w) (hta : a.1 = 20) (htb : b.1 = 20) (h1 : ¬ sp < 0) (h2 : ¬ dp < 0) (h3 : ¬ n < 0) (h4 : sp.toNatClampNeg + n.toNatClampNeg ≤ a.2.1) (h5 : dp.toNatClampNeg + n.toNatClampNeg ≤ b.2.1) (hc : catS st ≤ 8)
    (hl : Cond.methodLink own index arraycopyName ∈ lw_g) (hnat : Cond.native arraycopyName ∈ lw_g) (hsta : Cond.static arraycopyName ∈ lw_g) (hini : Cond.initialized "java/lang/System" ∈ lw_g) (hdg : decode cc pc = .ok (.invokestatic index, 3))
    (k : WPs w own cc nL ret (d + 1) (pc + 3) lv st (cpI M a.2.2 sp.toNatClampNeg b.2.2 dp.toNatClampNeg n.toNatClampNeg) r) : WPs w own cc nL ret (d + 1) pc lv (.inl n :: .inl dp :: .inr (.inr b) :: .inl sp :: .inr (.inr a) :: st) M r := by
  intro p l e s m args below meth c dC dI cA ρ A H locs ls hB hK hP hD hS hlv
  rw [List.map_cons, List.map_cons, List.map_cons, List.map_cons, List.map_cons, cv_t (q := b) (by omega), cv_t (q := a) (by omega)]
  obtain ⟨j, hj⟩ := List.getElem?_of_mem ha
  obtain ⟨j2, hj2⟩ := List.getElem?_of_mem hb
  have he := wsOf_at (ρ := ρ) (cA := cA) (M := M) hj
  have he2 := wsOf_at (ρ := ρ) (cA := cA) (M := M) hj2
  rw [ce_int (Or.inl hta), hta] at he
  rw [ce_int (Or.inl htb), htb] at he2
  have hls : c.maxLocals = ls.size := by obtain ⟨l0, h0, -⟩ := hlv; rw [hB.2.2.1, h0.1]
  have hfr : 1 ≤ (rmD (d + 1)).frames := by show 1 ≤ d + 1; omega
  have hnw : nativeFrameWords "java/lang/System" "arraycopy" 5 + 11 ≤ 52 := by decide +kernel
  have hlo : ((st.map (cv ρ)).map fun v => v.category).sum + (nativeFrameWords "java/lang/System" "arraycopy" 5 + 11) ≤ (rmD (d + 1)).locals := by
    rw [catS_cv]; show _ ≤ 60 * (d + 1); omega
  refine va_copyi (ty := .int) hB.1 hB.2.1 hls hB.2.2.2.1 (hB.2.2.2.2.1 _ hl) (hB.2.2.2.2.1 _ hnat) (hB.2.2.2.2.1 _ hsta) (hB.2.2.2.2.1 _ hini) hK.1 hP hD hS j j2 0 0 he he2 rfl rfl rfl h1 h2 h3 h4 h5 (fun _ _ => rfl) hfr hlo hdg (fun H1 locs1 hP1 hD1 hS1 => ?_)
  have hset : (wsOf ρ cA M w).set j2 (ρ b.2.2, .inl (cA 20, b.2.1, .inl (va_cpy (M.1 a.2.2) (M.1 b.2.2) sp.toNatClampNeg dp.toNatClampNeg n.toNatClampNeg))) = wsOf ρ cA (cpI M a.2.2 sp.toNatClampNeg b.2.2 dp.toNatClampNeg n.toNatClampNeg) w := wsOf_set hD hj2 (by
    rw [ce_int (Or.inl htb), htb]
    have : (cpI M a.2.2 sp.toNatClampNeg b.2.2 dp.toNatClampNeg n.toNatClampNeg).1 b.2.2 = va_cpy (M.1 a.2.2) (M.1 b.2.2) sp.toNatClampNeg dp.toNatClampNeg n.toNatClampNeg := by funext z; simp [cpI]
    rw [this]) (fun q' h => ce_cpI_ne h)
  rw [hset] at hP1 hD1
  exact k p l e s m args below meth c dC dI cA ρ A H1 locs1 ls hB hK hP1 hD1 hS1 hlv
theorem x_cpJ {index : Nat} {a b : Ref3} {sp dp n : Int32} (ha : a ∈ w) (hb : b ∈ w) (hta : a.1 = 23) (htb : b.1 = 23) (h1 : ¬ sp < 0) (h2 : ¬ dp < 0) (h3 : ¬ n < 0) (h4 : sp.toNatClampNeg + n.toNatClampNeg ≤ a.2.1) (h5 : dp.toNatClampNeg + n.toNatClampNeg ≤ b.2.1) (hc : catS st ≤ 8)
    (hl : Cond.methodLink own index arraycopyName ∈ lw_g) (hnat : Cond.native arraycopyName ∈ lw_g) (hsta : Cond.static arraycopyName ∈ lw_g) (hini : Cond.initialized "java/lang/System" ∈ lw_g) (hdg : decode cc pc = .ok (.invokestatic index, 3))
    (k : WPs w own cc nL ret (d + 1) (pc + 3) lv st (cpJ M a.2.2 sp.toNatClampNeg b.2.2 dp.toNatClampNeg n.toNatClampNeg) r) : WPs w own cc nL ret (d + 1) pc lv (.inl n :: .inl dp :: .inr (.inr b) :: .inl sp :: .inr (.inr a) :: st) M r := by
  intro p l e s m args below meth c dC dI cA ρ A H locs ls hB hK hP hD hS hlv
  rw [List.map_cons, List.map_cons, List.map_cons, List.map_cons, List.map_cons, cv_t (q := b) (by omega), cv_t (q := a) (by omega)]
  obtain ⟨j, hj⟩ := List.getElem?_of_mem ha
  obtain ⟨j2, hj2⟩ := List.getElem?_of_mem hb
  have he := wsOf_at (ρ := ρ) (cA := cA) (M := M) hj
  have he2 := wsOf_at (ρ := ρ) (cA := cA) (M := M) hj2
  rw [ce_long hta] at he
  rw [ce_long htb] at he2
  have hls : c.maxLocals = ls.size := by obtain ⟨l0, h0, -⟩ := hlv; rw [hB.2.2.1, h0.1]
  have hfr : 1 ≤ (rmD (d + 1)).frames := by show 1 ≤ d + 1; omega
  have hnw : nativeFrameWords "java/lang/System" "arraycopy" 5 + 11 ≤ 52 := by decide +kernel
  have hlo : ((st.map (cv ρ)).map fun v => v.category).sum + (nativeFrameWords "java/lang/System" "arraycopy" 5 + 11) ≤ (rmD (d + 1)).locals := by
    rw [catS_cv]; show _ ≤ 60 * (d + 1); omega
  refine va_copyl hB.1 hB.2.1 hls hB.2.2.2.1 (hB.2.2.2.2.1 _ hl) (hB.2.2.2.2.1 _ hnat) (hB.2.2.2.2.1 _ hsta) (hB.2.2.2.2.1 _ hini) hK.1 hP hD hS j j2 3 3 he he2 rfl rfl rfl h1 h2 h3 h4 h5 (fun _ _ => rfl) hfr hlo hdg (fun H1 locs1 hP1 hD1 hS1 => ?_)
  have hset : (wsOf ρ cA M w).set j2 (ρ b.2.2, .inl (cA 23, b.2.1, .inr (.inl (va_cpy (M.2.1 a.2.2) (M.2.1 b.2.2) sp.toNatClampNeg dp.toNatClampNeg n.toNatClampNeg)))) = wsOf ρ cA (cpJ M a.2.2 sp.toNatClampNeg b.2.2 dp.toNatClampNeg n.toNatClampNeg) w := wsOf_set hD hj2 (by
    rw [ce_long htb]
    have : (cpJ M a.2.2 sp.toNatClampNeg b.2.2 dp.toNatClampNeg n.toNatClampNeg).2.1 b.2.2 = va_cpy (M.2.1 a.2.2) (M.2.1 b.2.2) sp.toNatClampNeg dp.toNatClampNeg n.toNatClampNeg := by funext z; simp [cpJ]
    rw [this]) (fun q' h => ce_cpJ_ne h)
  rw [hset] at hP1 hD1
  exact k p l e s m args below meth c dC dI cA ρ A H1 locs1 ls hB hK hP1 hD1 hS1 hlv
theorem x_iret {v : Int32} {ty : FieldType} (hr : ret = some ty) (hn : narrow ty (.int v) = .int v) (hdg : decode cc pc = .ok (.ireturn, 1)) : WPs w own cc nL ret d pc lv [.inl v] M (some (.inl v), M) := by
  intro p l e s m args below meth c dC dI cA ρ A H locs ls hB hK hP hD hS hlv
  exact W.zret hB.1 hB.2.1 (hB.2.2.2.2.2.1.trans hr) hn (fun t ht hW => ⟨rfl, by rw [ht]; exact hP, hK.1.moved hW.alike, hS.F ht⟩) (fun q hq => hS.2.2 q hq) hdg hB.2.2.2.2.2.2
theorem x_lret {v : Int64} (hr : ret = some .long) (hdg : decode cc pc = .ok (.lreturn, 1)) : WPs w own cc nL ret d pc lv [.inr (.inl v)] M (some (.inr (.inl v)), M) := by
  intro p l e s m args below meth c dC dI cA ρ A H locs ls hB hK hP hD hS hlv
  exact W.lret hB.1 hB.2.1 (hB.2.2.2.2.2.1.trans hr) (fun t ht hW => ⟨rfl, by rw [ht]; exact hP, hK.1.moved hW.alike, hS.F ht⟩) (fun q hq => hS.2.2 q hq) hdg hB.2.2.2.2.2.2
theorem x_vret (hr : ret = none) (hdg : decode cc pc = .ok (.return_, 1)) : WPs w own cc nL ret d pc lv [] M (none, M) := by
  intro p l e s m args below meth c dC dI cA ρ A H locs ls hB hK hP hD hS hlv
  exact W.vret hB.1 hB.2.1 (hB.2.2.2.2.2.1.trans hr) (fun t ht hW => ⟨rfl, by rw [ht]; exact hP, hK.1.moved hW.alike, hS.F ht⟩) (fun q hq => hS.2.2 q hq) hdg hB.2.2.2.2.2.2
end RS
/-- what a call means: the method's contract, over any launch and any place of the cells -/
def CSem (w : List Ref3) (y : MethodName) (bytes : ByteArray) (mL : Nat) (ret : Option FieldType) (d : Nat) (as : List AV) (M : Mem) (r : Option AV × Mem) : Prop :=
  ∀ (l : Launch) (dC : Nat → ClassId) (dI : Nat → Nat → Nat) (cA : Nat → ClassId) (ρ : Nat → Nat) (A : Nat → Prop) (sz : Nat),
    Met l y (.code y bytes mL ret :: lw_g) (rmD d) (va_Pc (as.map (cv ρ)) (fun U => U.heap.size = sz ∧ (∀ q, sz ≤ q → A q) ∧ va_P (dC, dI) vwCl (wsOf ρ cA M w) U.heap ∧ va_D A (wsOf ρ cA M w) ∧ va_K (dC, dI) vwCl (tysOf cA) U ∧ SFc ρ A U U.heap ∧ SWc ρ U)) (QcR dC dI cA ρ w A r) 0 0 A
section CALL
variable {p : Program} {l : Launch} {e : Env} {R : Room} {s : State} {m : MethodId} {args : Array Value} {below : List Frame} {meth : Method} {c : Code} {H : Heap} {locs : List Loc} {Q : State → Prop}
variable {pc : Nat} {ls : Array Slot} {rest st0 : List Value} {a : Array Value} {dC : Nat → ClassId} {dI : Nat → Nat → Nat} {cA : Nat → ClassId} {ρ : Nat → Nat} {w : List Ref3} {A : Nat → Prop} {r : Option AV × Mem}
theorem call_go (hr : va_Run p l e R s m args below meth c H locs 0 0 0 0 (F0 m pc ls st0) rest (QcR dC dI cA ρ w A r a) A) (hS : va_S A s.heap H locs)
    (kk : ∀ (H1 : Heap) (locs1 : List Loc), va_P (dC, dI) vwCl (wsOf ρ cA r.2 w) H1 → va_S A s.heap H1 locs1 → W p l e R s m args below meth c H1 locs1 0 0 Q (F0 m (pc + 3) ls ((r.1.map (cv ρ)).toList ++ rest))) : W p l e R s m args below meth c H locs 0 0 Q (F0 m pc ls st0) := by
  intro T hT X
  obtain ⟨v, st₀, t, T', L, h0, X', hL, e1, e2, ⟨hv, hp, -, hz, hk⟩, st⟩ := hr T hT X
  cases hv
  rw [h0] at hz hk
  obtain ⟨t2, a1, b1⟩ := kk T'.heap (locs ++ L) (by rw [e1]; exact hp)
    ⟨Nat.le_trans hS.1 (by rw [e1]; exact hz), fun q h1 h2 => by rw [e1, hk q (Nat.lt_of_lt_of_le h1 hS.1) h2]; exact hS.2.1 q h1 h2, fun q hq => by
      rcases List.mem_append.mp hq with h | h
      · exact hS.2.2 q h
      · exact hL q h⟩ T' rfl X'
  exact ⟨t2, st t2 a1, b1⟩
end CALL
section RC
variable {w : List Ref3} {own : String} {cc : ByteArray} {nL : Nat} {ret : Option FieldType} {d pc : Nat} {lv : Lv} {st : List AV} {M : Mem} {r : Option AV × Mem}
theorem pc_of {l : Launch} {s : State} {H : Heap} {locs : List Loc} {dC : Nat → ClassId} {dI : Nat → Nat → Nat} {cA : Nat → ClassId} {ρ : Nat → Nat} {A : Nat → Prop} {as : List AV} (hK : KX dC dI cA ρ A s) (hP : va_P (dC, dI) vwCl (wsOf ρ cA M w) H) (hD : va_D A (wsOf ρ cA M w)) (hS : va_S A s.heap H locs) :
    PreS s H (va_Pc (as.map (cv ρ)) (fun U => U.heap.size = H.size ∧ (∀ q, H.size ≤ q → A q) ∧ va_P (dC, dI) vwCl (wsOf ρ cA M w) U.heap ∧ va_D A (wsOf ρ cA M w) ∧ va_K (dC, dI) vwCl (tysOf cA) U ∧ SFc ρ A U U.heap ∧ SWc ρ U)) (as.map (cv ρ)) := by
  refine ⟨fun a U g mk q => ?_, fun U hU hW => ⟨rfl, by rw [hU], fun q h => hK.2.2.2 q (Nat.le_trans hS.1 h), by rw [hU]; exact hP, hD, hK.1.moved hW.alike, ?_, ⟨fun x hx => (hK.2.2.1.1 x hx).warm hW, fun x hx => (hK.2.2.1.2 x hx).warmM hW⟩⟩⟩
  · obtain ⟨q0, q1, q2, q3, q4, q5, q6, q7⟩ := q
    exact ⟨q0, q1, q2, q3, q4, va_K.moved (u := U) (U := U.calling g mk a) (Vm.Alike.refl U.vm) q5, SFc.moved (u := U) (U := U.calling g mk a) (Vm.Alike.refl U.vm) q6, ⟨fun x hx => vk_R.same (u := U) (U := U.calling g mk a) rfl (q7.1 x hx), fun x hx => va_Nw.same (u := U) (U := U.calling g mk a) rfl rfl (q7.2 x hx)⟩⟩
  · rw [hU]
    exact (hK.2.1.kept hS.2.1).moved hW.alike
theorem x_callS {index mL : Nat} {y : MethodName} {bytes : ByteArray} {rt : Option FieldType} {as : List AV} {r' : Option AV × Mem} (hM : CSem w y bytes mL rt d as M r') (hcode : Cond.code y bytes mL rt ∈ lw_g) (hl : Cond.methodLink own index y ∈ lw_g) (hst : Cond.static y ∈ lw_g) (hini : Cond.initialized y.cls ∈ lw_g)
    (hd : y.cls ≠ "java/lang/invoke/MethodHandle" ∧ y.cls ≠ "java/lang/invoke/VarHandle" ∧ (parseMethodDescriptor y.desc).map (fun d => d.parameters.length) = some as.length) (hm : mL ≤ 40) (hc : catS st ≤ 8) (hdg : decode cc pc = .ok (.invokestatic index, 3))
    (k : WPs w own cc nL ret (d + 1) (pc + 3) lv (r'.1.toList ++ st) r'.2 r) : WPs w own cc nL ret (d + 1) pc lv (as.reverse ++ st) M r := by
  intro p l e s m args below meth c dC dI cA ρ A H locs ls hB hK hP hD hS hlv
  have hsz : ls.size = nL := by obtain ⟨l0, h0, -⟩ := hlv; exact h0.1
  have cb := callB_of (mc := 0) (ms := 0) (rm := rmD d) (R := rmD (d + 1)) as.length hB.2.2.2.2.1 (lw_goodIn hcode) rfl rfl rfl (hB.2.2.2.2.1 _ hini) (hB.2.2.2.2.1 _ hl) hd ⟨by show d + 1 ≤ d + 1; omega, by show 8 + (mL + 11) + 60 * d ≤ 60 * (d + 1); omega⟩
  have hrun := va_runS (R := rmD (d + 1)) (e := e) (meth := meth) (locs := locs) (below := below) (cells := 0) (slots := 0) (As := as.map (cv ρ)) (rest := st.map (cv ρ)) (g := F0 m pc ls ((as.reverse ++ st).map (cv ρ))) ⟨hB.1, hB.2.1, hB.2.2.1, hB.2.2.2.1, hB.2.2.2.2.1⟩ (hM l dC dI cA ρ A H.size) ⟨cb, hB.2.2.2.2.1 _ hst⟩ (pc_of (l := l) hK hP hD hS) rfl (by simp) hsz (by simp) (lv_room (by rw [catS_cv]; exact hc)) hdg ⟨Nat.le_refl _, Nat.le_refl _⟩
  refine call_go hrun hS (fun H1 locs1 hP1 hS1 => ?_)
  have := k p l e s m args below meth c dC dI cA ρ A H1 locs1 ls hB hK hP1 (va_D_wsOf hD) hS1 hlv
  rw [List.map_append] at this
  cases hr1 : r'.1 with
  | none => rw [hr1] at this; exact this
  | some v => rw [hr1] at this; exact this
theorem x_callSN {index mL : Nat} {bytes : ByteArray} {rt : Option FieldType} {as : List AV} {r' : Option AV × Mem} (hM : CSem w y_has bytes mL rt d as M r') (hcode : Cond.code y_has bytes mL rt ∈ lw_g) (hl : (own, index) ∈ nestW) (hst : Cond.static y_has ∈ lw_g) (hini : Cond.initialized y_has.cls ∈ lw_g)
    (hd : y_has.cls ≠ "java/lang/invoke/MethodHandle" ∧ y_has.cls ≠ "java/lang/invoke/VarHandle" ∧ (parseMethodDescriptor y_has.desc).map (fun d => d.parameters.length) = some as.length) (hm : mL ≤ 40) (hc : catS st ≤ 8) (hdg : decode cc pc = .ok (.invokestatic index, 3))
    (k : WPs w own cc nL ret (d + 1) (pc + 3) lv (r'.1.toList ++ st) r'.2 r) : WPs w own cc nL ret (d + 1) pc lv (as.reverse ++ st) M r := by
  intro p l e s m args below meth c dC dI cA ρ A H locs ls hB hK hP hD hS hlv
  have hsz : ls.size = nL := by obtain ⟨l0, h0, -⟩ := hlv; exact h0.1
  have cb := va_cnB (own := own) (index := index) (host := "IceParliament") (mc := 0) (ms := 0) (rm := rmD d) (R := rmD (d + 1)) as.length hB.2.2.2.2.1 (lw_goodIn hcode) rfl rfl rfl (hK.2.2.1.2 _ hl) (hB.2.2.2.2.1 _ hini) hd ⟨by show d + 1 ≤ d + 1; omega, by show 8 + (mL + 11) + 60 * d ≤ 60 * (d + 1); omega⟩
  have hrun := va_runSN (R := rmD (d + 1)) (e := e) (meth := meth) (locs := locs) (below := below) (cells := 0) (slots := 0) (As := as.map (cv ρ)) (rest := st.map (cv ρ)) (g := F0 m pc ls ((as.reverse ++ st).map (cv ρ))) ⟨hB.1, hB.2.1, hB.2.2.1, hB.2.2.2.1, hB.2.2.2.2.1⟩ (hM l dC dI cA ρ A H.size) ⟨cb, hB.2.2.2.2.1 _ hst, trivial⟩ (pc_of (l := l) hK hP hD hS) rfl (by simp) hsz (by simp) (lv_room (by rw [catS_cv]; exact hc)) hdg ⟨Nat.le_refl _, Nat.le_refl _⟩
  refine call_go hrun hS (fun H1 locs1 hP1 hS1 => ?_)
  have := k p l e s m args below meth c dC dI cA ρ A H1 locs1 ls hB hK hP1 (va_D_wsOf hD) hS1 hlv
  rw [List.map_append] at this
  cases hr1 : r'.1 with
  | none => rw [hr1] at this; exact this
  | some v => rw [hr1] at this; exact this
theorem x_callV {index mL : Nat} {y : MethodName} {bytes : ByteArray} {rt : Option FieldType} {as : List AV} {q : Ref3} {r' : Option AV × Mem} (hM : CSem w y bytes mL rt d (.inr (.inr q) :: as) M r') (hrecv : (q ∈ w ∧ q.1 < 13 ∧ clR q.1 = y.cls) ∨ (∃ i, i < 35 ∧ q = (40, i, SB + i) ∧ y.cls = "java/lang/String"))
    (hcode : Cond.code y bytes mL rt ∈ lw_g) (hl : Cond.methodLink own index y ∈ lw_g) (hin : Cond.instanceMethod y ∈ lw_g) (hsel : Cond.selects y.cls y y ∈ lw_g) (hini : Cond.initialized y.cls ∈ lw_g)
    (hd : y.cls ≠ "java/lang/invoke/MethodHandle" ∧ y.cls ≠ "java/lang/invoke/VarHandle" ∧ (parseMethodDescriptor y.desc).map (fun d => d.parameters.length) = some as.length) (hm : mL ≤ 40) (hc : catS st ≤ 8) (hdg : decode cc pc = .ok (.invokevirtual index, 3))
    (k : WPs w own cc nL ret (d + 1) (pc + 3) lv (r'.1.toList ++ st) r'.2 r) : WPs w own cc nL ret (d + 1) pc lv ((.inr (.inr q) :: as).reverse ++ st) M r := by
  intro p l e s m args below meth c dC dI cA ρ A H locs ls hB hK hP hD hS hlv
  have hsz : ls.size = nL := by obtain ⟨l0, h0, -⟩ := hlv; exact h0.1
  have cb := callB_of (mc := 0) (ms := 0) (rm := rmD d) (R := rmD (d + 1)) as.length hB.2.2.2.2.1 (lw_goodIn hcode) rfl rfl rfl (hB.2.2.2.2.1 _ hini) (hB.2.2.2.2.1 _ hl) hd ⟨by show d + 1 ≤ d + 1; omega, by show 8 + (mL + 11) + 60 * d ≤ 60 * (d + 1); omega⟩
  have hrv : ∃ cellB : Cell, H[ρ q.2.2]? = some cellB ∧ cellB.vm.isStatics = false ∧ s.vm.findClass y.cls = some cellB.cls := by
    rcases hrecv with ⟨h1, h2, h3⟩ | ⟨i, h1, h2, h3⟩
    · obtain ⟨j, hj⟩ := List.getElem?_of_mem h1
      have he := wsOf_at (ρ := ρ) (cA := cA) (M := M) hj
      rw [ce_obj h2] at he
      have := va_recv hK.1 hP (cl_at q.1 h2) he
      rw [← h3]; exact this
    · subst h2
      rw [h3]
      exact vk_recv (i := i) hK.2.1.1 h1 hS
  have h50 : q.1 ≠ 50 := by
    rcases hrecv with ⟨-, h2, -⟩ | ⟨i, -, h2, -⟩
    · omega
    · rw [h2]; exact Nat.ne_of_beq_eq_false rfl
  have e0 : ((.inr (.inr q) : AV) :: as).map (cv ρ) = .ref (ρ q.2.2) :: as.map (cv ρ) := by rw [List.map_cons, cv_t h50]
  have hps := pc_of (l := l) (as := .inr (.inr q) :: as) hK hP hD hS
  have hM2 := hM l dC dI cA ρ A H.size
  rw [e0] at hps hM2
  have hrun := va_runV (R := rmD (d + 1)) (e := e) (meth := meth) (locs := locs) (below := below) (cells := 0) (slots := 0) (b := ρ q.2.2) (As := as.map (cv ρ)) (rest := st.map (cv ρ)) (g := F0 m pc ls (((.inr (.inr q) :: as).reverse ++ st).map (cv ρ))) ⟨hB.1, hB.2.1, hB.2.2.1, hB.2.2.2.1, hB.2.2.2.2.1⟩ hM2 ⟨cb, hB.2.2.2.2.1 _ hin, hB.2.2.2.2.1 _ hsel⟩ ⟨hps.1, hrv, hps.2⟩ rfl (by simp) hsz (by simp [cv_t h50]) (lv_room (by rw [catS_cv]; exact hc)) hdg ⟨Nat.le_refl _, Nat.le_refl _⟩
  refine call_go hrun hS (fun H1 locs1 hP1 hS1 => ?_)
  have := k p l e s m args below meth c dC dI cA ρ A H1 locs1 ls hB hK hP1 (va_D_wsOf hD) hS1 hlv
  rw [List.map_append] at this
  cases hr1 : r'.1 with
  | none => rw [hr1] at this; exact this
  | some v => rw [hr1] at this; exact this
end RC
