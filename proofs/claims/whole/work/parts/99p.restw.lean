/-! rests at the machine: the class's throws, the law's catches (gen99p.py) -/
section RESTW
variable {ρ : Nat → Nat} {cA : Nat → ClassId} {dC : Nat → ClassId} {dI : Nat → Nat → Nat} {A : Nat → Prop} {M M' : Mem}
variable {p : Program} {l : Launch} {e : Env} {R : Room} {s : State} {m : MethodId} {args : Array Value} {below : List Frame} {meth : Method} {c : Code} {H : Heap} {locs : List Loc} {cells slots : Nat} {Q : State → Prop}
variable {own : String} {cc : ByteArray} {nL pc : Nat} {ls : Array Slot} {rest : List Value} {h u x w : Int32}
abbrev nseN : String := "java/util/NoSuchElementException"
abbrev y_rests : MethodName := ⟨"IceParliament", "rests", "(IIII)I"⟩
abbrev yLr : MethodName := ⟨"IceParliamentLaw", "rests", "(LIceParliament;IIII[J)I"⟩
/-- the words of a throw that no list of words carries -/
def XN (U : State) : Prop := va_Nw (.castable nseN nseN) U ∧ va_Nw (.declares ⟨"java/lang/RuntimeException", "<init>", "()V"⟩) U ∧ va_Nw (.declares ⟨"java/lang/Exception", "<init>", "()V"⟩) U ∧ va_Nw (.declares ⟨"java/lang/Throwable", "<init>", "()V"⟩) U
theorem XN.same {v U : State} (hv : v.vm = U.vm) (h : XN v) : XN U := ⟨va_Nw.same rfl hv h.1, va_Nw.same rfl hv h.2.1, va_Nw.same rfl hv h.2.2.1, va_Nw.same rfl hv h.2.2.2⟩
theorem XN.warm {v U : State} (hW : v.WarmedH U.vm) (h : XN v) : XN U := ⟨va_Nw.warmC hW h.1, va_Nw.warmD hW h.2.1, va_Nw.warmD hW h.2.2.1, va_Nw.warmD hW h.2.2.2⟩
def XZ (A : Nat → Prop) (U : State) (H : Heap) : Prop := vx_Zq Bundle.tN "UNASSIGNED_STACK" Bundle.steD A U H ∧ vx_Zq Bundle.tN "SUPPRESSED_SENTINEL" Bundle.listD A U H
theorem XZ.moved {v U : State} (hv : v.vm.Alike U.vm) (h : XZ A v H) : XZ A U H := ⟨vx_Zq.moved hv h.1, vx_Zq.moved hv h.2⟩
theorem XZ.kept {U : State} {H1 : Heap} (h : XZ A U H) (hq : ∀ a : Nat, a < H.size → ¬ A a → H1[a]? = H[a]?) : XZ A U H1 := ⟨h.1.kept hq, h.2.kept hq⟩
theorem own_all (hts : ∀ w ∈ lw_g, w.before args s = true) (hx : XN s) : ∀ w ∈ Bundle.ownAtoms0 "IceParliament" 319 nseN ["java/lang/RuntimeException", "java/lang/Exception"], vx_no w = true → w.before args s = true := by
  refine List.forall_mem_append.mpr ⟨List.forall_mem_append.mpr ⟨?_, List.forall_mem_append.mpr ⟨?_, List.forall_mem_append.mpr ⟨?_, ?_⟩⟩⟩, ?_⟩
  · exact List.forall_mem_cons.mpr ⟨fun _ => hts _ (in_t1 (List.mem_of_getElem? (i := 23) rfl) rfl), List.forall_mem_cons.mpr ⟨fun _ => hts _ (in_t6 (List.mem_of_getElem? (i := 232) rfl) rfl), List.forall_mem_cons.mpr ⟨fun _ => hts _ (in_t7 (List.mem_of_getElem? (i := 1) rfl) rfl), List.forall_mem_cons.mpr ⟨fun _ => hts _ (in_t7 (List.mem_of_getElem? (i := 3) rfl) rfl), List.forall_mem_cons.mpr ⟨fun _ => hts _ (in_t7 (List.mem_of_getElem? (i := 6) rfl) rfl), List.forall_mem_cons.mpr ⟨fun _ => hts _ (in_t7 (List.mem_of_getElem? (i := 8) rfl) rfl), List.forall_mem_cons.mpr ⟨fun _ => hts _ (in_t6 (List.mem_of_getElem? (i := 233) rfl) rfl), List.forall_mem_cons.mpr ⟨fun _ => hts _ (in_t6 (List.mem_of_getElem? (i := 234) rfl) rfl), List.forall_mem_cons.mpr ⟨fun _ => hts _ (in_t1 (List.mem_of_getElem? (i := 33) rfl) rfl), List.forall_mem_cons.mpr ⟨fun _ => hts _ (in_t1 (List.mem_of_getElem? (i := 34) rfl) rfl), List.forall_mem_cons.mpr ⟨fun _ => hts _ (in_t6 (List.mem_of_getElem? (i := 235) rfl) rfl), List.forall_mem_cons.mpr ⟨fun _ => hts _ (in_t7 (List.mem_of_getElem? (i := 0) rfl) rfl), List.forall_mem_cons.mpr ⟨fun _ => hts _ (in_t7 (List.mem_of_getElem? (i := 4) rfl) rfl), List.forall_mem_cons.mpr ⟨fun _ => hts _ (in_t7 (List.mem_of_getElem? (i := 20) rfl) rfl), List.forall_mem_cons.mpr ⟨fun _ => hts _ (in_t6 (List.mem_of_getElem? (i := 222) rfl) rfl), List.forall_mem_cons.mpr ⟨fun _ => hts _ (in_t7 (List.mem_of_getElem? (i := 21) rfl) rfl), List.forall_mem_cons.mpr ⟨fun _ => hts _ (in_t6 (List.mem_of_getElem? (i := 224) rfl) rfl), List.forall_mem_cons.mpr ⟨fun _ => hts _ (in_t7 (List.mem_of_getElem? (i := 22) rfl) rfl), List.forall_mem_cons.mpr ⟨fun _ => hts _ (in_t6 (List.mem_of_getElem? (i := 226) rfl) rfl), List.forall_mem_cons.mpr ⟨fun _ => hts _ (in_t6 (List.mem_of_getElem? (i := 236) rfl) rfl), List.forall_mem_cons.mpr ⟨fun z => absurd z (by decide +kernel), List.forall_mem_cons.mpr ⟨fun _ => hts _ (in_t6 (List.mem_of_getElem? (i := 238) rfl) rfl), List.forall_mem_cons.mpr ⟨fun z => absurd z (by decide +kernel), List.forall_mem_cons.mpr ⟨fun _ => hts _ (in_t6 (List.mem_of_getElem? (i := 228) rfl) rfl), fun _ h => absurd h List.not_mem_nil⟩⟩⟩⟩⟩⟩⟩⟩⟩⟩⟩⟩⟩⟩⟩⟩⟩⟩⟩⟩⟩⟩⟩⟩
  · exact List.forall_mem_cons.mpr ⟨fun _ => hts _ (in_t7 (List.mem_of_getElem? (i := 10) rfl) rfl), List.forall_mem_cons.mpr ⟨fun _ => hts _ (in_t7 (List.mem_of_getElem? (i := 11) rfl) rfl), List.forall_mem_cons.mpr ⟨fun _ => hts _ (in_t7 (List.mem_of_getElem? (i := 12) rfl) rfl), List.forall_mem_cons.mpr ⟨fun _ => hts _ (in_t7 (List.mem_of_getElem? (i := 13) rfl) rfl), List.forall_mem_cons.mpr ⟨fun _ => va_Nw.use rfl hx.2.1, fun _ h => absurd h List.not_mem_nil⟩⟩⟩⟩⟩
  · exact List.forall_mem_cons.mpr ⟨fun _ => hts _ (in_t7 (List.mem_of_getElem? (i := 13) rfl) rfl), List.forall_mem_cons.mpr ⟨fun _ => hts _ (in_t7 (List.mem_of_getElem? (i := 14) rfl) rfl), List.forall_mem_cons.mpr ⟨fun _ => hts _ (in_t7 (List.mem_of_getElem? (i := 15) rfl) rfl), List.forall_mem_cons.mpr ⟨fun _ => hts _ (in_t7 (List.mem_of_getElem? (i := 16) rfl) rfl), List.forall_mem_cons.mpr ⟨fun _ => va_Nw.use rfl hx.2.2.1, fun _ h => absurd h List.not_mem_nil⟩⟩⟩⟩⟩
  · exact List.forall_mem_cons.mpr ⟨fun _ => hts _ (in_t7 (List.mem_of_getElem? (i := 16) rfl) rfl), List.forall_mem_cons.mpr ⟨fun _ => hts _ (in_t7 (List.mem_of_getElem? (i := 17) rfl) rfl), List.forall_mem_cons.mpr ⟨fun _ => hts _ (in_t7 (List.mem_of_getElem? (i := 18) rfl) rfl), List.forall_mem_cons.mpr ⟨fun _ => hts _ (in_t6 (List.mem_of_getElem? (i := 233) rfl) rfl), List.forall_mem_cons.mpr ⟨fun _ => va_Nw.use rfl hx.2.2.2, fun _ h => absurd h List.not_mem_nil⟩⟩⟩⟩⟩
  · exact List.forall_mem_cons.mpr ⟨fun _ => hts _ (in_t7 (List.mem_of_getElem? (i := 9) rfl) rfl), List.forall_mem_cons.mpr ⟨fun _ => hts _ (in_t6 (List.mem_of_getElem? (i := 211) rfl) rfl), List.forall_mem_cons.mpr ⟨fun _ => va_Nw.use rfl hx.1, List.forall_mem_cons.mpr ⟨fun _ => hts _ (in_t6 (List.mem_of_getElem? (i := 219) rfl) rfl), List.forall_mem_cons.mpr ⟨fun _ => hts _ (in_t6 (List.mem_of_getElem? (i := 220) rfl) rfl), List.forall_mem_cons.mpr ⟨fun _ => hts _ (in_t6 (List.mem_of_getElem? (i := 221) rfl) rfl), List.forall_mem_cons.mpr ⟨fun _ => hts _ (in_t6 (List.mem_of_getElem? (i := 223) rfl) rfl), List.forall_mem_cons.mpr ⟨fun _ => hts _ (in_t6 (List.mem_of_getElem? (i := 225) rfl) rfl), List.forall_mem_cons.mpr ⟨fun _ => hts _ (in_t6 (List.mem_of_getElem? (i := 227) rfl) rfl), List.forall_mem_cons.mpr ⟨fun z => absurd z (by decide +kernel), List.forall_mem_cons.mpr ⟨fun z => absurd z (by decide +kernel), List.forall_mem_cons.mpr ⟨fun _ => hts _ (in_t6 (List.mem_of_getElem? (i := 231) rfl) rfl), List.forall_mem_cons.mpr ⟨fun _ => hts _ (in_t6 (List.mem_of_getElem? (i := 230) rfl) rfl), List.forall_mem_cons.mpr ⟨fun _ => hts _ (in_t6 (List.mem_of_getElem? (i := 229) rfl) rfl), fun _ h => absurd h List.not_mem_nil⟩⟩⟩⟩⟩⟩⟩⟩⟩⟩⟩⟩⟩⟩
theorem own_words (hts : ∀ w ∈ lw_g, w.before args s = true) (hx : XN s) : ∀ w ∈ vx_at0 "IceParliament" 319 nseN ["java/lang/RuntimeException", "java/lang/Exception"], w.before args s = true := fun w hw =>
  own_all hts hx w (List.mem_filter.mp hw).1 (List.mem_filter.mp hw).2
theorem own_ot : ∀ w ∈ Cond.classLink "IceParliament" 317 nseN :: Cond.initialized nseN :: vx_at0 "IceParliament" 319 nseN ["java/lang/RuntimeException", "java/lang/Exception"], vx_ot w = true :=
  List.all_eq_true.mp (by decide +kernel)
theorem call_goX {w : List Ref3} {r : Option AV × Mem} {a : Array Value} {st0 : List Value} {mc ms : Nat} (hr : va_Run p l e R s m args below meth c H locs cells slots mc ms (F0 m pc ls st0) rest (QcR dC dI cA ρ w A r a) A) (hS : va_S A s.heap H locs)
    (kk : ∀ (H1 : Heap) (locs1 : List Loc), va_P (dC, dI) vwCl (wsOf ρ cA r.2 w) H1 → va_S A s.heap H1 locs1 → W p l e R s m args below meth c H1 locs1 (cells + mc) (slots + ms) Q (F0 m (pc + 3) ls ((r.1.map (cv ρ)).toList ++ rest))) : W p l e R s m args below meth c H locs cells slots Q (F0 m pc ls st0) := by
  intro T hT X
  obtain ⟨v, st₀, t, T', L, h0, X', hL, e1, e2, ⟨hv, hp, -, hz, hk⟩, st⟩ := hr T hT X
  cases hv
  rw [h0] at hz hk
  obtain ⟨t2, a1, b1⟩ := kk T'.heap (locs ++ L) (by rw [e1]; exact hp)
    ⟨Nat.le_trans hS.1 (by rw [e1]; exact hz), fun q h1 h2 => by rw [e1, hk q (Nat.lt_of_lt_of_le h1 hS.1) h2]; exact hS.2.1 q h1 h2, fun q hq => by
      rcases List.mem_append.mp hq with h | h
      · exact hS.2.2 q h
      · exact hL q h⟩ T' rfl X'
  exact ⟨t2, st t2 a1, b1⟩
/-- a static method of the evaluator is called, from anywhere -/
theorem g_callS {y index d : Nat} {as : List AV} {md : MD} {v : Int32} {st0 : List Value} (hx0 : mdT y = some md) (hev : evD d y as M = some (some (vI v), M')) (h99 : md.2.2.2.2.2 = 99) (hv : VOKs WF as) (hF : CallFix p m c cc nL s args lw_g own) (hK : KX dC dI cA ρ A s) (hP : va_P (dC, dI) vwCl (wsOf ρ cA M WF) H) (hD : va_D A (wsOf ρ cA M WF)) (hS : va_S A s.heap H locs) (hmok : MOK WF M) (hls : ls.size = nL) (hlk : Cond.methodLink own index md.1 ∈ lw_g)
    (hdd : (parseMethodDescriptor md.1.desc).map (fun d => d.parameters.length) = some as.length) (hR : d + 1 ≤ R.frames ∧ 60 * (d + 1) ≤ R.locals) (hc : cells ≤ R.cells ∧ slots ≤ R.slots) (hrest : (rest.map fun v => v.category).sum ≤ 8) (hst : st0 = (as.map (cv ρ)).reverse ++ rest) (hdg : decode cc pc = .ok (.invokestatic index, 3))
    (kk : ∀ (H1 : Heap) (locs1 : List Loc), va_P (dC, dI) vwCl (wsOf ρ cA M' WF) H1 → va_S A s.heap H1 locs1 → W p l e R s m args below meth c H1 locs1 cells slots Q (F0 m (pc + 3) ls (.int v :: rest))) : W p l e R s m args below meth c H locs cells slots Q (F0 m pc ls st0) := by
  subst hst
  obtain ⟨md', hx1, -, hM, -⟩ := evD_sound clo_WF wt_WF md_all cd_all d y _ M _ hev hv hmok
  have hmm : md' = md := Option.some.inj (hx1.symm.trans hx0)
  subst hmm
  have hmk := md_all y md' hx0
  have hst : Cond.static md'.1 ∈ lw_g := by
    rcases hmk.2.2.2.2.2.2 with ⟨-, z⟩ | ⟨z, -⟩
    · exact z
    · exact absurd h99 z
  have hts := hF.2.2.2.2
  have cb := callB_of (mc := 0) (ms := 0) (rm := rmD d) (R := R) as.length hts (lw_goodIn hmk.2.1) rfl rfl rfl (hts _ hmk.1) (hts _ hlk) ⟨hmk.2.2.2.1.1, hmk.2.2.2.1.2, hdd⟩ ⟨hR.1, by have := hmk.2.2.2.2.2.1; show 8 + (md'.2.2.1 + 11) + 60 * d ≤ _; omega⟩
  have hrun := va_runS (R := R) (e := e) (meth := meth) (locs := locs) (below := below) (cells := cells) (slots := slots) (As := as.map (cv ρ)) (rest := rest) (g := F0 m pc ls ((as.map (cv ρ)).reverse ++ rest)) hF (hM l dC dI cA ρ A H.size) ⟨cb, hts _ hst⟩ (pc_of (l := l) hK hP hD hS) rfl (by simp) hls rfl (lv_room hrest) hdg hc
  exact call_goL hrun hS (fun H1 locs1 hP1 hS1 => kk H1 locs1 hP1 hS1)
/-- a method of an object is called, from anywhere -/
theorem g_callV {y tg k index d : Nat} {as : List AV} {md : MD} {v : Int32} {st0 : List Value} (hx0 : mdT y = some md) (hev : evD d y (vR tg 0 k :: as) M = some (some (vI v), M')) (hkq : (tg, 0, k) ∈ WF) (ht : tg < 13) (hcl : clR tg = md.1.cls) (h99 : md.2.2.2.2.2 ≠ 99) (hv : VOKs WF as) (hF : CallFix p m c cc nL s args lw_g own) (hK : KX dC dI cA ρ A s) (hP : va_P (dC, dI) vwCl (wsOf ρ cA M WF) H) (hD : va_D A (wsOf ρ cA M WF)) (hS : va_S A s.heap H locs) (hmok : MOK WF M) (hls : ls.size = nL) (hlk : Cond.methodLink own index md.1 ∈ lw_g)
    (hdd : (parseMethodDescriptor md.1.desc).map (fun d => d.parameters.length) = some as.length) (hR : d + 1 ≤ R.frames ∧ 60 * (d + 1) ≤ R.locals) (hc : cells ≤ R.cells ∧ slots ≤ R.slots) (hrest : (rest.map fun v => v.category).sum ≤ 8) (hst : st0 = (as.map (cv ρ)).reverse ++ .ref (ρ k) :: rest) (hdg : decode cc pc = .ok (.invokevirtual index, 3))
    (kk : ∀ (H1 : Heap) (locs1 : List Loc), va_P (dC, dI) vwCl (wsOf ρ cA M' WF) H1 → va_S A s.heap H1 locs1 → W p l e R s m args below meth c H1 locs1 cells slots Q (F0 m (pc + 3) ls (.int v :: rest))) : W p l e R s m args below meth c H locs cells slots Q (F0 m pc ls st0) := by
  subst hst
  have hvv : VOKs WF (vR tg 0 k :: as) := fun z hz => by
    rcases List.mem_cons.mp hz with rfl | hz
    · exact .inl hkq
    · exact hv z hz
  obtain ⟨md', hx1, -, hM, -⟩ := evD_sound clo_WF wt_WF md_all cd_all d y _ M _ hev hvv hmok
  have hmm : md' = md := Option.some.inj (hx1.symm.trans hx0)
  subst hmm
  have hmk := md_all y md' hx0
  obtain ⟨hin, hsel⟩ := md_sel hx0 h99
  have hts := hF.2.2.2.2
  have hrv : ∃ cellB : Cell, H[ρ k]? = some cellB ∧ cellB.vm.isStatics = false ∧ s.vm.findClass md'.1.cls = some cellB.cls := by
    obtain ⟨j, hj⟩ := List.getElem?_of_mem hkq
    have he := wsOf_at (ρ := ρ) (cA := cA) (M := M) hj
    have hce : ce ρ cA M (tg, 0, k) = .inr (tg, fvs ρ M tg k) := by unfold ce; rw [if_pos ht]
    rw [hce] at he
    have := va_recv hK.1 hP (cl_at tg ht) he
    rw [← hcl]; exact this
  have e0 : (vR tg 0 k :: as).map (cv ρ) = .ref (ρ k) :: as.map (cv ρ) := by rw [List.map_cons]; exact congrArg (· :: _) (cv_t (q := (tg, 0, k)) (by show tg ≠ 50; omega))
  have hps := pc_of (l := l) (as := vR tg 0 k :: as) hK hP hD hS
  have hM2 := hM l dC dI cA ρ A H.size
  rw [e0] at hps hM2
  have cb := callB_of (mc := 0) (ms := 0) (rm := rmD d) (R := R) as.length hts (lw_goodIn hmk.2.1) rfl rfl rfl (hts _ hmk.1) (hts _ hlk) ⟨hmk.2.2.2.1.1, hmk.2.2.2.1.2, hdd⟩ ⟨hR.1, by have := hmk.2.2.2.2.2.1; show 8 + (md'.2.2.1 + 11) + 60 * d ≤ _; omega⟩
  have hrun := va_runV (R := R) (e := e) (meth := meth) (locs := locs) (below := below) (cells := cells) (slots := slots) (b := ρ k) (As := as.map (cv ρ)) (rest := rest) (g := F0 m pc ls ((as.map (cv ρ)).reverse ++ .ref (ρ k) :: rest)) hF hM2 ⟨cb, hts _ hin, hts _ hsel⟩ ⟨hps.1, hrv, hps.2⟩ rfl (by simp) hls rfl (lv_room hrest) hdg hc
  exact call_goL hrun hS (fun H1 locs1 hP1 hS1 => kk H1 locs1 hP1 hS1)
/-- what a callee of ours may take as given, with what a throw wants -/
def RPx (dC : Nat → ClassId) (dI : Nat → Nat → Nat) (cA : Nat → ClassId) (ρ : Nat → Nat) (A : Nat → Prop) (M : Mem) (sz : Nat) (U : State) : Prop :=
  U.heap.size = sz ∧ (∀ q, sz ≤ q → A q) ∧ va_P (dC, dI) vwCl (wsOf ρ cA M WF) U.heap ∧ va_D A (wsOf ρ cA M WF) ∧ va_K (dC, dI) vwCl (tysOf cA) U ∧ SFc ρ A U U.heap ∧ SWc ρ U ∧ XN U ∧ XZ A U U.heap
theorem rx_of {as : List Value} (hK : KX dC dI cA ρ A s) (hxn : XN s) (hxz : XZ A s s.heap) (hP : va_P (dC, dI) vwCl (wsOf ρ cA M WF) H) (hD : va_D A (wsOf ρ cA M WF)) (hS : va_S A s.heap H locs) : PreS s H (va_Pc as (RPx dC dI cA ρ A M H.size)) as := by
  refine ⟨fun a U g mk q => ?_, fun U hU hW => ⟨rfl, by rw [hU], fun q h => hK.2.2.2 q (Nat.le_trans hS.1 h), by rw [hU]; exact hP, hD, hK.1.moved hW.alike, ?_, ⟨fun x hx => (hK.2.2.1.1 x hx).warm hW, fun x hx => (hK.2.2.1.2 x hx).warmM hW⟩, hxn.warm hW, ?_⟩⟩
  · obtain ⟨q0, q1, q2, q3, q4, q5, q6, q7, q8, q9⟩ := q
    exact ⟨q0, q1, q2, q3, q4, va_K.moved (u := U) (U := U.calling g mk a) (Vm.Alike.refl U.vm) q5, SFc.moved (u := U) (U := U.calling g mk a) (Vm.Alike.refl U.vm) q6, ⟨fun x hx => vk_R.same (u := U) (U := U.calling g mk a) rfl (q7.1 x hx), fun x hx => va_Nw.same (u := U) (U := U.calling g mk a) rfl rfl (q7.2 x hx)⟩, XN.same (v := U) (U := U.calling g mk a) rfl q8, XZ.moved (v := U) (U := U.calling g mk a) (Vm.Alike.refl U.vm) q9⟩
  · rw [hU]
    exact (hK.2.1.kept hS.2.1).moved hW.alike
  · rw [hU]
    exact (hxz.kept hS.2.1).moved hW.alike
/-- what stands in the class's rests -/
def RK (p : Program) (s : State) (m : MethodId) (args : Array Value) (meth : Method) (c : Code) (dC : Nat → ClassId) (dI : Nat → Nat → Nat) (cA : Nat → ClassId) (ρ : Nat → Nat) (A : Nat → Prop) (M : Mem) : Prop :=
  CallFix p m c prog_1_method_31_code 7 s args lw_g "IceParliament" ∧ meth.locks = false ∧ (∀ x ∈ c.exceptionTable.toList, False) ∧ KX dC dI cA ρ A s ∧ XN s ∧ XZ A s s.heap ∧ va_D A (wsOf ρ cA M WF) ∧ MOK WF M
def XCr (dC : Nat → ClassId) (dI : Nat → Nat → Nat) (cA : Nat → ClassId) (ρ : Nat → Nat) (A : Nat → Prop) (M : Mem) : String → State → State → Prop := fun E st t => E = nseN ∧ va_P (dC, dI) vwCl (wsOf ρ cA M WF) t.heap ∧ va_F A st t
def QNo : Array Value → State → Outcome → State → Prop := fun _ _ _ _ => False
theorem r_throw (htr : l.stackTraces = false) (rk : RK p s m args meth c dC dI cA ρ A M) (hP : va_P (dC, dI) vwCl (wsOf ρ cA M WF) H) (hS : va_S A s.heap H locs) (hls : ls.size = 7) (hpc : pc = 27 ∨ pc = 86) : W p l e (rmN 70 1 6) s m args below meth c H locs 0 0 (vx_MQ below QNo (XCr dC dI cA ρ A M) args s 1 6 A) (F0 m pc ls []) := by
  obtain ⟨hF, hlocks, hout, hK, hxn, hxz, hD, hmok⟩ := rk
  have hts := hF.2.2.2.2
  have hx : ∀ t : State, s.vm.Alike t.vm → H.size ≤ t.heap.size → (∀ q : Nat, q < H.size → t.heap[q]? = H[q]?) → XCr dC dI cA ρ A M nseN s t := fun t _ h1 h2 => ⟨rfl, fun i y hy => va_at.kept (hP i y hy) (h2 _ (vx_lt hP hy)), Nat.le_trans hS.1 h1, fun q hq ha => (h2 q (Nat.lt_of_lt_of_le hq hS.1)).trans (hS.2.1 q hq ha)⟩
  rcases hpc with rfl | rfl
  · exact vx_throw0 (cls := nseN) (names := ["java/lang/RuntimeException", "java/lang/Exception"]) (ik := 317) (ic := 319) (mc := 1) (ms := 6) hF.1 hF.2.1 htr hF.2.2.2.1 (by decide +kernel) (by decide +kernel) (hts _ (in_t6 (List.mem_of_getElem? (i := 210) rfl) rfl)) (hts _ (in_t1 (List.mem_of_getElem? (i := 26) rfl) rfl)) (own_words hts hxn) own_ot hxz.1 hxz.2 hS (hls.trans hF.2.2.1.symm) (by decide +kernel) (by decide +kernel) (by decide +kernel) (by decide +kernel) (fun x hx => (hout x hx).elim) (Nat.le_of_ble_eq_true rfl) (Nat.le_of_ble_eq_true rfl) (Nat.le_of_ble_eq_true rfl) (Nat.le_of_ble_eq_true rfl) hlocks hx (fun z hz => hS.2.2 z hz) (Nat.le_of_ble_eq_true rfl) (Nat.le_of_ble_eq_true rfl)
  · exact vx_throw0 (cls := nseN) (names := ["java/lang/RuntimeException", "java/lang/Exception"]) (ik := 317) (ic := 319) (mc := 1) (ms := 6) hF.1 hF.2.1 htr hF.2.2.2.1 (by decide +kernel) (by decide +kernel) (hts _ (in_t6 (List.mem_of_getElem? (i := 210) rfl) rfl)) (hts _ (in_t1 (List.mem_of_getElem? (i := 26) rfl) rfl)) (own_words hts hxn) own_ot hxz.1 hxz.2 hS (hls.trans hF.2.2.1.symm) (by decide +kernel) (by decide +kernel) (by decide +kernel) (by decide +kernel) (fun x hx => (hout x hx).elim) (Nat.le_of_ble_eq_true rfl) (Nat.le_of_ble_eq_true rfl) (Nat.le_of_ble_eq_true rfl) (Nat.le_of_ble_eq_true rfl) hlocks hx (fun z hz => hS.2.2 z hz) (Nat.le_of_ble_eq_true rfl) (Nat.le_of_ble_eq_true rfl)
/-- the locals in the loop -/
def LL (ls : Array Slot) (ρ : Nat → Nat) (h u x w sn : Int32) (k : Nat) : Prop := lv_has ls 7 [(6, .int (Int32.ofNat k)), (5, .int sn), (0, .ref (ρ 0)), (1, .int h), (2, .int u), (3, .int x), (4, .int w)]
theorem LL.all {sn : Int32} {k : Nat} (hl : LL ls ρ h u x w sn k) : ls[1]? = some (.val (.int h)) ∧ ls[2]? = some (.val (.int u)) ∧ ls[3]? = some (.val (.int x)) ∧ ls[4]? = some (.val (.int w)) ∧ ls[5]? = some (.val (.int sn)) ∧ ls[6]? = some (.val (.int (Int32.ofNat k))) :=
  ⟨hl.2.2 (1, .int h) (by simp), hl.2.2 (2, .int u) (by simp), hl.2.2 (3, .int x) (by simp), hl.2.2 (4, .int w) (by simp), hl.2.2 (5, .int sn) (by simp), hl.2.2 (6, .int (Int32.ofNat k)) (by simp)⟩
theorem snw_1 {sn : Int32} : sn + Int32.ofInt 1 = sn + 1 := congrArg (fun z => sn + z) (by decide)
theorem r_loop (htr : l.stackTraces = false) (rk : RK p s m args meth c dC dI cA ρ A M) : ∀ (n k : Nat) (sn : Int32) (H : Heap) (locs : List Loc) (ls : Array Slot), k + n = 4 → rfd (rsg h u x) w n k sn = none → LL ls ρ h u x w sn k → va_P (dC, dI) vwCl (wsOf ρ cA M WF) H → va_S A s.heap H locs →
    W p l e (rmN 70 1 6) s m args below meth c H locs 0 0 (vx_MQ below QNo (XCr dC dI cA ρ A M) args s 1 6 A) (F0 m 41 ls [])
  | 0, k, sn, H, locs, ls, hk, hr, hl, hP, hS => by
    obtain rfl : k = 4 := by omega
    have hx := rk.1.1
    have hb := rk.1.2.1
    rw [rfd] at hr
    have hw : w ≠ -1 := fun z => by rw [if_pos z] at hr; cases hr
    obtain ⟨l1, l2, l3, l4, l5, l6⟩ := hl.all
    refine lv_iload hx hb (pc := 41) (by decide +kernel) l6 ?_
    refine lv_iconst hx hb (n := 4) (v := 4) (pc := 43) (by decide +kernel) (by decide) ?_
    refine lv_icmp_ge hx hb (off := 33) (tgt := 77) (pc := 44) (by decide +kernel) (by decide) (fun _ => ?_) (fun hno => absurd (by decide) hno)
    refine lv_iload hx hb (pc := 77) (by decide +kernel) l4 ?_
    refine lv_iconst hx hb (n := -1) (v := -1) (pc := 79) (by decide +kernel) (by decide) ?_
    refine lv_icmp_ne hx hb (off := 6) (tgt := 86) (pc := 80) (by decide +kernel) (by decide) (fun _ => ?_) (fun he => absurd he hw)
    exact r_throw htr rk hP hS hl.1 (.inr rfl)
  | n + 1, k, sn, H, locs, ls, hk, hr, hl, hP, hS => by
    have hx := rk.1.1
    have hb := rk.1.2.1
    rw [rfd] at hr
    obtain ⟨l1, l2, l3, l4, l5, l6⟩ := hl.all
    refine lv_iload hx hb (pc := 41) (by decide +kernel) l6 ?_
    refine lv_iconst hx hb (n := 4) (v := 4) (pc := 43) (by decide +kernel) (by decide) ?_
    refine lv_icmp_ge hx hb (off := 33) (tgt := 77) (pc := 44) (by decide +kernel) (by decide) (fun hge => absurd hge (Int32.not_le.mpr (k_4 (by omega)))) (fun _ => ?_)
    refine lv_iload hx hb (pc := 47) (by decide +kernel) l6 ?_
    refine lv_iload_n hx hb (k := 1) (pc := 49) (by decide +kernel) rfl l1 ?_
    refine lv_iload_n hx hb (k := 2) (pc := 50) (by decide +kernel) rfl l2 ?_
    refine lv_iload_n hx hb (k := 3) (pc := 51) (by decide +kernel) rfl l3 ?_
    refine g_callS (y := 189) (index := 320) (d := 60) (as := [vI (Int32.ofNat k), vI h, vI u, vI x]) (rest := []) rfl (sp189 (d := 58)) rfl (vok_I (vok_I (vok_I (vok_I vok_nil)))) rk.1 rk.2.2.2.1 hP rk.2.2.2.2.2.2.1 hS rk.2.2.2.2.2.2.2 hl.1 (in_t7 (List.mem_of_getElem? (i := 31) rfl) rfl) rfl ⟨Nat.le_of_ble_eq_true rfl, Nat.le_of_ble_eq_true rfl⟩ ⟨Nat.le_of_ble_eq_true rfl, Nat.le_of_ble_eq_true rfl⟩ (Nat.le_of_ble_eq_true rfl) rfl (pc := 52) (by decide +kernel) (fun H1 locs1 hP1 hS1 => ?_)
    refine lv_if_eq hx hb (off := 16) (tgt := 71) (pc := 55) (by decide +kernel) (by decide) (fun hz => ?_) (fun hz => ?_)
    · rw [b2_0] at hz
      rw [if_neg (by show ¬ rstv (Int32.ofNat k) h u x = true; rw [hz]; decide)] at hr
      refine lv_iinc (i := 6) (k := 0) (n := 1) (v := Int32.ofNat (k + 1)) (lv' := [(6, .int (Int32.ofNat (k + 1))), (5, .int sn), (0, .ref (ρ 0)), (1, .int h), (2, .int u), (3, .int x), (4, .int w)]) hx hb (pc := 71) (by decide +kernel) hl rfl (Int32.ofNat_add k 1).symm (by decide) rfl (fun ls2 hl2 => ?_)
      refine lv_goto hx hb (off := -33) (tgt := 41) (pc := 74) (by decide +kernel) (by decide) ?_
      exact r_loop htr rk n (k + 1) sn H1 locs1 ls2 (by omega) hr hl2 hP1 hS1
    · rw [b2_0, Bool.not_eq_false] at hz
      rw [if_pos (show rsg h u x k = true from hz)] at hr
      have hne : sn ≠ w := fun z => by rw [if_pos z] at hr; cases hr
      rw [if_neg hne] at hr
      refine lv_iload hx hb (pc := 58) (by decide +kernel) l5 ?_
      refine lv_iload hx hb (pc := 60) (by decide +kernel) l4 ?_
      refine lv_icmp_ne hx hb (off := 6) (tgt := 68) (pc := 62) (by decide +kernel) (by decide) (fun _ => ?_) (fun he => absurd he hne)
      refine lv_iinc (i := 5) (k := 1) (n := 1) (v := sn + 1) (lv' := [(5, .int (sn + 1)), (6, .int (Int32.ofNat k)), (0, .ref (ρ 0)), (1, .int h), (2, .int u), (3, .int x), (4, .int w)]) hx hb (pc := 68) (by decide +kernel) hl rfl snw_1 (by decide) rfl (fun ls2 hl2 => ?_)
      refine lv_iinc (i := 6) (k := 1) (n := 1) (v := Int32.ofNat (k + 1)) (lv' := [(6, .int (Int32.ofNat (k + 1))), (5, .int (sn + 1)), (0, .ref (ρ 0)), (1, .int h), (2, .int u), (3, .int x), (4, .int w)]) hx hb (pc := 71) (by decide +kernel) hl2 rfl (Int32.ofNat_add k 1).symm (by decide) rfl (fun ls3 hl3 => ?_)
      refine lv_goto hx hb (off := -33) (tgt := 41) (pc := 74) (by decide +kernel) (by decide) ?_
      exact r_loop htr rk n (k + 1) (sn + 1) H1 locs1 ls3 (by omega) hr hl3 hP1 hS1
theorem r_start (htr : l.stackTraces = false) (rk : RK p s m args meth c dC dI cA ρ A M) (hbad : RT h u x w → rfd (rsg h u x) w 4 0 0 = none) (hP : va_P (dC, dI) vwCl (wsOf ρ cA M WF) H) (hS : va_S A s.heap H locs) (hl : lv_has ls 7 [(0, .ref (ρ 0)), (1, .int h), (2, .int u), (3, .int x), (4, .int w)]) : W p l e (rmN 70 1 6) s m args below meth c H locs 0 0 (vx_MQ below QNo (XCr dC dI cA ρ A M) args s 1 6 A) (F0 m 0 ls []) := by
  have hx := rk.1.1
  have hb := rk.1.2.1
  have l1 : ls[1]? = some (.val (.int h)) := hl.2.2 (1, .int h) (by simp)
  have l2 : ls[2]? = some (.val (.int u)) := hl.2.2 (2, .int u) (by simp)
  have l3 : ls[3]? = some (.val (.int x)) := hl.2.2 (3, .int x) (by simp)
  have l4 : ls[4]? = some (.val (.int w)) := hl.2.2 (4, .int w) (by simp)
  refine lv_iload_n hx hb (k := 1) (pc := 0) (by decide +kernel) rfl l1 ?_
  refine g_callS (y := 188) (index := 314) (d := 60) (as := [vI h]) (rest := []) rfl (sp188 (d := 59)) rfl (vok_I vok_nil) rk.1 rk.2.2.2.1 hP rk.2.2.2.2.2.2.1 hS rk.2.2.2.2.2.2.2 hl.1 (in_t6 (List.mem_of_getElem? (i := 207) rfl) rfl) rfl ⟨Nat.le_of_ble_eq_true rfl, Nat.le_of_ble_eq_true rfl⟩ ⟨Nat.le_of_ble_eq_true rfl, Nat.le_of_ble_eq_true rfl⟩ (Nat.le_of_ble_eq_true rfl) rfl (pc := 1) (by decide +kernel) (fun H1 locs1 hP1 hS1 => ?_)
  refine lv_if_eq hx hb (off := 23) (tgt := 27) (pc := 4) (by decide +kernel) (by decide) (fun _ => r_throw htr rk hP1 hS1 hl.1 (.inl rfl)) (fun z1 => ?_)
  refine lv_iload_n hx hb (k := 2) (pc := 7) (by decide +kernel) rfl l2 ?_
  refine g_callS (y := 188) (index := 314) (d := 60) (as := [vI u]) (rest := []) rfl (sp188 (d := 59)) rfl (vok_I vok_nil) rk.1 rk.2.2.2.1 hP1 rk.2.2.2.2.2.2.1 hS1 rk.2.2.2.2.2.2.2 hl.1 (in_t6 (List.mem_of_getElem? (i := 207) rfl) rfl) rfl ⟨Nat.le_of_ble_eq_true rfl, Nat.le_of_ble_eq_true rfl⟩ ⟨Nat.le_of_ble_eq_true rfl, Nat.le_of_ble_eq_true rfl⟩ (Nat.le_of_ble_eq_true rfl) rfl (pc := 8) (by decide +kernel) (fun H2 locs2 hP2 hS2 => ?_)
  refine lv_if_eq hx hb (off := 16) (tgt := 27) (pc := 11) (by decide +kernel) (by decide) (fun _ => r_throw htr rk hP2 hS2 hl.1 (.inl rfl)) (fun z2 => ?_)
  refine lv_iload_n hx hb (k := 3) (pc := 14) (by decide +kernel) rfl l3 ?_
  refine g_callS (y := 188) (index := 314) (d := 60) (as := [vI x]) (rest := []) rfl (sp188 (d := 59)) rfl (vok_I vok_nil) rk.1 rk.2.2.2.1 hP2 rk.2.2.2.2.2.2.1 hS2 rk.2.2.2.2.2.2.2 hl.1 (in_t6 (List.mem_of_getElem? (i := 207) rfl) rfl) rfl ⟨Nat.le_of_ble_eq_true rfl, Nat.le_of_ble_eq_true rfl⟩ ⟨Nat.le_of_ble_eq_true rfl, Nat.le_of_ble_eq_true rfl⟩ (Nat.le_of_ble_eq_true rfl) rfl (pc := 15) (by decide +kernel) (fun H3 locs3 hP3 hS3 => ?_)
  refine lv_if_eq hx hb (off := 9) (tgt := 27) (pc := 18) (by decide +kernel) (by decide) (fun _ => r_throw htr rk hP3 hS3 hl.1 (.inl rfl)) (fun z3 => ?_)
  refine lv_iload hx hb (pc := 21) (by decide +kernel) l4 ?_
  refine lv_iconst hx hb (n := -1) (v := -1) (pc := 23) (by decide +kernel) (by decide) ?_
  refine lv_icmp_ge hx hb (off := 11) (tgt := 35) (pc := 24) (by decide +kernel) (by decide) (fun hge => ?_) (fun _ => r_throw htr rk hP3 hS3 hl.1 (.inl rfl))
  rw [b2_0, Bool.not_eq_false] at z1 z2 z3
  refine lv_iconst hx hb (n := 0) (v := 0) (pc := 35) (by decide +kernel) (by decide) ?_
  refine lv_istore (i := 5) (lv' := [(5, .int 0), (0, .ref (ρ 0)), (1, .int h), (2, .int u), (3, .int x), (4, .int w)]) hx hb (pc := 36) (by decide +kernel) hl (by decide) rfl (fun ls2 hl2 => ?_)
  refine lv_iconst hx hb (n := 0) (v := 0) (pc := 38) (by decide +kernel) (by decide) ?_
  refine lv_istore (i := 6) (lv' := [(6, .int 0), (5, .int 0), (0, .ref (ρ 0)), (1, .int h), (2, .int u), (3, .int x), (4, .int w)]) hx hb (pc := 39) (by decide +kernel) hl2 (by decide) rfl (fun ls3 hl3 => ?_)
  exact r_loop htr rk 4 0 0 H3 locs3 ls3 rfl (hbad ⟨z1, z2, z3, Int32.not_lt.mpr hge⟩) hl3 hP3 hS3
/-- the class's rests, where it throws -/
theorem c_thr {sz : Nat} (htr : l.stackTraces = false) (hmok : MOK WF M) (hbad : RT h u x w → rfd (rsg h u x) w 4 0 0 = none) : vx_Met l y_rests (.code y_rests prog_1_method_31_code 7 (Option.some Jvm.ClassFile.FieldType.int) :: lw_g) (rmN 70 1 6) (va_Pc [.ref (ρ 0), .int h, .int u, .int x, .int w] (RPx dC dI cA ρ A M sz)) QNo (XCr dC dI cA ρ A M) 1 6 A := by
  refine vx_ofW (cc := prog_1_method_31_code) (maxL := 7) (ret := Option.some Jvm.ClassFile.FieldType.int) (by decide +kernel) rfl ?_
  intro p e s m args below meth c s₁ B hml hout hv
  obtain ⟨rfl, hsz, hA, hP, hD, hK, hF, hW, hxn, hxz⟩ := hv
  have hts := atoms_spec (ws := Cond.code y_rests prog_1_method_31_code 7 (Option.some Jvm.ClassFile.FieldType.int) :: lw_g) B.pre
  have hown : s.vm.findClass "IceParliament" = some m.cls := findClass_of_methodNamed B.named
  have hl := lv_entry [.ref (ρ 0), .int h, .int u, .int x, .int w] (n := 7) (Nat.le_of_ble_eq_true rfl)
  rw [lg_entry_eq]
  exact r_start htr ⟨⟨B.exec, B.bytes, hml, hown, fun w hw => hts w (List.mem_cons_of_mem _ hw)⟩, B.notSynchronized, hout, ⟨hK, hF, hW, fun q hq => hA q (by rw [← hsz]; exact hq)⟩, hxn, hxz, hD, hmok⟩ hbad hP va_S.rf hl
/-- what the law's rests answers and leaves -/
def LRs (h u x w v : Int32) (M M' : Mem) : Prop := (∃ r, RT h u x w ∧ rfd (rsg h u x) w 4 0 0 = some r ∧ v = 0 ∧ M' = sJ M 278 0 r.toInt64) ∨ ((RT h u x w → rfd (rsg h u x) w 4 0 0 = none) ∧ v = 1 ∧ M' = M)
theorem lr_start {v : Int32} (htr : l.stackTraces = false) (hres : LRs h u x w v M M') (hF : CallFix p m c method_3_code 7 s args lw_g "IceParliamentLaw") (hlocks : meth.locks = false) (hret : meth.sig.returnType = Option.some Jvm.ClassFile.FieldType.int) (htb : c.exceptionTable.toList = [⟨0, 14, 17, 13⟩]) (hK : KX dC dI cA ρ A s) (hxn : XN s) (hxz : XZ A s s.heap) (hD : va_D A (wsOf ρ cA M WF)) (hmok : MOK WF M) (hP : va_P (dC, dI) vwCl (wsOf ρ cA M WF) H) (hS : va_S A s.heap H locs)
    (hl : lv_has ls 7 [(0, .ref (ρ 0)), (1, .int h), (2, .int u), (3, .int x), (4, .int w), (5, .ref (ρ 278))]) : W p l e (rmN 80 1 6) s m args below meth c H locs 0 0 (MQ below (QcR dC dI cA ρ WF A (some (vI v), M')) args s 1 6 A) (F0 m 0 ls []) := by
  have hx := hF.1
  have hb := hF.2.1
  have hts := hF.2.2.2.2
  have l0 : ls[0]? = some (.val (.ref (ρ 0))) := hl.2.2 (0, .ref (ρ 0)) (by simp)
  have l1 : ls[1]? = some (.val (.int h)) := hl.2.2 (1, .int h) (by simp)
  have l2 : ls[2]? = some (.val (.int u)) := hl.2.2 (2, .int u) (by simp)
  have l3 : ls[3]? = some (.val (.int x)) := hl.2.2 (3, .int x) (by simp)
  have l4 : ls[4]? = some (.val (.int w)) := hl.2.2 (4, .int w) (by simp)
  have l5 : ls[5]? = some (.val (.ref (ρ 278))) := hl.2.2 (5, .ref (ρ 278)) (by simp)
  refine lv_aload hx hb (pc := 0) (by decide +kernel) l5 ?_
  refine lv_iconst hx hb (n := 0) (v := 0) (pc := 2) (by decide +kernel) (by decide) ?_
  refine lv_aload_n hx hb (k := 0) (pc := 3) (by decide +kernel) rfl l0 ?_
  refine lv_iload_n hx hb (k := 1) (pc := 4) (by decide +kernel) rfl l1 ?_
  refine lv_iload_n hx hb (k := 2) (pc := 5) (by decide +kernel) rfl l2 ?_
  refine lv_iload_n hx hb (k := 3) (pc := 6) (by decide +kernel) rfl l3 ?_
  refine lv_iload hx hb (pc := 7) (by decide +kernel) l4 ?_
  rcases hres with ⟨r, c1, e1, rfl, rfl⟩ | ⟨hbad, rfl, rfl⟩
  · refine g_callV (y := 187) (tg := 11) (k := 0) (index := 7) (d := 60) (as := [vI h, vI u, vI x, vI w]) (rest := [.int 0, .ref (ρ 278)]) rfl (sp187 (d := 57) c1 e1) (by decide +kernel) (by decide) rfl (by decide) (vok_I (vok_I (vok_I (vok_I vok_nil)))) hF hK hP hD hS hmok hl.1 (in_t6 (List.mem_of_getElem? (i := 203) rfl) rfl) rfl ⟨Nat.le_of_ble_eq_true rfl, Nat.le_of_ble_eq_true rfl⟩ ⟨Nat.le_of_ble_eq_true rfl, Nat.le_of_ble_eq_true rfl⟩ (Nat.le_of_ble_eq_true rfl) rfl (pc := 9) (by decide +kernel) (fun H1 locs1 hP1 hS1 => ?_)
    refine lv_i2l hx hb (v := r.toInt64) (pc := 12) (by decide +kernel) rfl ?_
    have h278 : WF[278]? = some (23, 1, 278) := rfl
    have he := wsOf_at (ρ := ρ) (cA := cA) (M := M) h278
    rw [ce_long rfl] at he
    refine va_last hx hb hK.1 hP1 hD hS1 278 3 he rfl (i := 0) (show ¬ ((0 : Int32) < 0 ∨ 1 ≤ (0 : Int32).toNatClampNeg) by decide) (pc := 13) (by decide +kernel) (fun H2 locs2 hP2 hD2 hS2 => ?_)
    have hset : (wsOf ρ cA M WF).set 278 (ρ 278, .inl (cA 23, 1, .inr (.inl (vp_updL (M.2.1 278) (0 : Int32).toNatClampNeg r.toInt64)))) = wsOf ρ cA (sJ M 278 (0 : Int32).toNatClampNeg r.toInt64) WF := wsOf_set hD h278 (by rw [ce_long rfl, updL_row]) (fun q' h => ce_sJ_ne h)
    have hP3 : va_P (dC, dI) vwCl (wsOf ρ cA (sJ M 278 0 r.toInt64) WF) H2 := by
      have := hP2
      rw [hset] at this
      exact this
    refine lv_goto hx hb (off := 7) (tgt := 21) (pc := 14) (by decide +kernel) (by decide) ?_
    refine lv_iconst hx hb (n := 0) (v := 0) (pc := 21) (by decide +kernel) (by decide) ?_
    refine W.widen (k := 1) (n := 6) (Nat.zero_le _) (Nat.zero_le _) ?_
    exact W.zret hx hb hret rfl (fun t ht hW => ⟨rfl, by rw [ht]; exact hP3, hK.1.moved hW.alike, hS2.F ht⟩) (fun q hq => hS2.2.2 q hq) (pc := 22) (by decide +kernel) hlocks
  · have hMx := c_thr (dC := dC) (dI := dI) (cA := cA) (ρ := ρ) (A := A) (sz := H.size) htr hmok hbad
    have cb := callB_of (mc := 1) (ms := 6) (rm := rmN 70 1 6) (R := rmN 80 1 6) (own := "IceParliamentLaw") (index := 7) 4 hts (lw_goodIn (x := Cond.code y_rests prog_1_method_31_code 7 (Option.some Jvm.ClassFile.FieldType.int)) (in_t6 (List.mem_of_getElem? (i := 206) rfl) rfl)) rfl rfl rfl (hts _ (in_t1 (List.mem_of_getElem? (i := 1) rfl) rfl)) (hts _ (in_t6 (List.mem_of_getElem? (i := 203) rfl) rfl)) ⟨by decide, by decide, rfl⟩ ⟨Nat.le_of_ble_eq_true rfl, Nat.le_of_ble_eq_true rfl⟩
    have hps := rx_of (as := [.ref (ρ 0), .int h, .int u, .int x, .int w]) hK hxn hxz hP hD hS
    have hrv : ∃ cellB : Cell, H[ρ 0]? = some cellB ∧ cellB.vm.isStatics = false ∧ s.vm.findClass "IceParliament" = some cellB.cls := by
      have h0 : WF[0]? = some (11, 0, 0) := rfl
      have he := wsOf_at (ρ := ρ) (cA := cA) (M := M') h0
      have hce : ce ρ cA M' (11, 0, 0) = .inr (11, fvs ρ M' 11 0) := by unfold ce; rw [if_pos (by decide)]
      rw [hce] at he
      exact va_recv hK.1 hP (cl_at 11 (by decide)) he
    have hrun := vx_runV (R := rmN 80 1 6) (e := e) (meth := meth) (locs := locs) (below := below) (cells := 0) (slots := 0) (b := ρ 0) (As := [.int h, .int u, .int x, .int w]) (rest := [.int 0, .ref (ρ 278)]) (g := F0 m 9 ls [.int w, .int x, .int u, .int h, .ref (ρ 0), .int 0, .ref (ρ 278)]) hF hMx ⟨cb, hts _ (in_t6 (List.mem_of_getElem? (i := 204) rfl) rfl), hts _ (in_t6 (List.mem_of_getElem? (i := 205) rfl) rfl)⟩ ⟨hps.1, hrv, hps.2⟩ rfl rfl hl.1 rfl (lv_room (Nat.le_of_ble_eq_true rfl)) (show decode method_3_code 9 = .ok (.invokevirtual 7, 3) by decide +kernel) ⟨Nat.le_of_ble_eq_true rfl, Nat.le_of_ble_eq_true rfl⟩
    intro T hT X
    rcases hrun T hT X with ⟨v, st₀, t, T', L, h0, X', hL, e1, e2, hq, st⟩ | ⟨q, st₀, t, T', L, E, ce, h0, X', hL, e1, e2, ⟨hE, hPt, hFt⟩, hce, hcv, hcl, st⟩
    · exact hq.elim
    · subst hE
      obtain ⟨k1, k2, k3⟩ := vx_keep (A0 := A) (A1 := A) h0 e1 hS (fun _ _ h => h) (fun _ h => h) hL hFt
      have hP2 : va_P (dC, dI) vwCl (wsOf ρ cA M' WF) T'.heap := by rw [e1]; exact hPt
      have kw : vx_W p l e (rmN 80 1 6) s m args below meth c T'.heap (locs ++ L) (0 + 1) (0 + 6) (MQ below (QcR dC dI cA ρ WF A (some (vI 1), M')) args s 1 6 A) (F0 m 9 ls [.int 0, .ref (ρ 278)]) q := by
        refine vx_catch (own := "IceParliamentLaw") (name := nseN) (E := nseN) hF.2.2.2.1 [] ⟨0, 14, 17, 13⟩ [] htb (fun z hz => nomatch hz) (by decide) (by decide) (hts _ (in_t6 (List.mem_of_getElem? (i := 202) rfl) rfl)) (va_Nw.use rfl hxn.1) (by rw [e1]; exact hce) hcv hcl ?_
        refine lv_astore (i := 6) (lv' := [(6, .ref q), (0, .ref (ρ 0)), (1, .int h), (2, .int u), (3, .int x), (4, .int w), (5, .ref (ρ 278))]) hx hb (pc := 17) (by decide +kernel) hl (by decide) rfl (fun ls2 hl2 => ?_)
        refine lv_iconst hx hb (n := 1) (v := 1) (pc := 19) (by decide +kernel) (by decide) ?_
        exact W.zret hx hb hret rfl (fun t ht hW => ⟨rfl, by rw [ht]; exact hP2, hK.1.moved hW.alike, k3.F ht⟩) (fun q hq => k3.2.2 q hq) (pc := 20) (by decide +kernel) hlocks
      obtain ⟨t2, a1, b1⟩ := kw T' rfl X'
      exact ⟨t2, st.trans a1, b1⟩
/-- the law's rests -/
theorem c_lr {v : Int32} {sz : Nat} (htr : l.stackTraces = false) (hmok : MOK WF M) (hres : LRs h u x w v M M') : Met l yLr (.codeWith yLr method_3_code 7 (Option.some Jvm.ClassFile.FieldType.int) [(0, 14, 17, 13)] :: lw_g) (rmN 80 1 6) (va_Pc [.ref (ρ 0), .int h, .int u, .int x, .int w, .ref (ρ 278)] (RPx dC dI cA ρ A M sz)) (QcR dC dI cA ρ WF A (some (vI v), M')) 1 6 A := by
  refine va_MetW (cc := method_3_code) (maxL := 7) (ret := Option.some Jvm.ClassFile.FieldType.int) (hh := [(0, 14, 17, 13)]) (by decide +kernel) rfl ?_
  intro p e s m args below meth c s₁ B hml hv
  obtain ⟨rfl, hsz, hA, hP, hD, hK, hF, hW, hxn, hxz⟩ := hv
  have hts := atoms_spec (ws := Cond.codeWith yLr method_3_code 7 (Option.some Jvm.ClassFile.FieldType.int) [(0, 14, 17, 13)] :: lw_g) B.pre
  have hown : s.vm.findClass "IceParliamentLaw" = some m.cls := findClass_of_methodNamed B.named
  have htb := vx_table (x := yLr) B (hts _ List.mem_cons_self)
  have hl := lv_entry [.ref (ρ 0), .int h, .int u, .int x, .int w, .ref (ρ 278)] (n := 7) (Nat.le_of_ble_eq_true rfl)
  rw [lg_entry_eq]
  exact lr_start htr hres ⟨B.exec, B.bytes, hml, hown, fun w hw => hts w (List.mem_cons_of_mem _ hw)⟩ B.notSynchronized B.returns htb ⟨hK, hF, hW, fun q hq => hA q (by rw [← hsz]; exact hq)⟩ hxn hxz hD hmok hP va_S.rf hl
end RESTW
