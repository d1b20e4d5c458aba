/-! THE WORLD IN ITS MAKING: contracts of constructors, calls -/
section NCALL
variable {ρ : Nat → Nat} {cA : Nat → ClassId} {M M' : Mem} {Z Z' : Zs} {n n' B : Nat} {dC : Nat → ClassId} {dI : Nat → Nat → Nat}
variable {p : Program} {l : Launch} {e : Env} {R : Room} {s : State} {m : MethodId} {args : Array Value} {below : List Frame} {meth : Method} {c : Code} {H : Heap} {locs : List Loc} {cells slots : Nat} {Q : State → Prop}
variable {own : String} {cc : ByteArray} {nL pc : Nat} {ls : Array Slot} {rest : List Value} {lv : Lv}
def PNs (dC : Nat → ClassId) (dI : Nat → Nat → Nat) (cA : Nat → ClassId) (ρ : Nat → Nat) (B n : Nat) (M : Mem) (Z : Zs) (U : State) : Prop := U.heap.size = B + n ∧ va_P (dC, dI) vwCl (wsZ ρ cA M Z (WL n)) U.heap ∧ va_K (dC, dI) vwCl (tysOf cA) U ∧ SFc ρ (AB B) U U.heap ∧ SWc ρ U ∧ NOv U
def QNs (dC : Nat → ClassId) (dI : Nat → Nat → Nat) (cA : Nat → ClassId) (ρ : Nat → Nat) (B n : Nat) (M : Mem) (Z : Zs) : Array Value → State → Outcome → State → Prop := fun _ st oc t => oc = .returned none ∧ t.heap.size = B + n ∧ va_P (dC, dI) vwCl (wsZ ρ cA M Z (WL n)) t.heap ∧ va_F (AB B) st t
def rmN (d mc ms : Nat) : Room := { frames := d, cells := mc, slots := ms, locals := 60 * d }
def CNt (y : MethodName) (bytes : ByteArray) (mL d mc ms : Nat) (as : List AV) (n : Nat) (M : Mem) (Z : Zs) (n' : Nat) (M' : Mem) (Z' : Zs) : Prop :=
  ∀ (l : Launch) (dC : Nat → ClassId) (dI : Nat → Nat → Nat) (cA : Nat → ClassId) (ρ : Nat → Nat) (B : Nat), RB ρ B → Met l y (.code y bytes mL none :: lw_g) (rmN d mc ms) (va_Pc (as.map (cv ρ)) (PNs dC dI cA ρ B n M Z)) (QNs dC dI cA ρ B n' M' Z') mc ms (AB B)
theorem AO_moved {u U : State} (hvm : u.vm.Alike U.vm) (h : (Cond.arrayOver (.array .int)).before #[] u = true) : (Cond.arrayOver (.array .int)).before #[] U = true := by
  exact arrayOver_alikeB (args := #[]) (t := .int) hvm h
theorem NOv.warm {u U : State} (hW : u.WarmedH U.vm) (h : NOv u) : NOv U := ⟨h.1.moved hW.alike, AO_moved hW.alike h.2.1, fun x hx => (h.2.2 x hx).warmM hW⟩
theorem PNs_pre {as : List AV} (cx : CX own cc nL p s m args meth c dC dI cA ρ B) (sx : SX dC dI cA ρ B s n M Z H locs) : PreS s H (va_Pc (as.map (cv ρ)) (PNs dC dI cA ρ B n M Z)) (as.map (cv ρ)) := by
  obtain ⟨-, -, -, -, hK, hF, hSW, hO, hρ, -⟩ := cx
  obtain ⟨hP, hz, hS⟩ := sx
  refine ⟨fun a U g mk q => ?_, fun U hU hW => ⟨rfl, by rw [hU]; exact hz, by rw [hU]; exact hP, hK.moved hW.alike, ?_, ⟨fun x hx => (hSW.1 x hx).warm hW, fun x hx => (hSW.2 x hx).warmM hW⟩, hO.warm hW⟩⟩
  · obtain ⟨q0, q1, q2, q3, q4, q5, q6, q7, q8⟩ := q
    exact ⟨q0, q1, q2, va_K.moved (u := U) (U := U.calling g mk a) (Vm.Alike.refl U.vm) q3, SFc.moved (u := U) (U := U.calling g mk a) (Vm.Alike.refl U.vm) q4, ⟨fun x hx => vk_R.same (u := U) (U := U.calling g mk a) rfl (q5.1 x hx), fun x hx => va_Nw.same (u := U) (U := U.calling g mk a) rfl rfl (q5.2 x hx)⟩, q6, q7, fun x hx => va_Nw.same (u := U) (U := U.calling g mk a) rfl rfl (q8 x hx)⟩
  · rw [hU]
    exact (hF.kept hS.2.1).moved hW.alike
theorem ncall_go {mc ms : Nat} {a : Array Value} {st0 : List Value} (hr : va_Run p l e R s m args below meth c H locs cells slots mc ms (F0 m pc ls st0) rest (QNs dC dI cA ρ B n' M' Z' a) (AB B)) (hS : va_S (AB B) s.heap H locs)
    (kk : ∀ (H1 : Heap) (locs1 : List Loc), SX dC dI cA ρ B s n' M' Z' H1 locs1 → W p l e R s m args below meth c H1 locs1 (cells + mc) (slots + ms) Q (F0 m (pc + 3) ls rest)) : W p l e R s m args below meth c H locs cells slots Q (F0 m pc ls st0) := by
  intro T hT X
  obtain ⟨v, st₀, t, T', L, h0, X', hL, e1, e2, ⟨hv, hz, hp, hz2, hk⟩, st⟩ := hr T hT X
  cases hv
  rw [h0] at hz2 hk
  obtain ⟨t2, a1, b1⟩ := kk T'.heap (locs ++ L) ⟨by rw [e1]; exact hp, by rw [e1]; exact hz,
    Nat.le_trans hS.1 (by rw [e1]; exact hz2), fun q h1 h2 => by rw [e1, hk q (Nat.lt_of_lt_of_le h1 hS.1) h2]; exact hS.2.1 q h1 h2, fun q hq => by
      rcases List.mem_append.mp hq with h | h
      · exact hS.2.2 q h
      · exact hL q h⟩ T' rfl X'
  exact ⟨t2, st t2 a1, b1⟩
/-- a constructor is called -/
theorem n_init {y : MethodName} {bytes : ByteArray} {mL d mc ms index t k : Nat} {as : List AV} (hM : CNt y bytes mL d mc ms (vR t 0 k :: as) n M Z n' M' Z') (cx : CX own cc nL p s m args meth c dC dI cA ρ B) (sx : SX dC dI cA ρ B s n M Z H locs) (hk : k < 10000) (hls : ls.size = nL) (hcode : Cond.code y bytes mL none ∈ lw_g) (hini : Cond.initialized y.cls ∈ lw_g) (hlk : Cond.methodLink own index y ∈ lw_g ∨ ∃ C, (own, index, C) ∈ [("IceParliament", 11, "IceParliament$Tape"), ("IceParliament$Yard", 11, "IceParliament$Roll"), ("IceParliament$Yard", 57, "IceParliament$Law"), ("IceParliament", 37, "IceParliament$Session")] ∧ y = ⟨C, "<init>", "()V"⟩) (hin : Cond.instanceMethod y ∈ lw_g) (hy1 : y.name = "<init>")
    (hd : y.cls ≠ "java/lang/invoke/MethodHandle" ∧ y.cls ≠ "java/lang/invoke/VarHandle" ∧ (parseMethodDescriptor y.desc).map (fun d => d.parameters.length) = some as.length) (hR : d + 1 ≤ R.frames ∧ 8 + (mL + 11) + 60 * d ≤ R.locals) (hc : cells + mc ≤ R.cells ∧ slots + ms ≤ R.slots) (hrest : (rest.map fun v => v.category).sum ≤ 8) (hdg : decode cc pc = .ok (.invokespecial index, 3))
    (kk : ∀ (H1 : Heap) (locs1 : List Loc), SX dC dI cA ρ B s n' M' Z' H1 locs1 → W p l e R s m args below meth c H1 locs1 (cells + mc) (slots + ms) Q (F0 m (pc + 3) ls rest)) : W p l e R s m args below meth c H locs cells slots Q (F0 m pc ls ((as.map (cv ρ)).reverse ++ .ref (B + k) :: rest)) := by
  have hp := PNs_pre (as := vR t 0 k :: as) cx sx
  have hcx := cx
  obtain ⟨⟨hx, hb, hml, hown, hts⟩, -, -, -, hK, -, -, hO, hρ, -⟩ := cx
  have e0 : (vR t 0 k :: as).map (cv ρ) = .ref (ρ k) :: as.map (cv ρ) := by rw [List.map_cons, cv_vk hk]
  have hM2 := hM l dC dI cA ρ B hρ
  rw [e0] at hp hM2
  rw [← hρ k hk]
  rcases hlk with hlk | ⟨C, hC, rfl⟩
  · have hrun := va_runI (R := R) (e := e) (meth := meth) (locs := locs) (below := below) (cells := cells) (slots := slots) (b := ρ k) (As := as.map (cv ρ)) (rest := rest) (g := F0 m pc ls ((as.map (cv ρ)).reverse ++ .ref (ρ k) :: rest)) ⟨hx, hb, hml, hown, hts⟩ hM2 (cwI as.length hts (lw_goodIn hcode) rfl rfl rfl (hts _ hini) (hts _ hlk) (hts _ hin) hy1 hd hR) hp rfl (by simp) hls rfl (lv_room hrest) hdg hc
    exact ncall_go hrun sx.2.2 kk
  · have hl := hO.2.2 _ hC
    have hrun := va_runIN (R := R) (e := e) (meth := meth) (locs := locs) (below := below) (cells := cells) (slots := slots) (host := "IceParliament") (b := ρ k) (As := as.map (cv ρ)) (rest := rest) (g := F0 m pc ls ((as.map (cv ρ)).reverse ++ .ref (ρ k) :: rest)) ⟨hx, hb, hml, hown, hts⟩ hM2 ⟨va_cnB (own := own) (index := index) (host := "IceParliament") (rm := rmN d mc ms) (R := R) as.length hts (lw_goodIn hcode) rfl rfl rfl hl (hts _ hini) hd hR, hy1, hts _ hin⟩ hp rfl (by simp) hls rfl (lv_room hrest) hdg hc
    exact ncall_go hrun sx.2.2 kk
/-- a body makes a contract -/
theorem CNt_of {y : MethodName} {d mc ms : Nat} {as : List AV} (hy : plainFor y = true) (hcls : y.cls = own) (hnm : y.name = "<init>") (hc : catS as ≤ nL) (hBn : ∀ B : Nat, B ≤ B + n)
    (body : ∀ (p : Program) (l : Launch) (e : Env) (s : State) (m : MethodId) (args : Array Value) (below : List Frame) (meth : Method) (c : Code) (dC : Nat → ClassId) (dI : Nat → Nat → Nat) (cA : Nat → ClassId) (ρ : Nat → Nat) (B : Nat) (ls : Array Slot), CX own cc nL p s m args meth c dC dI cA ρ B → SX dC dI cA ρ B s n M Z s.heap [] → s.heap.size = B + n → lvOK ρ ls nL (argL nL as) → W p l e (rmN d mc ms) s m args below meth c s.heap [] 0 0 (MQ below (QNs dC dI cA ρ B n' M' Z') args s mc ms (AB B)) (F0 m 0 ls [])) : CNt y cc nL d mc ms as n M Z n' M' Z' := by
  intro l dC dI cA ρ B hρ
  refine va_MetF (cc := cc) (maxL := nL) (ret := none) hy rfl ?_
  intro p e s m args below meth c s₁ B0 hml hv
  obtain ⟨rfl, hsz, hP, hK, hF, hSW, hO⟩ := hv
  have hts := atoms_spec (ws := Cond.code y cc nL none :: lw_g) B0.pre
  have hown : s.vm.findClass own = some m.cls := by rw [← hcls]; exact findClass_of_methodNamed B0.named
  have hin : meth.name = "<init>" := by rw [(name_of_methodNamed B0.named B0.method).1]; exact hnm
  have hl := lv_entry (as.map (cv ρ)) (n := nL) (by rw [catS_sl]; exact hc)
  rw [lg_entry_eq]
  exact body p l e s m _ below meth c dC dI cA ρ B _ ⟨⟨B0.exec, B0.bytes, hml, hown, fun w hw => hts w (List.mem_cons_of_mem _ hw)⟩, B0.returns, B0.notSynchronized, hin, hK, hF, hSW, hO, hρ, by rw [hsz]; exact hBn B⟩ ⟨hP, hsz, va_S.rf⟩ hsz ⟨_, hl, fun i v hv => by have := argL_args (ρ := ρ) as _ i 0 v hv; simpa using this⟩
theorem n_ret {mc ms : Nat} (cx : CX own cc nL p s m args meth c dC dI cA ρ B) (sx : SX dC dI cA ρ B s n M Z H locs) (hc : cells ≤ mc) (hs : slots ≤ ms) (hdg : decode cc pc = .ok (.return_, 1)) : W p l e R s m args below meth c H locs cells slots (MQ below (QNs dC dI cA ρ B n M Z) args s mc ms (AB B)) (F0 m pc ls []) := by
  obtain ⟨⟨hx, hb, hml, hown, hts⟩, hr, hlk, -, hK, -, -, hO, hρ, -⟩ := cx
  obtain ⟨hP, hz, hS⟩ := sx
  refine W.widen hc hs ?_
  exact W.vret hx hb hr (fun t ht hW => ⟨rfl, by rw [ht]; exact hz, by rw [ht]; exact hP, hS.F ht⟩) (fun q hq => hS.2.2 q hq) hdg hlk
theorem n_ald {i : Nat} {k3 : Fin 4} {t k : Nat} (cx : CX own cc nL p s m args meth c dC dI cA ρ B) (hl : lvOK ρ ls nL lv) (hv : lvat lv i = some (vR t 0 k)) (hi : (k3 : Nat) = i) (hk : k < 10000) (hdg : decode cc pc = .ok (.aload_n k3, 1))
    (kk : W p l e R s m args below meth c H locs cells slots Q (F0 m (pc + 1) ls (.ref (B + k) :: rest))) : W p l e R s m args below meth c H locs cells slots Q (F0 m pc ls rest) := by
  obtain ⟨⟨hx, hb, hml, hown, hts⟩, -, -, -, -, -, -, -, hρ, -⟩ := cx
  obtain ⟨l0, h1, h2⟩ := hl
  refine lv_aload_n hx hb hdg hi ((h1.2.2 _ (h2 i _ hv)).trans (congrArg (fun v => some (Slot.val v)) (cv_vk hk))) ?_
  show W p l e R s m args below meth c H locs cells slots Q (F0 m (pc + 1) ls (.ref (ρ k) :: rest))
  rw [hρ k hk]; exact kk
theorem n_obj {k index : Nat} (cx : CX own cc nL p s m args meth c dC dI cA ρ B) (hl : lvOK ρ ls nL lv) (hlk : Cond.methodLink own index objectInit ∈ lw_g) (hin : Cond.instanceMethod objectInit ∈ lw_g) (hco : Cond.code objectInit ⟨#[0xb1]⟩ 1 none ∈ lw_g) (hR : 1 ≤ R.frames ∧ 20 ≤ R.locals) (hrest : (rest.map fun v => v.category).sum ≤ 8) (hdg : decode cc pc = .ok (.invokespecial index, 3))
    (kk : W p l e R s m args below meth c H locs cells slots Q (F0 m (pc + 3) ls rest)) : W p l e R s m args below meth c H locs cells slots Q (F0 m pc ls (.ref (B + k) :: rest)) := by
  obtain ⟨⟨hx, hb, hml, hown, hts⟩, -, -, -, -, -, -, -, hρ, -⟩ := cx
  obtain ⟨l0, h1, h2⟩ := hl
  have hr := lv_room (m := m) (pc := pc) (ls := ls) (rest := .ref (B + k) :: rest) hrest
  exact W.objInit hx hb hown (hts _ hlk) (hts _ hin) (hts _ hco) (g := F0 m pc ls (.ref (B + k) :: rest)) rfl (by rw [hml]; exact h1.1) rfl hdg hR.1 (by omega) kk
/-- a method of the evaluator is called, over a part of the world that is made -/
theorem n_ev {x d t k index : Nat} {as : List AV} {w : List Ref3} {md : MD} (hx0 : mdT x = some md) (hev : evD d x (vR t 0 k :: as) M = some (none, M')) (hrt : md.2.2.2.1 = none) (hkq : (t, 0, k) ∈ w) (ht : t < 13) (hcl : clR t = md.1.cls) (hw : ∀ q ∈ w, q ∈ WL n) (hnd : ∀ (i j : Nat) (a b : Ref3), w[i]? = some a → w[j]? = some b → a.2.2 = b.2.2 → i = j) (hclo : Clo w) (hwt : WT w) (hv : VOKs w (vR t 0 k :: as)) (hmok : MOK w M) (hset : ∀ q ∈ w, ceZ ρ cA M Z q = ce ρ cA M q) (hset' : ∀ q ∈ w, ceZ ρ cA M' Z q = ce ρ cA M' q) (hfr : ∀ q ∈ WL n, q ∉ w → ceZ ρ cA M' Z q = ceZ ρ cA M Z q)
    (cx : CX own cc nL p s m args meth c dC dI cA ρ B) (sx : SX dC dI cA ρ B s n M Z H locs) (hcnt : s.heap.size + cells = B + n) (hk : k < 279) (hls : ls.size = nL) (hlk : Cond.methodLink own index md.1 ∈ lw_g) (hin : Cond.instanceMethod md.1 ∈ lw_g) (hsel : Cond.selects md.1.cls md.1 md.1 ∈ lw_g)
    (hdd : (parseMethodDescriptor md.1.desc).map (fun d => d.parameters.length) = some as.length) (hR : d + 1 ≤ R.frames ∧ 60 * (d + 1) ≤ R.locals) (hc : cells ≤ R.cells ∧ slots ≤ R.slots) (hrest : (rest.map fun v => v.category).sum ≤ 8) (hdg : decode cc pc = .ok (.invokevirtual index, 3))
    (kk : ∀ (H1 : Heap) (locs1 : List Loc), SX dC dI cA ρ B s n M' Z H1 locs1 → W p l e R s m args below meth c H1 locs1 cells slots Q (F0 m (pc + 3) ls rest)) : W p l e R s m args below meth c H locs cells slots Q (F0 m pc ls ((as.map (cv ρ)).reverse ++ .ref (B + k) :: rest)) := by
  obtain ⟨md', hx1, -, hM, -⟩ := evD_sound hclo hwt md_all cd_all d x _ M _ hev hv hmok
  have hmm : md' = md := Option.some.inj (hx1.symm.trans hx0)
  subst hmm
  have hmk := md_all x md' hx0
  obtain ⟨⟨hx, hb, hml, hown, hts⟩, -, -, -, hK, hF, hSW, hO, hρ, -⟩ := cx
  obtain ⟨hP, hz, hS⟩ := sx
  rw [hrt] at hM
  -- the part's own cells
  have hix : ∀ q ∈ w, q.2.2 < n ∧ WF[q.2.2]? = some q ∧ q.2.2 < 279 := fun q hq => by
    obtain ⟨i, hi⟩ := List.getElem?_of_mem (hw q hq)
    obtain ⟨h1, h2, h3⟩ := WL_lt hi
    rw [h3]; exact ⟨h1, h2, (WF_at h2).2⟩
  have hin1 : ∀ q ∈ w, ρ q.2.2 = B + q.2.2 := fun q hq => hρ _ (by have := (hix q hq).2.2; omega)
  let A1 : Nat → Prop := fun a => (∃ q ∈ w, a = ρ q.2.2) ∨ H.size ≤ a
  have hsub : ∀ a, A1 a → AB B a := fun a ha => by
    rcases ha with ⟨q, hq, rfl⟩ | ha
    · show B ≤ _; rw [hin1 q hq]; omega
    · show B ≤ a; omega
  have hPw : va_P (dC, dI) vwCl (wsOf ρ cA M w) H := fun i y hy => by
    unfold wsOf at hy
    rw [List.getElem?_map] at hy
    cases hq : w[i]? with
    | none => rw [hq] at hy; cases hy
    | some q =>
      rw [hq] at hy
      have hy := Option.some.inj hy
      have hqm := List.mem_of_getElem? hq
      obtain ⟨j, hj⟩ := List.getElem?_of_mem (hw q hqm)
      have := hP j _ (wsZ_at hj)
      rw [hset q hqm] at this
      rw [← hy]; exact this
  have hDw : ∀ N, va_D A1 (wsOf ρ cA N w) := fun N => by
    refine ⟨fun i j y z hi hj he => ?_, fun i y hy => ?_⟩
    · unfold wsOf at hi hj
      rw [List.getElem?_map] at hi hj
      cases hqi : w[i]? with
      | none => rw [hqi] at hi; cases hi
      | some a =>
        cases hqj : w[j]? with
        | none => rw [hqj] at hj; cases hj
        | some b =>
          rw [hqi] at hi; rw [hqj] at hj
          have hi := Option.some.inj hi
          have hj := Option.some.inj hj
          rw [← hi, ← hj] at he
          have he : ρ a.2.2 = ρ b.2.2 := he
          rw [hin1 a (List.mem_of_getElem? hqi), hin1 b (List.mem_of_getElem? hqj)] at he
          exact hnd i j a b hqi hqj (by omega)
    · unfold wsOf at hy
      rw [List.getElem?_map] at hy
      cases hq : w[i]? with
      | none => rw [hq] at hy; cases hy
      | some q =>
        rw [hq] at hy
        have hy := Option.some.inj hy
        rw [← hy]; exact .inl ⟨q, List.mem_of_getElem? hq, rfl⟩
  have hF1 : ∀ {U : State} {H2 : Heap}, SFc ρ (AB B) U H2 → SFc ρ A1 U H2 := fun h => ⟨h.1.narrow hsub, h.2.1.narrow hsub, h.2.2.narrow hsub⟩
  have hps : PreS s H (va_Pc ((vR t 0 k :: as).map (cv ρ)) (fun U => U.heap.size = H.size ∧ (∀ q, H.size ≤ q → A1 q) ∧ va_P (dC, dI) vwCl (wsOf ρ cA M w) U.heap ∧ va_D A1 (wsOf ρ cA M w) ∧ va_K (dC, dI) vwCl (tysOf cA) U ∧ SFc ρ A1 U U.heap ∧ SWc ρ U)) ((vR t 0 k :: as).map (cv ρ)) := by
    refine ⟨fun a U g mk q => ?_, fun U hU hW => ⟨rfl, by rw [hU], fun q h => .inr h, by rw [hU]; exact hPw, hDw M, hK.moved hW.alike, ?_, ⟨fun x hx => (hSW.1 x hx).warm hW, fun x hx => (hSW.2 x hx).warmM hW⟩⟩⟩
    · obtain ⟨q0, q1, q2, q3, q4, q5, q6, q7⟩ := q
      exact ⟨q0, q1, q2, q3, q4, va_K.moved (u := U) (U := U.calling g mk a) (Vm.Alike.refl U.vm) q5, SFc.moved (u := U) (U := U.calling g mk a) (Vm.Alike.refl U.vm) q6, ⟨fun x hx => vk_R.same (u := U) (U := U.calling g mk a) rfl (q7.1 x hx), fun x hx => va_Nw.same (u := U) (U := U.calling g mk a) rfl rfl (q7.2 x hx)⟩⟩
    · rw [hU]
      exact hF1 ((hF.kept hS.2.1).moved hW.alike)
  have hrv : ∃ cellB : Cell, H[ρ k]? = some cellB ∧ cellB.vm.isStatics = false ∧ s.vm.findClass md'.1.cls = some cellB.cls := by
    obtain ⟨j, hj⟩ := List.getElem?_of_mem hkq
    have he := wsOf_at (ρ := ρ) (cA := cA) (M := M) hj
    have hce : ce ρ cA M (t, 0, k) = .inr (t, fvs ρ M t k) := by unfold ce; rw [if_pos ht]
    rw [hce] at he
    have := va_recv hK hPw (cl_at t ht) he
    rw [← hcl]; exact this
  have cb := callB_of (mc := 0) (ms := 0) (rm := rmD d) (R := R) as.length hts (lw_goodIn hmk.2.1) rfl rfl rfl (hts _ hmk.1) (hts _ hlk) ⟨hmk.2.2.2.1.1, hmk.2.2.2.1.2, hdd⟩ ⟨hR.1, by have := hmk.2.2.2.2.2.1; show 8 + (md'.2.2.1 + 11) + 60 * d ≤ _; omega⟩
  rw [hrt] at cb
  rw [← hρ k (by omega)]
  have e0 : (vR t 0 k :: as).map (cv ρ) = .ref (ρ k) :: as.map (cv ρ) := by rw [List.map_cons, cv_vk (by omega)]
  have hM2 := hM l dC dI cA ρ A1 H.size
  rw [e0] at hps hM2
  have hrun := va_runV (R := R) (e := e) (meth := meth) (locs := locs) (below := below) (cells := cells) (slots := slots) (b := ρ k) (As := as.map (cv ρ)) (rest := rest) (g := F0 m pc ls ((as.map (cv ρ)).reverse ++ .ref (ρ k) :: rest)) ⟨hx, hb, hml, hown, hts⟩ hM2 ⟨cb, hts _ hin, hts _ hsel⟩ ⟨hps.1, hrv, hps.2⟩ rfl (by simp) hls rfl (lv_room hrest) hdg hc
  intro T hT X
  obtain ⟨v, st₀, t1, T', L, h0, X', hL, e1, e2, ⟨hv1, hp1, -, hz2, hk2⟩, st⟩ := hrun T hT X
  cases hv1
  rw [h0] at hz2 hk2
  have hsz1 : T'.heap.size = B + n := by
    have h1 := X'.heapSize
    have h2 : H.size ≤ T'.heap.size := by rw [e1]; exact hz2
    omega
  have hPn : va_P (dC, dI) vwCl (wsZ ρ cA M' Z (WL n)) T'.heap := fun i y hy => by
    obtain ⟨q, hq, rfl⟩ := wsZ_get hy
    by_cases hqw : q ∈ w
    · obtain ⟨j, hj⟩ := List.getElem?_of_mem hqw
      have := hp1 j _ (wsOf_at hj)
      rw [hset' q hqw, e1]; exact this
    · obtain ⟨l1, l2, l3⟩ := WL_lt hq
      have hqm : q ∈ WL n := List.mem_of_getElem? hq
      have h279 := (WF_at l2).2
      have ha : ¬ A1 (ρ q.2.2) := fun z => by
        rcases z with ⟨q', hq', he⟩ | z
        · have h9 := hix q' hq'
          rw [hin1 q' hq', l3, hρ i (by omega)] at he
          have : q' = q := by
            have hh : q'.2.2 = i := by omega
            have := h9.2.1
            rw [hh, l2] at this
            exact (Option.some.inj this).symm
          subst this; exact hqw hq'
        · rw [l3, hρ i (by omega)] at z; omega
      rw [hfr q hqm hqw]
      refine va_at.kept (hP i _ (wsZ_at hq)) ?_
      show T'.heap[ρ q.2.2]? = H[ρ q.2.2]?
      rw [e1]; exact hk2 _ (by rw [l3, hρ i (by omega)]; omega) ha
  obtain ⟨t2, a1, b1⟩ := kk T'.heap (locs ++ L) ⟨hPn, hsz1, Nat.le_trans hS.1 (by omega), fun q h1 h2 => by rw [e1, hk2 q (Nat.lt_of_lt_of_le h1 hS.1) (fun z => h2 (hsub q z))]; exact hS.2.1 q h1 h2, fun q hq => by
      rcases List.mem_append.mp hq with h | h
      · exact hS.2.2 q h
      · exact hsub _ (hL q h)⟩ T' rfl X'
  exact ⟨t2, st t2 a1, b1⟩
end NCALL
