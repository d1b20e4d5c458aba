/-! THE LAW'S START: the making, over a context without a constructor's own facts (gen99k.py) -/
section LAWS
variable {ρ : Nat → Nat} {cA : Nat → ClassId} {M M' : Mem} {Z Z' : Zs} {n n' B : Nat} {dC : Nat → ClassId} {dI : Nat → Nat → Nat}
variable {p : Program} {l : Launch} {e : Env} {R : Room} {s : State} {m : MethodId} {args : Array Value} {below : List Frame} {meth : Method} {c : Code} {H : Heap} {locs : List Loc} {cells slots : Nat} {Q : State → Prop}
variable {own : String} {cc : ByteArray} {nL pc : Nat} {ls : Array Slot} {rest : List Value} {lv : Lv}
def CWl (own : String) (cc : ByteArray) (nL : Nat) (p : Program) (s : State) (m : MethodId) (args : Array Value) (c : Code) (dC : Nat → ClassId) (dI : Nat → Nat → Nat) (cA : Nat → ClassId) (ρ : Nat → Nat) (B : Nat) : Prop :=
  (p.tables.exec = Jvm.exec ∧ c.code = cc ∧ c.maxLocals = nL ∧ s.vm.findClass own = some m.cls ∧ ∀ w ∈ lw_g, w.before args s = true) ∧ va_K (dC, dI) vwCl (tysOf cA) s ∧ SFc ρ (AB B) s s.heap ∧ SWc ρ s ∧ NOv s ∧ RB ρ B ∧ B ≤ s.heap.size
theorem w_new {t index : Nat} (cx : CWl own cc nL p s m args c dC dI cA ρ B) (sx : SX dC dI cA ρ B s n M Z H locs) (fz : Fz n M Z) (ht : t < 13) (hW : WF[n]? = some (t, 0, n)) (hcl : Cond.classLink own index (clR t) ∈ lw_g) (hins : Cond.instantiable (clR t) (clN t) ∈ lw_g) (hini : Cond.initialized (clR t) ∈ lw_g) (hc : cells + 1 ≤ R.cells) (hs : slots + clN t ≤ R.slots) (hdg : decode cc pc = .ok (.new index, 3))
    (kk : ∀ H1, SX dC dI cA ρ B s (n + 1) M Z H1 locs → W p l e R s m args below meth c H1 locs (cells + 1) (slots + clN t) Q (F0 m (pc + 3) ls (.ref (B + n) :: rest))) : W p l e R s m args below meth c H locs cells slots Q (F0 m pc ls rest) := by
  obtain ⟨⟨hx, hb, hml, hown, hts⟩, hK, -, -, -, hρ, -⟩ := cx
  have h279 := (WF_at hW).2
  have hKn := hK.1 t _ (cl_at t ht)
  refine W.newcK hx hb hown (hts _ hcl) (hts _ hins) (hts _ hini) rfl hdg hc hs hKn.2.1 sx.2.1 fun H1 kC hkC e1 z1 o1 => ?_
  refine kk H1 (sx.push hW z1 o1 ?_)
  show va_at (dC, dI) vwCl (ρ n, ceZ ρ cA M Z (t, 0, n)) H1
  rw [hρ n (by omega)]
  unfold ceZ
  rw [if_pos ht]
  refine ⟨_, cl_at t ht, (u_born (clY t) hts (cl_ing t ht) hKn hkC e1 (cl_ty t ht)).to (fun j hj => ?_)⟩
  have hv : vp_V (fvsZ ρ M Z t n) j = fvZ ρ M Z t n j := by
    unfold vp_V fvsZ
    rw [List.getD_eq_getElem?_getD, List.getElem?_map, List.getElem?_range hj]; rfl
  show _ = vp_V (fvsZ ρ M Z t n) j
  rw [hv, cl_def t ht j hj]
  obtain ⟨z1, z2, z3⟩ := fz n (Nat.le_refl n) j
  unfold fvZ fv
  rw [z1, z2, z3]
  unfold rfK
  rw [WF_t hW]
  have h24 : ¬ t = 24 := by omega
  by_cases c2 : fk t j = 2
  · simp [c2, ht]
  · by_cases c3 : fk t j = 3
    · simp [c3, ht]
    · simp [c2, c3, h24]
theorem w_newa {t N index : Nat} {aty : ArrayType} {ty : FieldType} {v : Int32} (hv : v = Int32.ofNat N) (hN : N ≤ 3000) (hty : newarray.typeOf aty = ty) (hcase : (t = 20 ∧ ty = .int) ∨ (t = 21 ∧ ty = .char) ∨ (t = 22 ∧ ty = .boolean) ∨ (t = 23 ∧ ty = .long)) (cx : CWl own cc nL p s m args c dC dI cA ρ B) (sx : SX dC dI cA ρ B s n M Z H locs) (fz : Fz n M Z) (hW : WF[n]? = some (t, N, n)) (harr : Cond.arrayClass ty ∈ lw_g) (hc : cells + 1 ≤ R.cells) (hs : slots + N ≤ R.slots) (hdg : decode cc pc = .ok (.newarray aty, 2))
    (kk : ∀ H1, SX dC dI cA ρ B s (n + 1) M Z H1 locs → W p l e R s m args below meth c H1 locs (cells + 1) (slots + N) Q (F0 m (pc + 2) ls (.ref (B + n) :: rest))) : W p l e R s m args below meth c H locs cells slots Q (F0 m pc ls (.int v :: rest)) := by
  obtain ⟨⟨hx, hb, hml, hown, hts⟩, hK, -, -, -, hρ, -⟩ := cx
  subst hv
  have h279 := (WF_at hW).2
  have hby : N * componentBytes (newarray.typeOf aty) ≤ 536870912 := by
    rw [hty]
    rcases hcase with ⟨-, rfl⟩ | ⟨-, rfl⟩ | ⟨-, rfl⟩ | ⟨-, rfl⟩ <;> (show N * _ ≤ _; simp only [componentBytes]; omega)
  refine va_newaK hx hb (by rw [hty]; exact hts _ harr) (g := F0 m pc ls (.int (Int32.ofNat N) :: rest)) rfl hdg rfl (i_neg (by omega)) (i_nat (by omega)) hby hc hs sx.2.1 fun H1 cA' e1 z1 o1 hAr hNm => ?_
  refine kk H1 (sx.push hW z1 o1 ?_)
  show va_at (dC, dI) vwCl (ρ n, ceZ ρ cA M Z (t, N, n)) H1
  rw [hty] at e1 hNm
  have f1 : ∀ j, M.1 n j = 0 := fun j => (fz n (Nat.le_refl n) j).1
  have f2 : ∀ j, M.2.1 n j = 0 := fun j => (fz n (Nat.le_refl n) j).2.1
  have key : ∀ i, (tysOf cA)[i]? = some (cA t, ty) → cA' = cA t := fun i hi => by
    have h2 := (hK.2 i _ hi).2
    have h2 : s.vm.findClass ("[" ++ ty.toString) = some (cA t) := by
      rcases hcase with ⟨-, rfl⟩ | ⟨-, rfl⟩ | ⟨-, rfl⟩ | ⟨-, rfl⟩ <;> exact h2
    exact Option.some.inj (hNm.symm.trans h2)
  rw [hρ n (by omega)]
  rcases hcase with ⟨rfl, rfl⟩ | ⟨rfl, rfl⟩ | ⟨rfl, rfl⟩ | ⟨rfl, rfl⟩
  · have hk := key 0 rfl
    subst hk
    show H1[B + n]? = some (arrV (cA 20) N (fun j => .int (M.1 n j)))
    rw [e1]; simp only [f1]; rfl
  · have hk := key 1 rfl
    subst hk
    show H1[B + n]? = some (arrV (cA 21) N (fun j => .int (M.1 n j)))
    rw [e1]; simp only [f1]; rfl
  · have hk := key 2 rfl
    subst hk
    show H1[B + n]? = some (arrV (cA 22) N (fun j => .int (M.1 n j)))
    rw [e1]; simp only [f1]; rfl
  · have hk := key 3 rfl
    subst hk
    show H1[B + n]? = some (arrV (cA 23) N (fun j => .long (M.2.1 n j)))
    rw [e1]; simp only [f2]; rfl
theorem PWs_pre {as : List AV} (cx : CWl own cc nL p s m args c dC dI cA ρ B) (sx : SX dC dI cA ρ B s n M Z H locs) : PreS s H (va_Pc (as.map (cv ρ)) (PNs dC dI cA ρ B n M Z)) (as.map (cv ρ)) := by
  obtain ⟨-, hK, hF, hSW, hO, hρ, -⟩ := cx
  obtain ⟨hP, hz, hS⟩ := sx
  refine ⟨fun a U g mk q => ?_, fun U hU hW => ⟨rfl, by rw [hU]; exact hz, by rw [hU]; exact hP, hK.moved hW.alike, ?_, ⟨fun x hx => (hSW.1 x hx).warm hW, fun x hx => (hSW.2 x hx).warmM hW⟩, hO.warm hW⟩⟩
  · obtain ⟨q0, q1, q2, q3, q4, q5, q6, q7, q8⟩ := q
    exact ⟨q0, q1, q2, va_K.moved (u := U) (U := U.calling g mk a) (Vm.Alike.refl U.vm) q3, SFc.moved (u := U) (U := U.calling g mk a) (Vm.Alike.refl U.vm) q4, ⟨fun x hx => vk_R.same (u := U) (U := U.calling g mk a) rfl (q5.1 x hx), fun x hx => va_Nw.same (u := U) (U := U.calling g mk a) rfl rfl (q5.2 x hx)⟩, q6, q7, fun x hx => va_Nw.same (u := U) (U := U.calling g mk a) rfl rfl (q8 x hx)⟩
  · rw [hU]
    exact (hF.kept hS.2.1).moved hW.alike
theorem w_init {y : MethodName} {bytes : ByteArray} {mL d mc ms index t k : Nat} {as : List AV} (hM : CNt y bytes mL d mc ms (vR t 0 k :: as) n M Z n' M' Z') (cx : CWl own cc nL p s m args c dC dI cA ρ B) (sx : SX dC dI cA ρ B s n M Z H locs) (hk : k < 10000) (hls : ls.size = nL) (hcode : Cond.code y bytes mL none ∈ lw_g) (hini : Cond.initialized y.cls ∈ lw_g) (hlk : Cond.methodLink own index y ∈ lw_g ∨ ∃ C, (own, index, C) ∈ [("IceParliament", 11, "IceParliament$Tape"), ("IceParliament$Yard", 11, "IceParliament$Roll"), ("IceParliament$Yard", 57, "IceParliament$Law"), ("IceParliament", 37, "IceParliament$Session")] ∧ y = ⟨C, "<init>", "()V"⟩) (hin : Cond.instanceMethod y ∈ lw_g) (hy1 : y.name = "<init>")
    (hd : y.cls ≠ "java/lang/invoke/MethodHandle" ∧ y.cls ≠ "java/lang/invoke/VarHandle" ∧ (parseMethodDescriptor y.desc).map (fun d => d.parameters.length) = some as.length) (hR : d + 1 ≤ R.frames ∧ 8 + (mL + 11) + 60 * d ≤ R.locals) (hc : cells + mc ≤ R.cells ∧ slots + ms ≤ R.slots) (hrest : (rest.map fun v => v.category).sum ≤ 8) (hdg : decode cc pc = .ok (.invokespecial index, 3))
    (kk : ∀ (H1 : Heap) (locs1 : List Loc), SX dC dI cA ρ B s n' M' Z' H1 locs1 → W p l e R s m args below meth c H1 locs1 (cells + mc) (slots + ms) Q (F0 m (pc + 3) ls rest)) : W p l e R s m args below meth c H locs cells slots Q (F0 m pc ls ((as.map (cv ρ)).reverse ++ .ref (B + k) :: rest)) := by
  have hp := PWs_pre (as := vR t 0 k :: as) cx sx
  have hcx := cx
  obtain ⟨⟨hx, hb, hml, hown, hts⟩, hK, -, -, hO, hρ, -⟩ := cx
  have e0 : (vR t 0 k :: as).map (cv ρ) = .ref (ρ k) :: as.map (cv ρ) := by rw [List.map_cons, cv_vk hk]
  have hM2 := hM l dC dI cA ρ B hρ
  rw [e0] at hp hM2
  rw [← hρ k hk]
  rcases hlk with hlk | ⟨C, hC, rfl⟩
  · have hrun := va_runI (R := R) (e := e) (meth := meth) (locs := locs) (below := below) (cells := cells) (slots := slots) (b := ρ k) (As := as.map (cv ρ)) (rest := rest) (g := F0 m pc ls ((as.map (cv ρ)).reverse ++ .ref (ρ k) :: rest)) ⟨hx, hb, hml, hown, hts⟩ hM2 (cwI as.length hts (lw_goodIn hcode) rfl rfl rfl (hts _ hini) (hts _ hlk) (hts _ hin) hy1 hd hR) hp rfl (by simp) hls rfl (lv_room hrest) hdg hc
    exact ncall_go hrun sx.2.2 kk
  · have hl := hO.2.2 _ hC
    have hrun := va_runIN (R := R) (e := e) (meth := meth) (locs := locs) (below := below) (cells := cells) (slots := slots) (host := "IceParliament") (b := ρ k) (As := as.map (cv ρ)) (rest := rest) (g := F0 m pc ls ((as.map (cv ρ)).reverse ++ .ref (ρ k) :: rest)) ⟨hx, hb, hml, hown, hts⟩ hM2 ⟨va_cnB (own := own) (index := index) (host := "IceParliament") (rm := rmN d mc ms) (R := R) as.length hts (lw_goodIn hcode) rfl rfl rfl hl (hts _ hini) hd hR, hy1, hts _ hin⟩ hp rfl (by simp) hls rfl (lv_room hrest) hdg hc
    exact ncall_go hrun sx.2.2 kk
theorem w_fin {M : Mem} {Z : Zs} {js : List Nat} {Z1 : Zs} (hq : QX js 16 4 253 Z1) (hjs : ∀ b, b < 14 → b ∈ js) (hp : PZ 253 278 Z1 Z) (hP : va_P (dC, dI) vwCl (wsZ ρ cA M Z (WL 279)) H) : va_P (dC, dI) vwCl (wsOf ρ cA M WF) H := by
  intro k y hy
  unfold wsOf at hy
  rw [List.getElem?_map] at hy
  cases ha : WF[k]? with
  | none => rw [ha] at hy; cases hy
  | some q =>
    rw [ha] at hy
    have hy := Option.some.inj hy
    obtain ⟨a1, a2⟩ := WF_at ha
    have h1 := hP k _ (wsZ_at (ρ := ρ) (cA := cA) (M := M) (Z := Z) ((WL_at a2).trans ha))
    rw [← hy]
    by_cases h24 : q.1 = 24
    · have hk : q = (24, 16, 67) ∨ q = (24, 4, 68) := by
        have : ∀ k : Fin 279, (WF.getD k.1 (0, 0, 0)).1 = 24 → WF.getD k.1 (0, 0, 0) = (24, 16, 67) ∨ WF.getD k.1 (0, 0, 0) = (24, 4, 68) := by decide +kernel
        have := this ⟨k, a2⟩
        rw [List.getD_eq_getElem?_getD, ha] at this
        exact this h24
      have key : ∀ N k', (∀ b, b < N → Z k' b = false) → va_at (dC, dI) vwCl (ρ k', ceZ ρ cA M Z (24, N, k')) H → va_at (dC, dI) vwCl (ρ k', ce ρ cA M (24, N, k')) H := fun N k' hz hh => by
        have hh : H[ρ k']? = some (arrV (cA 24) N (fun j => va_rf (if Z k' j = true then none else some (ρ (M.2.2 k' j))))) := hh
        show H[ρ k']? = some (arrV (cA 24) N (fun j => va_rf (some (ρ (M.2.2 k' j)))))
        rw [hh]
        exact congrArg some (arrV_cg (fun j hj => by show va_rf (if Z k' j = true then none else _) = _; rw [hz j hj]; rfl))
      rcases hk with rfl | rfl
      · exact key 16 67 (fun b hb => by rw [hp.1 67 b (.inl (by omega))]; exact hq.2.2.2.2.1 b hb) h1
      · exact key 4 68 (fun b hb => by rw [hp.1 68 b (.inl (by omega))]; exact hq.2.2.2.2.2 b hb) h1
    · by_cases h0 : k = 0
      · subst h0
        have hq0 : q = (11, 0, 0) := (Option.some.inj (ha.symm.trans (show WF[0]? = some (11, 0, 0) from rfl)))
        subst hq0
        have : ceZ ρ cA M Z (11, 0, 0) = ce ρ cA M (11, 0, 0) := by
          unfold ceZ ce
          rw [if_pos (by decide), if_pos (by decide)]
          have : fvsZ ρ M Z 11 0 = fvs ρ M 11 0 := by
            unfold fvsZ fvs
            refine List.map_congr_left (fun b hb => ?_)
            have hb : b < 14 := List.mem_range.mp hb
            unfold fvZ
            rw [hp.1 0 b (.inl (by omega)), hq.2.2.2.1 b (hjs b hb)]; rfl
          rw [this]
        rw [this] at h1; exact h1
      · have hz : ∀ b, Z q.2.2 b = false := fun b => by
          rw [a1]
          by_cases hk : k < 253
          · rw [hp.1 k b (.inl hk)]
            have n67 : k ≠ 67 := fun h => h24 (by subst h; rw [show q = (24, 16, 67) from Option.some.inj (ha.symm.trans (show WF[67]? = some (24, 16, 67) from rfl))])
            have n68 : k ≠ 68 := fun h => h24 (by subst h; rw [show q = (24, 4, 68) from Option.some.inj (ha.symm.trans (show WF[68]? = some (24, 4, 68) from rfl))])
            exact hq.2.2.1 k (by omega) hk n67 n68 b
          · by_cases hk2 : k < 278
            · exact hp.2 k (by omega) hk2 b
            · have : k = 278 := by omega
              subst this
              rw [hp.1 278 b (.inr (by omega)), hq.2.1 278 b (by omega)]
              exact rfK_arr (show WF[278]? = some (23, 1, 278) from rfl) (by decide) b
        rw [ceZ_ce h24 hz] at h1; exact h1
theorem mok_WF (hX : XF M) (fM : Fr (fun c _ => 253 ≤ c ∧ c ≤ 277) M M') : MOK WF M' := by
  refine ⟨fun q hq h13 j hj h3 => ?_, fun q hq h24 j hj => ?_⟩
  · have h2 := fk_is3 _ _ h3
    obtain ⟨k, hk⟩ := List.getElem?_of_mem hq
    have hq2 : q = (2, 0, 50) := by
      have a2 := (WF_at hk).2
      have : ∀ k : Fin 279, (WF.getD k.1 (0, 0, 0)).1 = 2 → WF.getD k.1 (0, 0, 0) = (2, 0, 50) := by decide +kernel
      have := this ⟨k, a2⟩
      rw [List.getD_eq_getElem?_getD, hk] at this
      exact this h2
    subst hq2
    have h4 : j = 4 := by
      have hj : j < clN 2 := hj
      have : ∀ j : Fin 41, fk 2 j.1 = 3 → j.1 = 4 := by decide +kernel
      exact this ⟨j, Nat.lt_of_lt_of_le hj (by decide)⟩ h3
    subst h4
    show ((fm 2 4).1, (fm 2 4).2, M'.2.2 50 4) ∈ WF
    rw [fM.r (by omega), hX.2.2.2.1]; decide +kernel
  · obtain ⟨k, hk⟩ := List.getElem?_of_mem hq
    have a2 := (WF_at hk).2
    have hq2 : q = (24, 16, 67) ∨ q = (24, 4, 68) := by
      have : ∀ k : Fin 279, (WF.getD k.1 (0, 0, 0)).1 = 24 → WF.getD k.1 (0, 0, 0) = (24, 16, 67) ∨ WF.getD k.1 (0, 0, 0) = (24, 4, 68) := by decide +kernel
      have := this ⟨k, a2⟩
      rw [List.getD_eq_getElem?_getD, hk] at this
      exact this h24
    rcases hq2 with rfl | rfl
    · have hj : j < 16 := hj
      show ((6, 0, M'.2.2 67 j) : Ref3) ∈ WF
      rw [fM.r (by omega), hX.2.2.2.2.1 j hj]
      exact (show ∀ j : Fin 16, ((6, 0, 113 + 7 * j.1) : Ref3) ∈ WF from by decide +kernel) ⟨j, hj⟩
    · have hj : j < 4 := hj
      show ((6, 0, M'.2.2 68 j) : Ref3) ∈ WF
      rw [fM.r (by omega), hX.2.2.2.2.2.1 j hj]
      exact (show ∀ j : Fin 4, ((6, 0, 225 + 7 * j.1) : Ref3) ∈ WF from by decide +kernel) ⟨j, hj⟩
end LAWS
