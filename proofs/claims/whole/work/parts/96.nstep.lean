/-! THE WORLD IN ITS MAKING: more steps, calls -/
section NSTEP
variable {ρ : Nat → Nat} {cA : Nat → ClassId} {M M' : Mem} {Z Z' : Zs} {n n' B : Nat} {dC : Nat → ClassId} {dI : Nat → Nat → Nat}
variable {p : Program} {l : Launch} {e : Env} {R : Room} {s : State} {m : MethodId} {args : Array Value} {below : List Frame} {meth : Method} {c : Code} {H : Heap} {locs : List Loc} {cells slots : Nat} {Q : State → Prop}
variable {own : String} {cc : ByteArray} {nL pc : Nat} {ls : Array Slot} {rest : List Value}
theorem ceZ_obj {t k : Nat} (ht : t < 13) : ceZ ρ cA M Z (t, 0, k) = .inr (t, fvsZ ρ M Z t k) := by unfold ceZ; rw [if_pos ht]
theorem SX.at {t k : Nat} (hk : k < n) (ht : t < 13) (hW : WF[k]? = some (t, 0, k)) : (wsZ ρ cA M Z (WL n))[k]? = some (ρ k, .inr (t, fvsZ ρ M Z t k)) := by
  have he := wsZ_at (ρ := ρ) (cA := cA) (M := M) (Z := Z) ((WL_at hk).trans hW)
  rw [ceZ_obj ht] at he; exact he
/-- a field that is read -/
theorem n_get {t k j index : Nat} (cx : CX own cc nL p s m args meth c dC dI cA ρ B) (sx : SX dC dI cA ρ B s n M Z H locs) (hk : k < n) (ht : t < 13) (hW : WF[k]? = some (t, 0, k)) (hj : j < clN t) (hf2 : fk t j = 2) (hz : Z k j = false) (hlink : Cond.fieldLink own index (clR t) ((clT t) j).2.1 ((clT t) j).2.2.1 ∈ lw_g) (hdecl : ((clT t) j).1 = clR t) (hdg : decode cc pc = .ok (.getfield index, 3))
    (kk : W p l e R s m args below meth c H locs cells slots Q (F0 m (pc + 3) ls (.ref (ρ (fp t j k).2.2) :: rest))) : W p l e R s m args below meth c H locs cells slots Q (F0 m pc ls (.ref (B + k) :: rest)) := by
  obtain ⟨⟨hx, hb, hml, hown, hts⟩, -, -, -, hK, -, -, -, hρ, -⟩ := cx
  have h279 := (WF_at hW).2
  rw [← hρ k (by omega)]
  refine va_get (D := (dC, dI)) (ci := t) (C := clR t) (T := clT t) (N := clN t) (ref := clR t) hx hb hts (cl_ing t ht) hown hK sx.1 k (SX.at hk ht hW) (cl_at t ht) j hj (hts _ hlink) (fun x h9 => by rw [hdecl] at h9; exact h9) (v := .ref (ρ (fp t j k).2.2)) ?_ hdg kk
  unfold fvsZ
  rw [List.getElem?_map, List.getElem?_range hj]
  show some (fvZ ρ M Z t k j) = _
  unfold fvZ fv
  rw [hz, hf2]; rfl
/-- the reference that changes -/
theorem n_putR {t k j index kl : Nat} {v : Value} (cx : CX own cc nL p s m args meth c dC dI cA ρ B) (sx : SX dC dI cA ρ B s n M Z H locs) (hk : k < n) (ht : t < 13) (hW : WF[k]? = some (t, 0, k)) (hj : j < clN t) (hcls : clR t = own) (hv : v = .ref (ρ kl)) (hf3 : fk t j = 3) (hlink : Cond.fieldLink own index own ((clT t) j).2.1 ((clT t) j).2.2.1 ∈ lw_g) (hdecl : ((clT t) j).1 = own) (hfin : ((clT t) j).2.2.2 = false) (hfit : ∀ a, fits (clY t j) (.ref a) = true) (hnar : ∀ a, narrow (clY t j) (.ref a) = .ref a) (hdg : decode cc pc = .ok (.putfield index, 3))
    (kk : ∀ H1 locs1, SX dC dI cA ρ B s n (sR M k j kl) (uZ Z k j) H1 locs1 → W p l e R s m args below meth c H1 locs1 cells slots Q (F0 m (pc + 3) ls rest)) : W p l e R s m args below meth c H locs cells slots Q (F0 m pc ls (v :: .ref (B + k) :: rest)) := by
  obtain ⟨⟨hx, hb, hml, hown, hts⟩, -, -, hin, hK, -, -, hO, hρ, -⟩ := cx
  obtain ⟨hP, hz, hS⟩ := sx
  subst hv
  have h279 := (WF_at hW).2
  have hq : (WL n)[k]? = some (t, 0, k) := (WL_at hk).trans hW
  have he : (wsZ ρ cA M Z (WL n))[k]? = some (ρ k, .inr (t, fvsZ ρ M Z t k)) := SX.at hk ht hW
  have eset : (wsZ ρ cA M Z (WL n)).set k (ρ k, .inr (t, (fvsZ ρ M Z t k).set j (.ref (ρ kl)))) = wsZ ρ cA (sR M k j kl) (uZ Z k j) (WL n) := by
    refine wsZ_set (q := (t, 0, k)) hq ?_ (fun q' hq' => ceZ_cg rfl rfl (funext fun i => sR_ne (.inl hq')) (fun i => by unfold uZ; rw [if_neg (fun z => hq' z.1)]))
    rw [ceZ_obj ht, fvsZ_set (M' := sR M k j kl) (Z' := uZ Z k j)]
    · unfold fvZ uZ fv; rw [if_neg (by simp), hf3, sR_eq]; rfl
    · intro i hi
      unfold fvZ uZ fv
      rw [if_neg (c := k = k ∧ i = j) (fun z => hi z.2), sR_ne (.inr hi)]; rfl
  rw [← hρ k (by omega)]
  have hap := va_apart (own := own) hts (cl_ing t ht) (clY t) (cl_ty t ht) (cl_nm t ht) hK (cl_at t ht)
  obtain ⟨r, h1, cell, q1, q2, q3, q4⟩ := hP k _ he
  have hr : r = (clR t, clT t, clN t) := Option.some.inj (h1.symm.trans (cl_at t ht))
  subst hr
  obtain ⟨hSl, hfc, kC, hkC, hkind⟩ := hK.1 t _ (cl_at t ht)
  obtain ⟨cf, kf, fi, f, hi, hsl⟩ := hSl j hj
  have hlay := hts _ (cl_ing t ht _ (u_in_lay hj))
  unfold u_lay at hlay
  rw [if_neg (by rw [hfin]; decide)] at hlay
  have hst := (u_facts hfc hkC (u_lays hts (cl_ing t ht) hj) hi).1
  have h6 := u_store hfc hkC hkind hlay hi (cl_ty t ht j hj) (hnar (ρ kl)) (hfit _)
  have hi' : s.fieldFound? own ((clT t) j).2.1 ((clT t) j).2.2.1 = some (cf, kf, fi, f) := by rw [← hdecl]; exact hi
  refine W.putK hx hb (f := f) ⟨hown, hts _ hlink, ⟨_, _, _, hi'⟩, hst⟩ (by rw [q2]; exact h6) q1 q3 (by rw [hsl]; exact k2_hasslot (q4 j hj)) (g := F0 m pc ls (.ref (ρ kl) :: .ref (ρ k) :: rest)) rfl rfl hdg fun H' e1 e2 e3 => ?_
  rw [hsl] at e1 ⊢
  have hl : j < (fvsZ ρ M Z t k).length := by simp [fvsZ]; exact hj
  have hP1 : va_P (dC, dI) vwCl ((wsZ ρ cA M Z (WL n)).set k (ρ k, .inr (t, (fvsZ ρ M Z t k).set j (.ref (ρ kl))))) H' := hP.set (D_wsZ hρ) he ⟨_, cl_at t ht, t_OB.to (V := updV (vp_V (fvsZ ρ M Z t k)) j (.ref (ρ kl))) ⟨_, e1, q2, q3, t_set q4 hap hj _⟩ (fun i _ => vp_updV_set hl _ i)⟩ e3
  rw [eset] at hP1
  exact kk H' _ ⟨hP1, by rw [e2]; exact hz, hS.put e2 e3 ((D_wsZ hρ).2 k _ he)⟩
/-- a long into an array -/
theorem n_last {k N i : Nat} {iv : Int32} {x : Int64} (hiv : iv = Int32.ofNat i) (hi : i < N) (hN : N ≤ 3000) (cx : CX own cc nL p s m args meth c dC dI cA ρ B) (sx : SX dC dI cA ρ B s n M Z H locs) (hk : k < n) (hW : WF[k]? = some (23, N, k)) (hdg : decode cc pc = .ok (.lastore, 1))
    (kk : ∀ H1 locs1, SX dC dI cA ρ B s n (sJ M k i x) Z H1 locs1 → W p l e R s m args below meth c H1 locs1 cells slots Q (F0 m (pc + 1) ls rest)) : W p l e R s m args below meth c H locs cells slots Q (F0 m pc ls (.long x :: .int iv :: .ref (B + k) :: rest)) := by
  obtain ⟨⟨hx, hb, hml, hown, hts⟩, -, -, hin, hK, -, -, hO, hρ, -⟩ := cx
  obtain ⟨hP, hz, hS⟩ := sx
  subst hiv
  have h279 := (WF_at hW).2
  have eI : (Int32.ofNat i).toNatClampNeg = i := i_nat (by omega)
  have hq : (WL n)[k]? = some (23, N, k) := (WL_at hk).trans hW
  have he : (wsZ ρ cA M Z (WL n))[k]? = some (ρ k, .inl (cA 23, N, .inr (.inl (M.2.1 k)))) := wsZ_at (ρ := ρ) (cA := cA) (M := M) (Z := Z) hq
  have eset : (wsZ ρ cA M Z (WL n)).set k (ρ k, .inl (cA 23, N, .inr (.inl (vp_updL (M.2.1 k) i x)))) = wsZ ρ cA (sJ M k i x) Z (WL n) := by
    refine wsZ_set (q := (23, N, k)) hq ?_ (fun q' hq' => ceZ_cg rfl (funext fun j => sJ_ne (.inl hq')) rfl (fun _ => rfl))
    show (Sum.inl (cA 23, N, .inr (.inl ((sJ M k i x).2.1 k))) : va_E) = _
    rw [updL_row]
  rw [← hρ k (by omega)]
  refine W.last hx hb (hP k _ he) ((hK.2 3 (cA 23, .long) rfl).1 N (fun j => .long (M.2.1 k j))) (fun q => by cases q) (by show ¬ (Int32.ofNat i < 0 ∨ (arrV _ _ _).slots.size ≤ _); rw [arrV_size, eI]; rintro (z | z); exact i_neg (by omega) z; have z : N ≤ i := z; omega) (g := F0 m pc ls (.long x :: .int (Int32.ofNat i) :: .ref (ρ k) :: rest)) rfl rfl hdg fun H1 e1 z1 o1 => ?_
  have hP1 : va_P (dC, dI) vwCl ((wsZ ρ cA M Z (WL n)).set k (ρ k, .inl (cA 23, N, .inr (.inl (vp_updL (M.2.1 k) i x))))) H1 := hP.set (D_wsZ hρ) he (by
    show H1[ρ k]? = some (vp_cell _ _)
    rw [e1, vp_cell_l, vp_cell_l, arrV_store, eI]
    congr 2
    funext j
    by_cases hj : j = i
    · subst hj; simp [updV, vp_updL]
    · simp [updV, vp_updL, hj]) o1
  rw [eset] at hP1
  exact kk H1 _ ⟨hP1, by rw [z1]; exact hz, hS.put z1 o1 ((D_wsZ hρ).2 k _ he)⟩
/-- a State into State[] -/
theorem n_astq {k N i kv : Nat} {iv : Int32} (hiv : iv = Int32.ofNat i) (hi : i < N) (hN : N ≤ 3000) (cx : CX own cc nL p s m args meth c dC dI cA ρ B) (sx : SX dC dI cA ρ B s n M Z H locs) (hk : k < n) (hW : WF[k]? = some (24, N, k)) (hkv : kv < n) (hWv : WF[kv]? = some (6, 0, kv)) (hdg : decode cc pc = .ok (.aastore, 1))
    (kk : ∀ H1 locs1, SX dC dI cA ρ B s n (sR M k i kv) (uZ Z k i) H1 locs1 → W p l e R s m args below meth c H1 locs1 cells slots Q (F0 m (pc + 1) ls rest)) : W p l e R s m args below meth c H locs cells slots Q (F0 m pc ls (.ref (B + kv) :: .int iv :: .ref (B + k) :: rest)) := by
  obtain ⟨⟨hx, hb, hml, hown, hts⟩, -, -, hin, hK, -, -, hO, hρ, -⟩ := cx
  obtain ⟨hP, hz, hS⟩ := sx
  subst hiv
  have h279 := (WF_at hW).2
  have h279v := (WF_at hWv).2
  have eI : (Int32.ofNat i).toNatClampNeg = i := i_nat (by omega)
  have hq : (WL n)[k]? = some (24, N, k) := (WL_at hk).trans hW
  have he : (wsZ ρ cA M Z (WL n))[k]? = some (ρ k, .inl (cA 24, N, .inr (.inr (.inr (.inr (fun j => if Z k j = true then none else some (ρ (M.2.2 k j)))))))) := wsZ_at (ρ := ρ) (cA := cA) (M := M) (Z := Z) hq
  have hv := SX.at (ρ := ρ) (cA := cA) (M := M) (Z := Z) hkv (show 6 < 13 by omega) hWv
  have eset : (wsZ ρ cA M Z (WL n)).set k (ρ k, .inl (cA 24, N, .inr (.inr (.inr (.inr (va_up (fun j => if Z k j = true then none else some (ρ (M.2.2 k j))) i (some (ρ kv)))))))) = wsZ ρ cA (sR M k i kv) (uZ Z k i) (WL n) := by
    refine wsZ_set (q := (24, N, k)) hq ?_ (fun q' hq' => ceZ_cg rfl rfl (funext fun j => sR_ne (.inl hq')) (fun j => by unfold uZ; rw [if_neg (fun z => hq' z.1)]))
    show (Sum.inl (cA 24, N, .inr (.inr (.inr (.inr (fun j => if uZ Z k i k j = true then none else some (ρ ((sR M k i kv).2.2 k j))))))) : va_E) = _
    refine congrArg (fun f => (Sum.inl (cA 24, N, .inr (.inr (.inr (.inr f)))) : va_E)) (funext fun j => ?_)
    unfold va_up uZ
    by_cases hj : j = i
    · subst hj; rw [if_pos rfl, if_neg (by simp), sR_eq]
    · rw [if_neg hj, if_neg (c := k = k ∧ j = i) (fun z => hj z.2), sR_ne (.inr hj)]
  rw [← hρ k (by omega), ← hρ kv (by omega)]
  obtain ⟨r', hr', cellV, g1, g2, g3, -⟩ := hP kv _ hv
  have hcls := (hK.1 6 _ (cl_at 6 (by omega))).2
  obtain ⟨kA, comp, k1, k2, k3, -⟩ := (hK.2 4 (cA 24, .object "IceParliament$State") rfl).2
  have hcomp : comp = dC 6 := Option.some.inj (k3.symm.trans hcls.1)
  subst hcomp
  obtain ⟨kC, hkC, -⟩ := hcls.2
  refine W.aast hx hb (hP k _ he) (fun q h => by cases h) (fun h => by cases h) k1 k2 rfl hkC ⟨i_neg (by omega), by show _ < (arrV _ _ _).slots.size; rw [arrV_size, eI]; exact hi⟩ g1 (fun q h => by rw [g3] at h; cases h) (by rw [g2]; exact hkC) (by rw [g2]; exact va_assign hcls) (g := F0 m pc ls (.ref (ρ kv) :: .int (Int32.ofNat i) :: .ref (ρ k) :: rest)) rfl rfl hdg fun H1 e1 z1 o1 => ?_
  have hP1 : va_P (dC, dI) vwCl ((wsZ ρ cA M Z (WL n)).set k (ρ k, .inl (cA 24, N, .inr (.inr (.inr (.inr (va_up (fun j => if Z k j = true then none else some (ρ (M.2.2 k j))) i (some (ρ kv))))))))) H1 := hP.set (D_wsZ hρ) he (by
    show H1[ρ k]? = some (vp_cell _ _)
    rw [e1, vp_cell_q, vp_cell_q, arrV_store, eI]
    congr 2
    funext j
    by_cases hj : j = i
    · subst hj; simp [updV, va_up, va_rf]
    · simp [updV, va_up, hj]) o1
  rw [eset] at hP1
  exact kk H1 _ ⟨hP1, by rw [z1]; exact hz, hS.put z1 o1 ((D_wsZ hρ).2 k _ he)⟩
/-- int[][] -/
theorem mn_outer (c : ClassId) (N h0 : Nat) : ∀ i : Nat, Jvm.Free.Multi.outerC c N h0 i = arrV c N (fun j => va_rf (if j < i then some (h0 + 1 + j) else none))
  | 0 => by
    show ({ cls := c, slots := Array.replicate N .null, vm := .none } : Cell) = _
    rw [arrV_new]
    exact congrArg (arrV c N) (funext fun j => by simp [va_rf])
  | i + 1 => by
    show (Jvm.Free.Multi.outerC c N h0 i).setSlot i (.ref (h0 + 1 + i)) = _
    rw [mn_outer c N h0 i, arrV_store]
    refine congrArg (arrV c N) (funext fun j => ?_)
    by_cases e : j = i
    · subst e; simp [updV, va_rf]
    · by_cases h : j < i
      · simp [updV, e, h, Nat.lt_succ_of_lt h]
      · simp [updV, e, h, show ¬ j < i + 1 by omega]
theorem arrV_cg {c : ClassId} {N : Nat} {f g : Nat → Value} (h : ∀ j, j < N → f j = g j) : arrV c N f = arrV c N g := by
  unfold arrV
  congr 1
  apply congrArg
  funext j
  exact h j.1 j.2
theorem n_mna {t N K index : Nat} {nv kv : Int32} (hnv : nv = Int32.ofNat N) (hkv : kv = Int32.ofNat K) (hN : N ≤ 100) (hK' : K ≤ 100) (h30 : 30 ≤ t) (cx : CX own cc nL p s m args meth c dC dI cA ρ B) (sx : SX dC dI cA ρ B s n M Z H locs) (fz : Fz n M Z) (hW : WF[n]? = some (t, N, n)) (hWr : ∀ j, j < N → WF[n + 1 + j]? = some (20, K, n + 1 + j)) (hcl : Cond.classLink own index "[[I" ∈ lw_g) (harr : Cond.arrayClass .int ∈ lw_g) (hc : cells + (1 + N) ≤ R.cells) (hs : slots + (N + N * K) ≤ R.slots) (hdg : decode cc pc = .ok (.multianewarray index 2, 4))
    (kk : ∀ H1, SX dC dI cA ρ B s (n + 1 + N) M Z H1 locs → W p l e R s m args below meth c H1 locs (cells + 1 + N) (slots + N + N * K) Q (F0 m (pc + 4) ls (.ref (B + n) :: rest))) : W p l e R s m args below meth c H locs cells slots Q (F0 m pc ls (.int kv :: .int nv :: rest)) := by
  have cx0 := cx
  obtain ⟨⟨hx, hb, hml, hown, hts⟩, -, -, hin, hK, -, -, hO, hρ, -⟩ := cx
  subst hnv hkv
  have h279 := (WF_at hW).2
  have eN : (Int32.ofNat N).toNatClampNeg = N := i_nat (by omega)
  have eK : (Int32.ofNat K).toNatClampNeg = K := i_nat (by omega)
  intro T hT Xs
  have hNK : N * K ≤ 10000 := Nat.le_trans (Nat.mul_le_mul hN hK') (by decide)
  obtain ⟨vm₁, cA', comp, -, fA, fC, -, -, X', step⟩ := Xs.multianewarray2F hx hown (ty := .int) (hts _ hcl) (hO.2.1 : (Cond.arrayOver (.array .int)).before args s = true) (hts _ harr) (g := F0 m pc ls (.int (Int32.ofNat K) :: .int (Int32.ofNat N) :: rest)) rfl (by rw [hb]; exact hdg) rfl (i_neg (by omega)) (i_neg (by omega)) (by rw [eN]; omega) (by rw [eK]; simp only [componentBytes]; omega) (by rw [eK]; omega) rfl rfl (by rw [eN]; exact hc) (by rw [eN, eK]; exact hs)
  rw [eN, eK] at X' step
  have ec : cA 20 = comp := by
    have h2 : s.vm.findClass ("[" ++ FieldType.int.toString) = some (cA 20) := (hK.2 0 (cA 20, .int) rfl).2
    exact Option.some.inj (h2.symm.trans fC)
  have ea : cA 25 = cA' := by
    have h2 : s.vm.findClass ("[" ++ (FieldType.array .int).toString) = some (cA 25) := (hK.2 5 (cA 25, .array .int) rfl).2
    exact Option.some.inj (h2.symm.trans fA)
  subst ec ea
  generalize hF : Jvm.Free.Multi.fill (T.setVm vm₁) (cA 25) (cA 20) N K (defaultValue .int) N = F at X' step
  have hTh : (T.setVm vm₁).heap = H := hT
  obtain ⟨f1, f2, -, -⟩ := Jvm.Free.Multi.fill_facts (T.setVm vm₁) (cA 25) (cA 20) N K (defaultValue .int) N
  rw [hF, hTh] at f1 f2
  rw [sx.2.1] at f1 f2
  have hold : ∀ x : Nat, x < H.size → F.heap[x]? = H[x]? := fun x hx => by
    have := Jvm.Free.Multi.fill_old (T.setVm vm₁) (cA 25) (cA 20) N K (defaultValue .int) (a := x) (by rw [hTh]; exact hx) N
    rw [hF, hTh] at this
    exact this
  have hrow : ∀ j : Nat, j < N → F.heap[B + n + 1 + j]? = some (arrV (cA 20) K (fun _ => .int 0)) := fun j hj => by
    have := Jvm.Free.Multi.fill_inner (T.setVm vm₁) (cA 25) (cA 20) N K (defaultValue .int) N j hj
    rw [hF, hTh, sx.2.1] at this
    rw [this]
    show some ({ cls := cA 20, slots := Array.replicate K (.int 0), vm := .none } : Cell) = _
    rw [arrV_new]
  have z0 : ∀ k, n ≤ k → ∀ j, M.1 k j = 0 := fun k hk j => (fz k hk j).1
  -- the outer one, then row by row
  have sxr : ∀ i, i ≤ N → va_P (dC, dI) vwCl (wsZ ρ cA M Z (WL (n + 1 + i))) F.heap := by
    intro i
    induction i with
    | zero =>
      intro _
      rw [Nat.add_zero, WL_s hW]
      unfold wsZ
      rw [List.map_append]
      refine va_P.app (sx.1.kept (fun k x hx => hold x.1 ((sx.1 k x hx).lt))) (fun k x hx => ?_)
      have hk : k < 1 := (List.getElem?_eq_some_iff.mp hx).1
      rw [show k = 0 by omega] at hx
      cases hx
      show va_at (dC, dI) vwCl (ρ n, ceZ ρ cA M Z (t, N, n)) F.heap
      unfold ceZ aCZ aC aT
      rw [if_neg (by omega), if_pos h30, if_neg (by omega), if_neg (by omega), if_neg (by omega), if_pos h30, hρ n (by omega)]
      show F.heap[B + n]? = some (arrV (cA 25) N (fun j => va_rf (some (ρ (n + 1 + j)))))
      rw [f2, mn_outer]
      refine congrArg some (arrV_cg (fun j hj => ?_))
      rw [if_pos hj]
      have := (WF_at (hWr j hj)).2
      rw [hρ _ (by omega), show B + n + 1 + j = B + (n + 1 + j) by omega]
    | succ i ih =>
      intro hi
      have hwi := hWr i (by omega)
      have h9 := (WF_at hwi).2
      rw [show n + 1 + (i + 1) = (n + 1 + i) + 1 by omega, WL_s hwi]
      unfold wsZ
      rw [List.map_append]
      refine va_P.app (ih (by omega)) (fun k x hx => ?_)
      have hk : k < 1 := (List.getElem?_eq_some_iff.mp hx).1
      rw [show k = 0 by omega] at hx
      cases hx
      show va_at (dC, dI) vwCl (ρ (n + 1 + i), ceZ ρ cA M Z (20, K, n + 1 + i)) F.heap
      rw [hρ _ (by omega)]
      show F.heap[B + (n + 1 + i)]? = some (arrV (cA 20) K (fun j => .int (M.1 (n + 1 + i) j)))
      simp only [z0 (n + 1 + i) (by omega)]
      rw [show B + (n + 1 + i) = B + n + 1 + i by omega]; exact hrow i (by omega)
  have hS := sx.2.2
  obtain ⟨t1, a1, b1⟩ := kk F.heap ⟨sxr N (Nat.le_refl N), by rw [f1]; omega, by rw [f1]; have := hS.1; have := sx.2.1; omega, fun x h1 h2 => (hold x (Nat.lt_of_lt_of_le h1 hS.1)).trans (hS.2.1 x h1 h2), hS.2.2⟩ F rfl X'
  refine ⟨t1, step t1 ?_, b1⟩
  have e9 : T.heap.size = B + n := by rw [hT]; exact sx.2.1
  rw [e9]
  exact a1
end NSTEP
