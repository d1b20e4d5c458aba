/-! ROWS OVER THE HEAP -/
theorem ct_own : ∀ x, x < 13 → ∀ y, y < clN x → ((clT x) y).1 = clR x := by decide +kernel
theorem ct_fin : ∀ x, x < 13 → ∀ y, y < clN x → fk x y ≠ 2 → ((clT x) y).2.2.2 = false := by decide +kernel
theorem ct_int : ∀ x, x < 13 → ∀ y, y < clN x → fk x y = 0 → clY x y = .int := by decide +kernel
theorem ct_bool : ∀ x, x < 13 → ∀ y, y < clN x → fk x y = 4 → clY x y = .boolean := by decide +kernel
theorem ct_long : ∀ x, x < 13 → ∀ y, y < clN x → fk x y = 1 → clY x y = .long := by decide +kernel
theorem ct_ref : ∀ x, x < 13 → ∀ y, y < clN x → fk x y = 3 → ∀ a, narrow (clY x y) (.ref a) = .ref a ∧ fits (clY x y) (.ref a) = true := by
  intro x hx y hy h a
  have : ∀ x, x < 13 → ∀ y, y < clN x → fk x y = 3 → (x = 2 ∧ y = 4) := by decide +kernel
  obtain ⟨rfl, rfl⟩ := this x hx y hy h
  exact ⟨rfl, rfl⟩
theorem gf_cv {ρ : Nat → Nat} {x y : Nat} {q : Ref3} {M : Mem} (hk : fk x y ≤ 4) : cv ρ (gf x y q M) = fv ρ M x q.2.2 y := by
  unfold gf fv
  generalize fk x y = z at hk ⊢
  match z, hk with
  | 0, _ => rfl
  | 1, _ => rfl
  | 2, _ => exact cv_t (fp_t x y q.2.2)
  | 3, _ => exact cv_t (q := ((fm x y).1, (fm x y).2, M.2.2 q.2.2 y)) (fm_t x y)
  | 4, _ => rfl
theorem fk_le : ∀ x, x < 13 → ∀ y, y < clN x → fk x y ≤ 4 := by decide +kernel
theorem ce_obj {ρ : Nat → Nat} {cA : Nat → ClassId} {M : Mem} {q : Ref3} (h : q.1 < 13) : ce ρ cA M q = .inr (q.1, fvs ρ M q.1 q.2.2) := if_pos h
theorem ce_int {ρ : Nat → Nat} {cA : Nat → ClassId} {M : Mem} {q : Ref3} (h : q.1 = 20 ∨ q.1 = 21 ∨ q.1 = 22) : ce ρ cA M q = .inl (cA q.1, q.2.1, .inl (M.1 q.2.2)) := by
  obtain ⟨t, n, k⟩ := q
  rcases h with h | h | h <;> (dsimp only at h; subst h; rfl)
theorem ce_long {ρ : Nat → Nat} {cA : Nat → ClassId} {M : Mem} {q : Ref3} (h : q.1 = 23) : ce ρ cA M q = .inl (cA 23, q.2.1, .inr (.inl (M.2.1 q.2.2))) := by
  obtain ⟨t, n, k⟩ := q
  dsimp only at h; subst h; rfl
theorem ce_st {ρ : Nat → Nat} {cA : Nat → ClassId} {M : Mem} {q : Ref3} (h : q.1 = 24) : ce ρ cA M q = .inl (cA 24, q.2.1, .inr (.inr (.inr (.inr (fun j => some (ρ (M.2.2 q.2.2 j))))))) := by
  obtain ⟨t, n, k⟩ := q
  dsimp only at h; subst h; rfl
theorem ce_grid {ρ : Nat → Nat} {cA : Nat → ClassId} {M : Mem} {q : Ref3} (h : q.1 = 30 ∨ q.1 = 31 ∨ q.1 = 32) : ce ρ cA M q = .inl (cA 25, q.2.1, .inr (.inr (.inr (.inr (fun j => some (ρ (q.2.2 + 1 + j))))))) := by
  obtain ⟨t, n, k⟩ := q
  rcases h with h | h | h <;> (dsimp only at h; subst h; rfl)
section RH
variable {w : List Ref3} {own : String} {cc : ByteArray} {nL : Nat} {ret : Option FieldType} {d pc : Nat} {lv : Lv} {st : List AV} {M : Mem} {r : Option AV × Mem} {q : Ref3}
theorem x_get {x y index : Nat} (hx : x < 13) (hy : y < clN x) (hq : q ∈ w) (hqx : q.1 = x) (hl : Cond.fieldLink own index (clR x) ((clT x) y).2.1 ((clT x) y).2.2.1 ∈ lw_g) (hdg : decode cc pc = .ok (.getfield index, 3))
    (k : WPs w own cc nL ret d (pc + 3) lv (gf x y q M :: st) M r) : WPs w own cc nL ret d pc lv (.inr (.inr q) :: st) M r := by
  intro p l e s m args below meth c dC dI cA ρ A H locs ls hB hK hP hD hS hlv
  rw [List.map_cons, cv_t (q := q) (by omega)]
  obtain ⟨i, hi⟩ := List.getElem?_of_mem hq
  subst hqx
  have he := wsOf_at (ρ := ρ) (cA := cA) (M := M) hi
  rw [ce_obj hx] at he
  have hk := k p l e s m args below meth c dC dI cA ρ A H locs ls hB hK hP hD hS hlv
  refine va_get (ref := clR q.1) hB.1 hB.2.1 hB.2.2.2.2.1 (cl_ing q.1 hx) hB.2.2.2.1 hK.1 hP i he (cl_at q.1 hx) y hy (hB.2.2.2.2.1 _ hl) (fun z hz => by rw [ct_own q.1 hx y hy] at hz; exact hz) (fvs_at hy) hdg ?_
  rw [← gf_cv (fk_le q.1 hx y hy)]
  exact hk
theorem x_put {x y index : Nat} {v : AV} {M' : Mem} (hx : x < 13) (hy : y < clN x) (hq : q ∈ w) (hqx : q.1 = x) (hf : fk x y ≠ 2) (hn : ∀ ρ, narrow (clY x y) (cv ρ v) = cv ρ v ∧ fits (clY x y) (cv ρ v) = true)
    (hv : ∀ ρ, fv ρ M' x q.2.2 y = cv ρ v) (hv2 : ∀ ρ i, i ≠ y → fv ρ M' x q.2.2 i = fv ρ M x q.2.2 i) (ho : ∀ ρ cA (q' : Ref3), q'.2.2 ≠ q.2.2 → ce ρ cA M' q' = ce ρ cA M q')
    (hl : Cond.fieldLink own index (clR x) ((clT x) y).2.1 ((clT x) y).2.2.1 ∈ lw_g) (hdg : decode cc pc = .ok (.putfield index, 3))
    (k : WPs w own cc nL ret d (pc + 3) lv st M' r) : WPs w own cc nL ret d pc lv (v :: .inr (.inr q) :: st) M r := by
  intro p l e s m args below meth c dC dI cA ρ A H locs ls hB hK hP hD hS hlv
  rw [List.map_cons, List.map_cons, cv_t (q := q) (by omega)]
  obtain ⟨i, hi⟩ := List.getElem?_of_mem hq
  subst hqx
  have he := wsOf_at (ρ := ρ) (cA := cA) (M := M) hi
  rw [ce_obj hx] at he
  refine va_put (ref := clR q.1) hB.1 hB.2.1 hB.2.2.2.2.1 (cl_ing q.1 hx) (clY q.1) (cl_ty q.1 hx) (cl_nm q.1 hx) hB.2.2.2.1 hK.1 hP hD hS i he (cl_at q.1 hx) y hy (hB.2.2.2.2.1 _ hl) (fun z hz => by rw [ct_own q.1 hx y hy] at hz; exact hz) (ct_fin q.1 hx y hy hf) (cl_ty q.1 hx y hy) (hn ρ).1 (hn ρ).2 (by simp [fvs, hy]) hdg (fun H1 locs1 hP1 hD1 hS1 => ?_)
  have hset : (wsOf ρ cA M w).set i (ρ q.2.2, .inr (q.1, (fvs ρ M q.1 q.2.2).set y (cv ρ v))) = wsOf ρ cA M' w := wsOf_set hD hi (by rw [ce_obj hx, fvs_set (hv ρ) (hv2 ρ)]) (ho ρ cA)
  rw [hset] at hP1 hD1
  exact k p l e s m args below meth c dC dI cA ρ A H1 locs1 ls hB hK hP1 hD1 hS1 hlv
theorem x_iald {i : Int32} (hq : q ∈ w) (ht : q.1 = 20) (hin : ¬ (i < 0 ∨ q.2.1 ≤ i.toNatClampNeg)) (hdg : decode cc pc = .ok (.iaload, 1))
    (k : WPs w own cc nL ret d (pc + 1) lv (.inl (M.1 q.2.2 i.toNatClampNeg) :: st) M r) : WPs w own cc nL ret d pc lv (.inl i :: .inr (.inr q) :: st) M r := by
  intro p l e s m args below meth c dC dI cA ρ A H locs ls hB hK hP hD hS hlv
  rw [List.map_cons, List.map_cons, cv_t (q := q) (by omega)]
  obtain ⟨j, hj⟩ := List.getElem?_of_mem hq
  have he := wsOf_at (ρ := ρ) (cA := cA) (M := M) hj
  rw [ce_int (Or.inl ht), ht] at he
  exact va_iald hB.1 hB.2.1 hK.1 hP j 0 he rfl hin hdg (k p l e s m args below meth c dC dI cA ρ A H locs ls hB hK hP hD hS hlv)
theorem x_cald {i : Int32} (hq : q ∈ w) (ht : q.1 = 21) (hin : ¬ (i < 0 ∨ q.2.1 ≤ i.toNatClampNeg)) (hdg : decode cc pc = .ok (.caload, 1))
    (k : WPs w own cc nL ret d (pc + 1) lv (.inl (M.1 q.2.2 i.toNatClampNeg) :: st) M r) : WPs w own cc nL ret d pc lv (.inl i :: .inr (.inr q) :: st) M r := by
  intro p l e s m args below meth c dC dI cA ρ A H locs ls hB hK hP hD hS hlv
  rw [List.map_cons, List.map_cons, cv_t (q := q) (by omega)]
  obtain ⟨j, hj⟩ := List.getElem?_of_mem hq
  have he := wsOf_at (ρ := ρ) (cA := cA) (M := M) hj
  rw [ce_int (Or.inr (Or.inl ht)), ht] at he
  exact va_cald hB.1 hB.2.1 hK.1 hP j 1 he rfl hin hdg (k p l e s m args below meth c dC dI cA ρ A H locs ls hB hK hP hD hS hlv)
theorem x_zald {i : Int32} (hq : q ∈ w) (ht : q.1 = 22) (hin : ¬ (i < 0 ∨ q.2.1 ≤ i.toNatClampNeg)) (hdg : decode cc pc = .ok (.baload, 1))
    (k : WPs w own cc nL ret d (pc + 1) lv (.inl (M.1 q.2.2 i.toNatClampNeg) :: st) M r) : WPs w own cc nL ret d pc lv (.inl i :: .inr (.inr q) :: st) M r := by
  intro p l e s m args below meth c dC dI cA ρ A H locs ls hB hK hP hD hS hlv
  rw [List.map_cons, List.map_cons, cv_t (q := q) (by omega)]
  obtain ⟨j, hj⟩ := List.getElem?_of_mem hq
  have he := wsOf_at (ρ := ρ) (cA := cA) (M := M) hj
  rw [ce_int (Or.inr (Or.inr ht)), ht] at he
  exact va_zald hB.1 hB.2.1 hK.1 hP j 2 he rfl hin hdg (k p l e s m args below meth c dC dI cA ρ A H locs ls hB hK hP hD hS hlv)
theorem x_lald {i : Int32} (hq : q ∈ w) (ht : q.1 = 23) (hin : ¬ (i < 0 ∨ q.2.1 ≤ i.toNatClampNeg)) (hdg : decode cc pc = .ok (.laload, 1))
    (k : WPs w own cc nL ret d (pc + 1) lv (.inr (.inl (M.2.1 q.2.2 i.toNatClampNeg)) :: st) M r) : WPs w own cc nL ret d pc lv (.inl i :: .inr (.inr q) :: st) M r := by
  intro p l e s m args below meth c dC dI cA ρ A H locs ls hB hK hP hD hS hlv
  rw [List.map_cons, List.map_cons, cv_t (q := q) (by omega)]
  obtain ⟨j, hj⟩ := List.getElem?_of_mem hq
  have he := wsOf_at (ρ := ρ) (cA := cA) (M := M) hj
  rw [ce_long ht] at he
  exact va_lald hB.1 hB.2.1 hK.1 hP j 3 he rfl hin hdg (k p l e s m args below meth c dC dI cA ρ A H locs ls hB hK hP hD hS hlv)
theorem x_aald {i : Int32} (hq : q ∈ w) (ht : q.1 = 24) (hin : ¬ (i < 0 ∨ q.2.1 ≤ i.toNatClampNeg)) (hdg : decode cc pc = .ok (.aaload, 1))
    (k : WPs w own cc nL ret d (pc + 1) lv (.inr (.inr (6, 0, M.2.2 q.2.2 i.toNatClampNeg)) :: st) M r) : WPs w own cc nL ret d pc lv (.inl i :: .inr (.inr q) :: st) M r := by
  intro p l e s m args below meth c dC dI cA ρ A H locs ls hB hK hP hD hS hlv
  rw [List.map_cons, List.map_cons, cv_t (q := q) (by omega)]
  obtain ⟨j, hj⟩ := List.getElem?_of_mem hq
  have he := wsOf_at (ρ := ρ) (cA := cA) (M := M) hj
  rw [ce_st ht] at he
  exact va_aldq hB.1 hB.2.1 hK.1 hP j 4 he rfl hin hdg (k p l e s m args below meth c dC dI cA ρ A H locs ls hB hK hP hD hS hlv)
theorem x_gald {i : Int32} (hq : q ∈ w) (ht : q.1 = 30 ∨ q.1 = 31 ∨ q.1 = 32) (hin : ¬ (i < 0 ∨ q.2.1 ≤ i.toNatClampNeg)) (hdg : decode cc pc = .ok (.aaload, 1)) {b : Nat}
    (k : WPs w own cc nL ret d (pc + 1) lv (.inr (.inr (20, b, q.2.2 + 1 + i.toNatClampNeg)) :: st) M r) : WPs w own cc nL ret d pc lv (.inl i :: .inr (.inr q) :: st) M r := by
  intro p l e s m args below meth c dC dI cA ρ A H locs ls hB hK hP hD hS hlv
  rw [List.map_cons, List.map_cons, cv_t (q := q) (by omega)]
  obtain ⟨j, hj⟩ := List.getElem?_of_mem hq
  have he := wsOf_at (ρ := ρ) (cA := cA) (M := M) hj
  rw [ce_grid ht] at he
  have hlt : i.toNatClampNeg < q.2.1 := Nat.not_le.mp fun q => hin (Or.inr q)
  have hA := hK.1.2 5 (cA 25, .array .int) rfl
  exact W.aald (v := .ref (ρ (q.2.2 + 1 + i.toNatClampNeg))) (ty := .array .int) hB.1 hB.2.1 (hP j _ he) (hA.1 q.2.1 (fun z => va_rf (some (ρ (q.2.2 + 1 + z))))) rfl (fun q => by cases q) (by show ¬ (i < 0 ∨ (arrV _ _ _).slots.size ≤ _); rw [arrV_size]; exact hin) (by show (arrV _ _ _).slots[_]? = _; rw [arrV_read _ _ hlt]; rfl) rfl rfl hdg (k p l e s m args below meth c dC dI cA ρ A H locs ls hB hK hP hD hS hlv)
theorem x_iast {i v : Int32} (hq : q ∈ w) (ht : q.1 = 20) (hin : ¬ (i < 0 ∨ q.2.1 ≤ i.toNatClampNeg)) (hdg : decode cc pc = .ok (.iastore, 1))
    (k : WPs w own cc nL ret d (pc + 1) lv st (sI M q.2.2 i.toNatClampNeg v) r) : WPs w own cc nL ret d pc lv (.inl v :: .inl i :: .inr (.inr q) :: st) M r := by
  intro p l e s m args below meth c dC dI cA ρ A H locs ls hB hK hP hD hS hlv
  rw [List.map_cons, List.map_cons, List.map_cons, cv_t (q := q) (by omega)]
  obtain ⟨j, hj⟩ := List.getElem?_of_mem hq
  have he := wsOf_at (ρ := ρ) (cA := cA) (M := M) hj
  rw [ce_int (Or.inl ht), ht] at he
  refine va_iast hB.1 hB.2.1 hK.1 hP hD hS j 0 he rfl hin hdg (fun H1 locs1 hP1 hD1 hS1 => ?_)
  have hset : (wsOf ρ cA M w).set j (ρ q.2.2, .inl (cA 20, q.2.1, .inl (upd (M.1 q.2.2) i.toNatClampNeg v))) = wsOf ρ cA (sI M q.2.2 i.toNatClampNeg v) w := wsOf_set hD hj (by rw [ce_int (Or.inl ht), ht, upd_row]) (fun q' h => ce_sI_ne h)
  rw [hset] at hP1 hD1
  exact k p l e s m args below meth c dC dI cA ρ A H1 locs1 ls hB hK hP1 hD1 hS1 hlv
theorem x_cast {i v : Int32} (hq : q ∈ w) (ht : q.1 = 21) (hin : ¬ (i < 0 ∨ q.2.1 ≤ i.toNatClampNeg)) (hdg : decode cc pc = .ok (.castore, 1))
    (k : WPs w own cc nL ret d (pc + 1) lv st (sI M q.2.2 i.toNatClampNeg (vp_nar .char v)) r) : WPs w own cc nL ret d pc lv (.inl v :: .inl i :: .inr (.inr q) :: st) M r := by
  intro p l e s m args below meth c dC dI cA ρ A H locs ls hB hK hP hD hS hlv
  rw [List.map_cons, List.map_cons, List.map_cons, cv_t (q := q) (by omega)]
  obtain ⟨j, hj⟩ := List.getElem?_of_mem hq
  have he := wsOf_at (ρ := ρ) (cA := cA) (M := M) hj
  rw [ce_int (Or.inr (Or.inl ht)), ht] at he
  refine va_cast hB.1 hB.2.1 hK.1 hP hD hS j 1 he rfl hin hdg (fun H1 locs1 hP1 hD1 hS1 => ?_)
  have hset : (wsOf ρ cA M w).set j (ρ q.2.2, .inl (cA 21, q.2.1, .inl (upd (M.1 q.2.2) i.toNatClampNeg (vp_nar .char v)))) = wsOf ρ cA (sI M q.2.2 i.toNatClampNeg (vp_nar .char v)) w := wsOf_set hD hj (by rw [ce_int (Or.inr (Or.inl ht)), ht, upd_row]) (fun q' h => ce_sI_ne h)
  rw [hset] at hP1 hD1
  exact k p l e s m args below meth c dC dI cA ρ A H1 locs1 ls hB hK hP1 hD1 hS1 hlv
theorem x_zast {i v : Int32} (hq : q ∈ w) (ht : q.1 = 22) (hin : ¬ (i < 0 ∨ q.2.1 ≤ i.toNatClampNeg)) (hdg : decode cc pc = .ok (.bastore, 1))
    (k : WPs w own cc nL ret d (pc + 1) lv st (sI M q.2.2 i.toNatClampNeg (vp_nar .boolean v)) r) : WPs w own cc nL ret d pc lv (.inl v :: .inl i :: .inr (.inr q) :: st) M r := by
  intro p l e s m args below meth c dC dI cA ρ A H locs ls hB hK hP hD hS hlv
  rw [List.map_cons, List.map_cons, List.map_cons, cv_t (q := q) (by omega)]
  obtain ⟨j, hj⟩ := List.getElem?_of_mem hq
  have he := wsOf_at (ρ := ρ) (cA := cA) (M := M) hj
  rw [ce_int (Or.inr (Or.inr ht)), ht] at he
  refine va_zast hB.1 hB.2.1 hK.1 hP hD hS j 2 he rfl hin hdg (fun H1 locs1 hP1 hD1 hS1 => ?_)
  have hset : (wsOf ρ cA M w).set j (ρ q.2.2, .inl (cA 22, q.2.1, .inl (upd (M.1 q.2.2) i.toNatClampNeg (vp_nar .boolean v)))) = wsOf ρ cA (sI M q.2.2 i.toNatClampNeg (vp_nar .boolean v)) w := wsOf_set hD hj (by rw [ce_int (Or.inr (Or.inr ht)), ht, upd_row]) (fun q' h => ce_sI_ne h)
  rw [hset] at hP1 hD1
  exact k p l e s m args below meth c dC dI cA ρ A H1 locs1 ls hB hK hP1 hD1 hS1 hlv
theorem x_last {i : Int32} {v : Int64} (hq : q ∈ w) (ht : q.1 = 23) (hin : ¬ (i < 0 ∨ q.2.1 ≤ i.toNatClampNeg)) (hdg : decode cc pc = .ok (.lastore, 1))
    (k : WPs w own cc nL ret d (pc + 1) lv st (sJ M q.2.2 i.toNatClampNeg v) r) : WPs w own cc nL ret d pc lv (.inr (.inl v) :: .inl i :: .inr (.inr q) :: st) M r := by
  intro p l e s m args below meth c dC dI cA ρ A H locs ls hB hK hP hD hS hlv
  rw [List.map_cons, List.map_cons, List.map_cons, cv_t (q := q) (by omega)]
  obtain ⟨j, hj⟩ := List.getElem?_of_mem hq
  have he := wsOf_at (ρ := ρ) (cA := cA) (M := M) hj
  rw [ce_long ht] at he
  refine va_last hB.1 hB.2.1 hK.1 hP hD hS j 3 he rfl hin hdg (fun H1 locs1 hP1 hD1 hS1 => ?_)
  have hset : (wsOf ρ cA M w).set j (ρ q.2.2, .inl (cA 23, q.2.1, .inr (.inl (vp_updL (M.2.1 q.2.2) i.toNatClampNeg v)))) = wsOf ρ cA (sJ M q.2.2 i.toNatClampNeg v) w := wsOf_set hD hj (by rw [ce_long ht, updL_row]) (fun q' h => ce_sJ_ne h)
  rw [hset] at hP1 hD1
  exact k p l e s m args below meth c dC dI cA ρ A H1 locs1 ls hB hK hP1 hD1 hS1 hlv
theorem x_aast {i : Int32} {v : Ref3} (hq : q ∈ w) (ht : q.1 = 24) (hv : v ∈ w) (hvt : v.1 = 6) (hin : ¬ (i < 0 ∨ q.2.1 ≤ i.toNatClampNeg)) (hdg : decode cc pc = .ok (.aastore, 1))
    (k : WPs w own cc nL ret d (pc + 1) lv st (sR M q.2.2 i.toNatClampNeg v.2.2) r) : WPs w own cc nL ret d pc lv (.inr (.inr v) :: .inl i :: .inr (.inr q) :: st) M r := by
  intro p l e s m args below meth c dC dI cA ρ A H locs ls hB hK hP hD hS hlv
  rw [List.map_cons, List.map_cons, List.map_cons, cv_t (q := v) (by omega), cv_t (q := q) (by omega)]
  obtain ⟨j, hj⟩ := List.getElem?_of_mem hq
  obtain ⟨j2, hj2⟩ := List.getElem?_of_mem hv
  have he := wsOf_at (ρ := ρ) (cA := cA) (M := M) hj
  have he2 := wsOf_at (ρ := ρ) (cA := cA) (M := M) hj2
  rw [ce_st ht] at he
  rw [ce_obj (by omega), hvt] at he2
  refine va_astq hB.1 hB.2.1 hK.1 hP hD hS j 4 j2 6 (r := (RX6, TX6, 11)) he rfl he2 rfl hin hdg (fun H1 locs1 hP1 hD1 hS1 => ?_)
  have hset : (wsOf ρ cA M w).set j (ρ q.2.2, .inl (cA 24, q.2.1, .inr (.inr (.inr (.inr (va_up (fun z => some (ρ (M.2.2 q.2.2 z))) i.toNatClampNeg (some (ρ v.2.2)))))))) = wsOf ρ cA (sR M q.2.2 i.toNatClampNeg v.2.2) w := wsOf_set hD hj (by
    rw [ce_st ht]
    congr 7
    funext z
    by_cases hz : z = i.toNatClampNeg <;> simp [sR, va_up, hz]) (fun q' h => ce_sR_ne h)
  rw [hset] at hP1 hD1
  exact k p l e s m args below meth c dC dI cA ρ A H1 locs1 ls hB hK hP1 hD1 hS1 hlv
theorem x_alen (hq : q ∈ w) (ht : (20 ≤ q.1 ∧ q.1 ≤ 24) ∨ (30 ≤ q.1 ∧ q.1 ≤ 32)) (hdg : decode cc pc = .ok (.arraylength, 1))
    (k : WPs w own cc nL ret d (pc + 1) lv (.inl (Int32.ofNat q.2.1) :: st) M r) : WPs w own cc nL ret d pc lv (.inr (.inr q) :: st) M r := by
  intro p l e s m args below meth c dC dI cA ρ A H locs ls hB hK hP hD hS hlv
  rw [List.map_cons, cv_t (q := q) (by omega)]
  obtain ⟨j, hj⟩ := List.getElem?_of_mem hq
  have he := wsOf_at (ρ := ρ) (cA := cA) (M := M) hj
  have hk := k p l e s m args below meth c dC dI cA ρ A H locs ls hB hK hP hD hS hlv
  have hc : q.1 = 20 ∨ q.1 = 21 ∨ q.1 = 22 ∨ q.1 = 23 ∨ q.1 = 24 ∨ q.1 = 30 ∨ q.1 = 31 ∨ q.1 = 32 := by omega
  rcases hc with h | h | h | h | h | h
  · rw [ce_int (Or.inl h), h] at he
    exact va_alen hB.1 hB.2.1 hK.1 hP j 0 he rfl rfl hdg hk
  · rw [ce_int (Or.inr (Or.inl h)), h] at he
    exact va_alen hB.1 hB.2.1 hK.1 hP j 1 he rfl rfl hdg hk
  · rw [ce_int (Or.inr (Or.inr h)), h] at he
    exact va_alen hB.1 hB.2.1 hK.1 hP j 2 he rfl rfl hdg hk
  · rw [ce_long h] at he
    exact va_alen hB.1 hB.2.1 hK.1 hP j 3 he rfl rfl hdg hk
  · rw [ce_st h] at he
    exact va_alen hB.1 hB.2.1 hK.1 hP j 4 he rfl rfl hdg hk
  · rw [ce_grid h] at he
    exact va_alen hB.1 hB.2.1 hK.1 hP j 5 he rfl rfl hdg hk
end RH
