/-! THE MACHINE OVER THE ABSTRACT STATE: WPs says that the machine, at pc with these locals and this stack over the memory M, returns r.1 and leaves the memory r.2. -/
def lw_g : List Cond := lw_tbl.filter goodWord
theorem lw_goodIn {x : Cond} (h : x ∈ lw_g) : GoodIn lw_g (x :: lw_g) := by
  intro w hw
  have hm : w ∈ lw_g := by
    rcases List.mem_cons.mp hw with e | e
    · rw [e]; exact h
    · exact e
  exact ⟨hm, good_of_word (List.mem_filter.mp hm).2⟩
theorem lw_mem {x : Cond} (i : Nat) (h : lw_tbl[i]? = some x) (hg : goodWord x = true) : x ∈ lw_g := List.mem_filter.mpr ⟨List.mem_of_getElem? h, hg⟩
theorem cl_good : ∀ t, t < 13 → (u_ws (clR t) (clT t) (clN t)).all goodWord = true
  | 0, _ => by decide +kernel
  | 1, _ => by decide +kernel
  | 2, _ => by decide +kernel
  | 3, _ => by decide +kernel
  | 4, _ => by decide +kernel
  | 5, _ => by decide +kernel
  | 6, _ => by decide +kernel
  | 7, _ => by decide +kernel
  | 8, _ => by decide +kernel
  | 9, _ => by decide +kernel
  | 10, _ => by decide +kernel
  | 11, _ => by decide +kernel
  | 12, _ => by decide +kernel
  | t + 13, h => absurd h (by omega)
theorem cl_ing (t : Nat) (h : t < 13) : ∀ w ∈ u_ws (clR t) (clT t) (clN t), w ∈ lw_g := fun w hw => List.mem_filter.mpr ⟨cl_in t h w hw, List.all_eq_true.mp (cl_good t h) w hw⟩
def rmD (d : Nat) : Room := { frames := d, cells := 0, slots := 0, locals := 60 * d }
def SFc (ρ : Nat → Nat) (A : Nat → Prop) (s : State) (H : Heap) : Prop :=
  vk_S 35 (strT.map List.length) strT (fun i => ρ (SB + i)) (fun i => ρ (SV + i)) A s H ∧ va_Z "java/lang/String" "COMPACT_STRINGS" "Z" (.int 1) A s H ∧ va_Z "jdk/internal/util/Preconditions" "SIOOBE_FORMATTER" "Ljava/util/function/BiFunction;" (cv ρ (.inr (.inr (50, 0, SF0)))) A s H
def SWc (ρ : Nat → Nat) (s : State) : Prop := (∀ e ∈ strW, vk_R e.1 e.2.1 e.2.2.1 (ρ (SB + e.2.2.2)) s) ∧ ∀ e ∈ nestW, va_Nw (.methodLinkNest e.1 e.2 y_has "IceParliament") s
def VOK (w : List Ref3) : AV → Prop
  | .inr (.inr q) => q ∈ w ∨ (∃ i, i < 35 ∧ q = (40, i, SB + i)) ∨ (∃ i, i < 35 ∧ q = (41, strL i, SV + i)) ∨ q = (50, 0, SF0)
  | _ => True
def WT (w : List Ref3) : Prop := (∀ q ∈ w, q.1 < 13 ∨ (20 ≤ q.1 ∧ q.1 ≤ 24) ∨ (30 ≤ q.1 ∧ q.1 ≤ 32)) ∧ ∀ a ∈ w, ∀ b ∈ w, a.2.2 = b.2.2 → a = b
def VOKs (w : List Ref3) (st : List AV) : Prop := ∀ v ∈ st, VOK w v
def VOKl (w : List Ref3) (lv : Lv) : Prop := ∀ i v, lvat lv i = some v → VOK w v
def BX (own : String) (cc : ByteArray) (nL : Nat) (ret : Option FieldType) (p : Program) (s : State) (m : MethodId) (args : Array Value) (meth : Method) (c : Code) : Prop :=
  p.tables.exec = Jvm.exec ∧ c.code = cc ∧ c.maxLocals = nL ∧ s.vm.findClass own = some m.cls ∧ (∀ w ∈ lw_g, w.before args s = true) ∧ meth.sig.returnType = ret ∧ meth.locks = false
def KX (dC : Nat → ClassId) (dI : Nat → Nat → Nat) (cA : Nat → ClassId) (ρ : Nat → Nat) (A : Nat → Prop) (s : State) : Prop :=
  va_K (dC, dI) vwCl (tysOf cA) s ∧ SFc ρ A s s.heap ∧ SWc ρ s ∧ ∀ q, s.heap.size ≤ q → A q
def lvOK (ρ : Nat → Nat) (ls : Array Slot) (nL : Nat) (lv : Lv) : Prop := ∃ l, lv_has ls nL l ∧ ∀ i v, lvat lv i = some v → (i, cv ρ v) ∈ l
def QcR (dC : Nat → ClassId) (dI : Nat → Nat → Nat) (cA : Nat → ClassId) (ρ : Nat → Nat) (w : List Ref3) (A : Nat → Prop) (r : Option AV × Mem) : Array Value → State → Outcome → State → Prop := fun _ st oc t =>
  oc = .returned (r.1.map (cv ρ)) ∧ va_P (dC, dI) vwCl (wsOf ρ cA r.2 w) t.heap ∧ va_K (dC, dI) vwCl (tysOf cA) t ∧ va_F A st t
def WPs (w : List Ref3) (own : String) (cc : ByteArray) (nL : Nat) (ret : Option FieldType) (d pc : Nat) (lv : Lv) (st : List AV) (M : Mem) (r : Option AV × Mem) : Prop :=
  ∀ (p : Program) (l : Launch) (e : Env) (s : State) (m : MethodId) (args : Array Value) (below : List Frame) (meth : Method) (c : Code) (dC : Nat → ClassId) (dI : Nat → Nat → Nat) (cA : Nat → ClassId) (ρ : Nat → Nat) (A : Nat → Prop) (H : Heap) (locs : List Loc) (ls : Array Slot),
    BX own cc nL ret p s m args meth c → KX dC dI cA ρ A s → va_P (dC, dI) vwCl (wsOf ρ cA M w) H → va_D A (wsOf ρ cA M w) → va_S A s.heap H locs → lvOK ρ ls nL lv →
    W p l e (rmD d) s m args below meth c H locs 0 0 (MQ below (QcR dC dI cA ρ w A r) args s 0 0 A) (F0 m pc ls (st.map (cv ρ)))
section RW
variable {w : List Ref3} {own : String} {cc : ByteArray} {nL : Nat} {ret : Option FieldType} {d pc : Nat} {lv : Lv} {st : List AV} {M : Mem} {r : Option AV × Mem}
theorem x_int {n : Nat} {v : Int32} (hrow : ∀ {p : Program} {l : Launch} {e : Env} {R : Room} {s : State} {m : MethodId} {args : Array Value} {below : List Frame} {meth : Method} {c : Code} {H : Heap} {locs : List Loc} {cells slots : Nat} {Q : State → Prop} {ls : Array Slot} {rest : List Value}, p.tables.exec = Jvm.exec → c.code = cc → s.vm.findClass own = some m.cls → (∀ w ∈ lw_g, w.before args s = true) → W p l e R s m args below meth c H locs cells slots Q (F0 m n ls (.int v :: rest)) → W p l e R s m args below meth c H locs cells slots Q (F0 m pc ls rest))
    (k : WPs w own cc nL ret d n lv (.inl v :: st) M r) : WPs w own cc nL ret d pc lv st M r := by
  intro p l e s m args below meth c dC dI cA ρ A H locs ls hB hK hP hD hS hl
  exact hrow hB.1 hB.2.1 hB.2.2.2.1 hB.2.2.2.2.1 (k p l e s m args below meth c dC dI cA ρ A H locs ls hB hK hP hD hS hl)
theorem x_long {n : Nat} {v : Int64} (hrow : ∀ {p : Program} {l : Launch} {e : Env} {R : Room} {s : State} {m : MethodId} {args : Array Value} {below : List Frame} {meth : Method} {c : Code} {H : Heap} {locs : List Loc} {cells slots : Nat} {Q : State → Prop} {ls : Array Slot} {rest : List Value}, p.tables.exec = Jvm.exec → c.code = cc → s.vm.findClass own = some m.cls → (∀ w ∈ lw_g, w.before args s = true) → W p l e R s m args below meth c H locs cells slots Q (F0 m n ls (.long v :: rest)) → W p l e R s m args below meth c H locs cells slots Q (F0 m pc ls rest))
    (k : WPs w own cc nL ret d n lv (.inr (.inl v) :: st) M r) : WPs w own cc nL ret d pc lv st M r := by
  intro p l e s m args below meth c dC dI cA ρ A H locs ls hB hK hP hD hS hl
  exact hrow hB.1 hB.2.1 hB.2.2.2.1 hB.2.2.2.2.1 (k p l e s m args below meth c dC dI cA ρ A H locs ls hB hK hP hD hS hl)
/-- a row that changes the stack alone -/
theorem x_st {n : Nat} {st' : List AV} (hrow : ∀ {ρ : Nat → Nat} {p : Program} {l : Launch} {e : Env} {R : Room} {s : State} {m : MethodId} {args : Array Value} {below : List Frame} {meth : Method} {c : Code} {H : Heap} {locs : List Loc} {cells slots : Nat} {Q : State → Prop} {ls : Array Slot}, p.tables.exec = Jvm.exec → c.code = cc → W p l e R s m args below meth c H locs cells slots Q (F0 m n ls (st'.map (cv ρ))) → W p l e R s m args below meth c H locs cells slots Q (F0 m pc ls (st.map (cv ρ))))
    (k : WPs w own cc nL ret d n lv st' M r) : WPs w own cc nL ret d pc lv st M r := by
  intro p l e s m args below meth c dC dI cA ρ A H locs ls hB hK hP hD hS hl
  exact hrow hB.1 hB.2.1 (k p l e s m args below meth c dC dI cA ρ A H locs ls hB hK hP hD hS hl)
/-- a row with two ways -/
theorem x_br {n1 n2 : Nat} {st' : List AV} {P : Prop} (hrow : ∀ {ρ : Nat → Nat} {p : Program} {l : Launch} {e : Env} {R : Room} {s : State} {m : MethodId} {args : Array Value} {below : List Frame} {meth : Method} {c : Code} {H : Heap} {locs : List Loc} {cells slots : Nat} {Q : State → Prop} {ls : Array Slot}, p.tables.exec = Jvm.exec → c.code = cc → (P → W p l e R s m args below meth c H locs cells slots Q (F0 m n1 ls (st'.map (cv ρ)))) → (¬ P → W p l e R s m args below meth c H locs cells slots Q (F0 m n2 ls (st'.map (cv ρ)))) → W p l e R s m args below meth c H locs cells slots Q (F0 m pc ls (st.map (cv ρ))))
    (k1 : P → WPs w own cc nL ret d n1 lv st' M r) (k2 : ¬ P → WPs w own cc nL ret d n2 lv st' M r) : WPs w own cc nL ret d pc lv st M r := by
  intro p l e s m args below meth c dC dI cA ρ A H locs ls hB hK hP hD hS hl
  exact hrow hB.1 hB.2.1 (fun h => k1 h p l e s m args below meth c dC dI cA ρ A H locs ls hB hK hP hD hS hl) (fun h => k2 h p l e s m args below meth c dC dI cA ρ A H locs ls hB hK hP hD hS hl)
/-- a local is read -/
theorem x_ld {n i : Nat} {v : AV} (hv : lvat lv i = some v) (hrow : ∀ {ρ : Nat → Nat} {p : Program} {l : Launch} {e : Env} {R : Room} {s : State} {m : MethodId} {args : Array Value} {below : List Frame} {meth : Method} {c : Code} {H : Heap} {locs : List Loc} {cells slots : Nat} {Q : State → Prop} {ls : Array Slot} {rest : List Value}, p.tables.exec = Jvm.exec → c.code = cc → ls[i]? = some (.val (cv ρ v)) → W p l e R s m args below meth c H locs cells slots Q (F0 m n ls (cv ρ v :: rest)) → W p l e R s m args below meth c H locs cells slots Q (F0 m pc ls rest))
    (k : WPs w own cc nL ret d n lv (v :: st) M r) : WPs w own cc nL ret d pc lv st M r := by
  intro p l e s m args below meth c dC dI cA ρ A H locs ls hB hK hP hD hS hl
  obtain ⟨l0, h1, h2⟩ := id hl
  exact hrow hB.1 hB.2.1 (h1.2.2 _ (h2 i v hv)) (k p l e s m args below meth c dC dI cA ρ A H locs ls hB hK hP hD hS hl)
theorem lvat_lst : ∀ (lv : Lv) (i j : Nat) (v : Option AV) (x : AV), lvat (lst lv i v) j = some x → (j = i ∧ v = some x) ∨ (j ≠ i ∧ lvat lv j = some x)
  | [], _, _, _, _, h => by simp [lst, lvat] at h
  | a :: t, 0, 0, v, x, h => by simp [lst, lvat] at h; exact Or.inl ⟨rfl, h⟩
  | a :: t, 0, j + 1, v, x, h => by simp [lst, lvat] at h; exact Or.inr ⟨by omega, by simpa [lvat] using h⟩
  | a :: t, i + 1, 0, v, x, h => by simp [lst, lvat] at h; exact Or.inr ⟨by omega, by simpa [lvat] using h⟩
  | a :: t, i + 1, j + 1, v, x, h => by
    simp [lst, lvat] at h
    rcases lvat_lst t i j v x h with ⟨e, h⟩ | ⟨e, h⟩
    · exact Or.inl ⟨by omega, h⟩
    · exact Or.inr ⟨by omega, by simpa [lvat] using h⟩
theorem isJ_cat {ρ : Nat → Nat} {x : AV} (h : isJ (some x) = false) : (cv ρ x).category = 1 := by
  rcases x with x | x | x
  · rfl
  · simp [isJ] at h
  · exact cv_cat ρ x
theorem lvat_stl {lv : Lv} {i j : Nat} {v x : AV} (h : lvat (stl lv i v) j = some x) : (j = i ∧ v = x) ∨ (j ≠ i ∧ lvat lv j = some x ∧ (j + 1 = i → isJ (some x) = false)) := by
  cases i with
  | zero =>
    rcases lvat_lst _ _ _ _ _ h with ⟨e, h⟩ | ⟨e, h⟩
    · exact Or.inl ⟨e, Option.some.inj h⟩
    · exact Or.inr ⟨e, h, fun z => by omega⟩
  | succ i =>
    simp only [stl] at h
    cases hj : isJ (lvat lv i) with
    | true =>
      rw [hj] at h
      rcases lvat_lst _ _ _ _ _ h with ⟨e, h⟩ | ⟨e, h⟩
      · exact Or.inl ⟨e, Option.some.inj h⟩
      · rcases lvat_lst _ _ _ _ _ h with ⟨e2, h⟩ | ⟨e2, h⟩
        · cases h
        · exact Or.inr ⟨e, h, fun z => by omega⟩
    | false =>
      rw [hj] at h
      rcases lvat_lst _ _ _ _ _ h with ⟨e, h5⟩ | ⟨e, h5⟩
      · exact Or.inl ⟨e, Option.some.inj h5⟩
      · refine Or.inr ⟨e, h5, fun z => ?_⟩
        have : j = i := by omega
        subst this
        rw [← h5]; exact hj
theorem lvOK_stl {ρ : Nat → Nat} {ls ls' : Array Slot} {i : Nat} {v : AV} {l : List (Nat × Value)} (h2 : ∀ i v, lvat lv i = some v → (i, cv ρ v) ∈ l) (h : lv_has ls' nL ((i, cv ρ v) :: l.filter (fun q => !(q.1 == i) && !(q.1 + 1 == i && q.2.category == 2)))) : lvOK ρ ls' nL (stl lv i v) := by
  refine ⟨_, h, fun j x hx => ?_⟩
  rcases lvat_stl hx with ⟨e, h3⟩ | ⟨e, h3, h4⟩
  · subst e; subst h3; exact List.mem_cons_self
  · refine List.mem_cons_of_mem _ (List.mem_filter.mpr ⟨h2 j x h3, ?_⟩)
    by_cases z : j + 1 = i
    · simp [e, isJ_cat (ρ := ρ) (h4 z)]
    · simp [e, z]
theorem lvOK_stl2 {ρ : Nat → Nat} {ls ls' : Array Slot} {i : Nat} {v : AV} {l : List (Nat × Value)} (h2 : ∀ i v, lvat lv i = some v → (i, cv ρ v) ∈ l) (h : lv_has ls' nL ((i, cv ρ v) :: l.filter (fun q => !(q.1 == i) && (!(q.1 == i + 1) && !(q.1 + 1 == i && q.2.category == 2))))) : lvOK ρ ls' nL (stl2 lv i v) := by
  refine ⟨_, h, fun j x hx => ?_⟩
  rcases lvat_lst _ _ _ _ _ hx with ⟨e0, h0⟩ | ⟨e0, hx⟩
  · cases h0
  rcases lvat_stl hx with ⟨e, h3⟩ | ⟨e, h3, h4⟩
  · subst e; subst h3; exact List.mem_cons_self
  · refine List.mem_cons_of_mem _ (List.mem_filter.mpr ⟨h2 j x h3, ?_⟩)
    by_cases z : j + 1 = i
    · simp [e, e0, isJ_cat (ρ := ρ) (h4 z)]
    · simp [e, e0, z]
end RW
/-! a reference that may be null, carried -/
section NUL
variable {p : Program} {l : Launch} {e : Env} {R : Room} {s : State} {m : MethodId} {args : Array Value} {below : List Frame} {meth : Method} {c : Code} {H : Heap} {locs : List Loc} {cells slots : Nat} {Q : State → Prop}
variable {cc : ByteArray} {pc : Nat} {ls : Array Slot} {rest : List Value}
theorem xr_aload_n (hexec : p.tables.exec = Jvm.exec) (hb : c.code = cc) {k : Fin 4} {i : Nat} {v : Value} (hv : v = .null ∨ ∃ x : Nat, v = .ref x) (hdg : decode cc pc = .ok (.aload_n k, 1)) (hi : (k : Nat) = i) (hl : ls[i]? = some (.val v))
    (kk : W p l e R s m args below meth c H locs cells slots Q (F0 m (pc + 1) ls (v :: rest))) : W p l e R s m args below meth c H locs cells slots Q (F0 m pc ls rest) := by
  rcases hv with rfl | ⟨x, rfl⟩
  · subst hi
    intro T hT X
    obtain ⟨t, a, b⟩ := kk T hT X
    refine ⟨t, ?_, b⟩
    jvm_step X.here [X.here.top, hexec, hb, hdg, hl, Value.isRef]
    exact a
  · exact lv_aload_n hexec hb hdg hi hl kk
theorem xr_aload (hexec : p.tables.exec = Jvm.exec) (hb : c.code = cc) {i : Nat} {v : Value} (hv : v = .null ∨ ∃ x : Nat, v = .ref x) (hdg : decode cc pc = .ok (.aload i, 2)) (hl : ls[i]? = some (.val v))
    (kk : W p l e R s m args below meth c H locs cells slots Q (F0 m (pc + 2) ls (v :: rest))) : W p l e R s m args below meth c H locs cells slots Q (F0 m pc ls rest) := by
  rcases hv with rfl | ⟨x, rfl⟩
  · intro T hT X
    obtain ⟨t, a, b⟩ := kk T hT X
    refine ⟨t, ?_, b⟩
    jvm_step X.here [X.here.top, hexec, hb, hdg, hl, Value.isRef]
    exact a
  · exact lv_aload hexec hb hdg hl kk
theorem xr_astore_n (hexec : p.tables.exec = Jvm.exec) (hb : c.code = cc) {k : Fin 4} {i nL : Nat} {v : Value} (hv : v = .null ∨ ∃ x : Nat, v = .ref x) {lv lv' : List (Nat × Value)} (hdg : decode cc pc = .ok (.astore_n k, 1)) (hi : (k : Nat) = i) (h : lv_has ls nL lv) (hn : i < nL) (hl : (i, v) :: lv.filter (fun q => !(q.1 == i) && !(q.1 + 1 == i && q.2.category == 2)) = lv')
    (kk : ∀ ls' : Array Slot, lv_has ls' nL lv' → W p l e R s m args below meth c H locs cells slots Q (F0 m (pc + 1) ls' rest)) : W p l e R s m args below meth c H locs cells slots Q (F0 m pc ls (v :: rest)) := by
  rcases hv with rfl | ⟨x, rfl⟩
  · subst hi
    obtain ⟨ls', e', h'⟩ := lv_store1 (v := .null) h hn rfl
    intro T hT X
    obtain ⟨t, a, b⟩ := kk ls' (hl ▸ h') T hT X
    refine ⟨t, ?_, b⟩
    jvm_step X.here [X.here.top, ↓top_set X.here.top, hexec, hb, hdg, e', Value.isRef]
    exact a
  · exact lv_astore_n hexec hb hdg hi h hn hl kk
theorem xr_astore (hexec : p.tables.exec = Jvm.exec) (hb : c.code = cc) {i nL : Nat} {v : Value} (hv : v = .null ∨ ∃ x : Nat, v = .ref x) {lv lv' : List (Nat × Value)} (hdg : decode cc pc = .ok (.astore i, 2)) (h : lv_has ls nL lv) (hn : i < nL) (hl : (i, v) :: lv.filter (fun q => !(q.1 == i) && !(q.1 + 1 == i && q.2.category == 2)) = lv')
    (kk : ∀ ls' : Array Slot, lv_has ls' nL lv' → W p l e R s m args below meth c H locs cells slots Q (F0 m (pc + 2) ls' rest)) : W p l e R s m args below meth c H locs cells slots Q (F0 m pc ls (v :: rest)) := by
  rcases hv with rfl | ⟨x, rfl⟩
  · obtain ⟨ls', e', h'⟩ := lv_store1 (v := .null) h hn rfl
    intro T hT X
    obtain ⟨t, a, b⟩ := kk ls' (hl ▸ h') T hT X
    refine ⟨t, ?_, b⟩
    jvm_step X.here [X.here.top, ↓top_set X.here.top, hexec, hb, hdg, e', Value.isRef]
    exact a
  · exact lv_astore hexec hb hdg h hn hl kk
end NUL
