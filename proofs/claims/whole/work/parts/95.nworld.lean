/-! THE WORLD IN ITS MAKING: cells in the order in which they are made, references not yet set -/
def WF : List Ref3 := [(11, 0, 0), (7, 0, 1), (21, 1000, 2), (9, 0, 3), (4, 0, 4), (23, 6, 5), (4, 0, 6), (23, 6, 7), (4, 0, 8), (23, 6, 9), (20, 6, 10), (20, 6, 11), (20, 6, 12), (20, 6, 13), (20, 6, 14), (20, 6, 15), (20, 6, 16), (20, 6, 17), (20, 6, 18), (20, 14, 19), (1, 0, 20), (20, 1000, 21), (20, 32, 22), (1, 0, 23), (20, 1000, 24), (20, 32, 25), (9, 0, 26), (4, 0, 27), (23, 6, 28), (4, 0, 29), (23, 6, 30), (4, 0, 31), (23, 6, 32), (20, 6, 33), (20, 6, 34), (20, 6, 35), (20, 6, 36), (20, 6, 37), (20, 6, 38), (20, 6, 39), (20, 6, 40), (20, 6, 41), (20, 14, 42), (1, 0, 43), (20, 1000, 44), (20, 32, 45), (1, 0, 46), (20, 1000, 47), (20, 32, 48), (10, 0, 49), (2, 0, 50), (20, 48, 51), (5, 0, 52), (20, 40, 53), (20, 40, 54), (20, 40, 55), (5, 0, 56), (20, 40, 57), (20, 40, 58), (20, 40, 59), (6, 0, 60), (20, 6, 61), (20, 6, 62), (20, 6, 63), (20, 6, 64), (20, 6, 65), (20, 6, 66), (24, 16, 67), (24, 4, 68), (3, 0, 69), (20, 6, 70), (20, 6, 71), (20, 4, 72), (20, 6, 73), (30, 6, 74), (20, 16, 75), (20, 16, 76), (20, 16, 77), (20, 16, 78), (20, 16, 79), (20, 16, 80), (20, 4, 81), (20, 7, 82), (31, 6, 83), (20, 6, 84), (20, 6, 85), (20, 6, 86), (20, 6, 87), (20, 6, 88), (20, 6, 89), (32, 7, 90), (20, 64, 91), (20, 64, 92), (20, 64, 93), (20, 64, 94), (20, 64, 95), (20, 64, 96), (20, 64, 97), (23, 21, 98), (23, 21, 99), (0, 0, 100), (20, 64, 101), (20, 6, 102), (20, 6, 103), (20, 21, 104), (8, 0, 105), (6, 0, 106), (20, 6, 107), (20, 6, 108), (20, 6, 109), (20, 6, 110), (20, 6, 111), (20, 6, 112), (6, 0, 113), (20, 6, 114), (20, 6, 115), (20, 6, 116), (20, 6, 117), (20, 6, 118), (20, 6, 119), (6, 0, 120), (20, 6, 121), (20, 6, 122), (20, 6, 123), (20, 6, 124), (20, 6, 125), (20, 6, 126), (6, 0, 127), (20, 6, 128), (20, 6, 129), (20, 6, 130), (20, 6, 131), (20, 6, 132), (20, 6, 133), (6, 0, 134), (20, 6, 135), (20, 6, 136), (20, 6, 137), (20, 6, 138), (20, 6, 139), (20, 6, 140), (6, 0, 141), (20, 6, 142), (20, 6, 143), (20, 6, 144), (20, 6, 145), (20, 6, 146), (20, 6, 147), (6, 0, 148), (20, 6, 149), (20, 6, 150), (20, 6, 151), (20, 6, 152), (20, 6, 153), (20, 6, 154), (6, 0, 155), (20, 6, 156), (20, 6, 157), (20, 6, 158), (20, 6, 159), (20, 6, 160), (20, 6, 161), (6, 0, 162), (20, 6, 163), (20, 6, 164), (20, 6, 165), (20, 6, 166), (20, 6, 167), (20, 6, 168), (6, 0, 169), (20, 6, 170), (20, 6, 171), (20, 6, 172), (20, 6, 173), (20, 6, 174), (20, 6, 175), (6, 0, 176), (20, 6, 177), (20, 6, 178), (20, 6, 179), (20, 6, 180), (20, 6, 181), (20, 6, 182), (6, 0, 183), (20, 6, 184), (20, 6, 185), (20, 6, 186), (20, 6, 187), (20, 6, 188), (20, 6, 189), (6, 0, 190), (20, 6, 191), (20, 6, 192), (20, 6, 193), (20, 6, 194), (20, 6, 195), (20, 6, 196), (6, 0, 197), (20, 6, 198), (20, 6, 199), (20, 6, 200), (20, 6, 201), (20, 6, 202), (20, 6, 203), (6, 0, 204), (20, 6, 205), (20, 6, 206), (20, 6, 207), (20, 6, 208), (20, 6, 209), (20, 6, 210), (6, 0, 211), (20, 6, 212), (20, 6, 213), (20, 6, 214), (20, 6, 215), (20, 6, 216), (20, 6, 217), (6, 0, 218), (20, 6, 219), (20, 6, 220), (20, 6, 221), (20, 6, 222), (20, 6, 223), (20, 6, 224), (6, 0, 225), (20, 6, 226), (20, 6, 227), (20, 6, 228), (20, 6, 229), (20, 6, 230), (20, 6, 231), (6, 0, 232), (20, 6, 233), (20, 6, 234), (20, 6, 235), (20, 6, 236), (20, 6, 237), (20, 6, 238), (6, 0, 239), (20, 6, 240), (20, 6, 241), (20, 6, 242), (20, 6, 243), (20, 6, 244), (20, 6, 245), (6, 0, 246), (20, 6, 247), (20, 6, 248), (20, 6, 249), (20, 6, 250), (20, 6, 251), (20, 6, 252), (12, 0, 253), (20, 1000, 254), (20, 1002, 255), (20, 1002, 256), (23, 1002, 257), (23, 33, 258), (20, 220, 259), (20, 2200, 260), (20, 2200, 261), (23, 18, 262), (23, 18, 263), (20, 18, 264), (20, 18, 265), (20, 250, 266), (20, 5, 267), (20, 1100, 268), (20, 1127, 269), (22, 4, 270), (20, 4, 271), (20, 4, 272), (20, 4, 273), (20, 36, 274), (20, 6, 275), (20, 6, 276), (20, 21, 277), (23, 1, 278)]
theorem WF_len : WF.length = 279 := by decide +kernel
theorem WF_ix : ∀ k, k < 279 → (WF.getD k (0, 0, 0)).2.2 = k := by
  have : ∀ k : Fin 279, (WF.getD k.1 (0, 0, 0)).2.2 = k.1 := by decide +kernel
  exact fun k hk => this ⟨k, hk⟩
theorem WF_at {k : Nat} {q : Ref3} (h : WF[k]? = some q) : q.2.2 = k ∧ k < 279 := by
  have hl : k < 279 := by
    have := (List.getElem?_eq_some_iff.mp h).1
    rw [WF_len] at this; exact this
  have := WF_ix k hl
  rw [List.getD_eq_getElem?_getD, h] at this
  exact ⟨this, hl⟩
section NWORLD
abbrev Zs : Type := Nat → Nat → Bool
def fvZ (ρ : Nat → Nat) (M : Mem) (Z : Zs) (t k j : Nat) : Value := if Z k j = true then .null else fv ρ M t k j
def fvsZ (ρ : Nat → Nat) (M : Mem) (Z : Zs) (t k : Nat) : List Value := (List.range (clN t)).map (fvZ ρ M Z t k)
def aCZ (ρ : Nat → Nat) (M : Mem) (Z : Zs) (q : Ref3) : vp_A := if q.1 = 24 then (q.2.1, .inr (.inr (.inr (.inr (fun j => if Z q.2.2 j = true then none else some (ρ (M.2.2 q.2.2 j))))))) else aC ρ M q
def ceZ (ρ : Nat → Nat) (cA : Nat → ClassId) (M : Mem) (Z : Zs) (q : Ref3) : va_E := if q.1 < 13 then .inr (q.1, fvsZ ρ M Z q.1 q.2.2) else .inl (cA (aT q.1), aCZ ρ M Z q)
def wsZ (ρ : Nat → Nat) (cA : Nat → ClassId) (M : Mem) (Z : Zs) (w : List Ref3) : va_W := w.map (fun q => (ρ q.2.2, ceZ ρ cA M Z q))
def WL (n : Nat) : List Ref3 := WF.take n
def uZ (Z : Zs) (k j : Nat) : Zs := fun a b => if a = k ∧ b = j then false else Z a b
def AB (B : Nat) : Nat → Prop := fun q => B ≤ q
def RB (ρ : Nat → Nat) (B : Nat) : Prop := ∀ k, k < 10000 → ρ k = B + k
variable {ρ : Nat → Nat} {cA : Nat → ClassId} {M M' : Mem} {Z Z' : Zs} {n n' B : Nat} {dC : Nat → ClassId} {dI : Nat → Nat → Nat}
theorem WL_at {k : Nat} (h : k < n) : (WL n)[k]? = WF[k]? := by unfold WL; rw [List.getElem?_take, if_pos h]
theorem WL_lt {k : Nat} {q : Ref3} (h : (WL n)[k]? = some q) : k < n ∧ WF[k]? = some q ∧ q.2.2 = k := by
  unfold WL at h
  rw [List.getElem?_take] at h
  by_cases hk : k < n
  · rw [if_pos hk] at h; exact ⟨hk, h, (WF_at h).1⟩
  · rw [if_neg hk] at h; cases h
theorem WL_s {q : Ref3} (h : WF[n]? = some q) : WL (n + 1) = WL n ++ [q] := by unfold WL; rw [List.take_add_one, h]; rfl
theorem wsZ_at {w : List Ref3} {p : Nat} {q : Ref3} (h : w[p]? = some q) : (wsZ ρ cA M Z w)[p]? = some (ρ q.2.2, ceZ ρ cA M Z q) := by unfold wsZ; rw [List.getElem?_map, h]; rfl
theorem wsZ_get {w : List Ref3} {p : Nat} {x : Nat × va_E} (h : (wsZ ρ cA M Z w)[p]? = some x) : ∃ q, w[p]? = some q ∧ x = (ρ q.2.2, ceZ ρ cA M Z q) := by
  unfold wsZ at h
  rw [List.getElem?_map] at h
  cases hq : w[p]? with
  | none => rw [hq] at h; cases h
  | some q => rw [hq] at h; exact ⟨q, rfl, (Option.some.inj h).symm⟩
theorem D_wsZ (hρ : RB ρ B) : va_D (AB B) (wsZ ρ cA M Z (WL n)) := by
  refine ⟨fun i j x y hi hj he => ?_, fun k x hx => ?_⟩
  · obtain ⟨a, ha, rfl⟩ := wsZ_get hi
    obtain ⟨b, hb, rfl⟩ := wsZ_get hj
    obtain ⟨-, a1, a2⟩ := WL_lt ha
    obtain ⟨-, b1, b2'⟩ := WL_lt hb
    have he : ρ a.2.2 = ρ b.2.2 := he
    have := (WF_at a1).2
    have := (WF_at b1).2
    rw [a2, b2', hρ i (by omega), hρ j (by omega)] at he
    omega
  · obtain ⟨a, ha, rfl⟩ := wsZ_get hx
    obtain ⟨-, a1, a2⟩ := WL_lt ha
    have := (WF_at a1).2
    show B ≤ ρ a.2.2
    rw [a2, hρ k (by omega)]; omega
theorem wsZ_set {k : Nat} {q : Ref3} {e : va_E} (hq : (WL n)[k]? = some q) (he : ceZ ρ cA M' Z' q = e) (ho : ∀ q' : Ref3, q'.2.2 ≠ k → ceZ ρ cA M' Z' q' = ceZ ρ cA M Z q') : (wsZ ρ cA M Z (WL n)).set k (ρ q.2.2, e) = wsZ ρ cA M' Z' (WL n) := by
  apply List.ext_getElem?
  intro i
  have hl : k < (WL n).length := (List.getElem?_eq_some_iff.mp hq).1
  by_cases hik : k = i
  · subst hik
    rw [List.getElem?_set_self (by simpa [wsZ] using hl), wsZ_at hq, he]
  · rw [List.getElem?_set_ne hik]
    simp only [wsZ, List.getElem?_map]
    cases hq' : (WL n)[i]? with
    | none => rfl
    | some q' =>
      have : q'.2.2 ≠ k := fun z => hik ((WL_lt hq').2.2.symm.trans z).symm
      simp [ho q' this]
/-- what is not made yet is blank -/
def rfK (k j : Nat) : Bool := let t := (WF.getD k (0, 0, 0)).1; decide (t = 24) || (decide (t < 13) && (decide (fk t j = 2) || decide (fk t j = 3)))
def Fz (n : Nat) (M : Mem) (Z : Zs) : Prop := ∀ k, n ≤ k → ∀ j, M.1 k j = 0 ∧ M.2.1 k j = 0 ∧ Z k j = rfK k j
theorem Fz.le (h : Fz n M Z) (hn : n ≤ n') : Fz n' M Z := fun k hk j => h k (by omega) j
theorem Fz.set {k j : Nat} (h : Fz n M Z) (hk : k < n) : Fz n M (uZ Z k j) := fun a ha b => by
  refine ⟨(h a ha b).1, (h a ha b).2.1, ?_⟩
  unfold uZ
  rw [if_neg (by omega)]; exact (h a ha b).2.2
theorem WF_t {k t m : Nat} (h : WF[k]? = some (t, m, k)) : (WF.getD k (0, 0, 0)).1 = t := by rw [List.getD_eq_getElem?_getD, h]; rfl
/-- a constructor's surroundings, and the state of the making -/
def NOv (U : State) : Prop := va_AO "IceParliament$State" U ∧ (Cond.arrayOver (.array .int)).before #[] U = true ∧ ∀ e ∈ [("IceParliament", 11, "IceParliament$Tape"), ("IceParliament$Yard", 11, "IceParliament$Roll"), ("IceParliament$Yard", 57, "IceParliament$Law"), ("IceParliament", 37, "IceParliament$Session")], va_Nw (.methodLinkNest e.1 e.2.1 ⟨e.2.2, "<init>", "()V"⟩ "IceParliament") U
def CX (own : String) (cc : ByteArray) (nL : Nat) (p : Program) (s : State) (m : MethodId) (args : Array Value) (meth : Method) (c : Code) (dC : Nat → ClassId) (dI : Nat → Nat → Nat) (cA : Nat → ClassId) (ρ : Nat → Nat) (B : Nat) : Prop :=
  (p.tables.exec = Jvm.exec ∧ c.code = cc ∧ c.maxLocals = nL ∧ s.vm.findClass own = some m.cls ∧ ∀ w ∈ lw_g, w.before args s = true) ∧ meth.sig.returnType = none ∧ meth.locks = false ∧ meth.name = "<init>" ∧ va_K (dC, dI) vwCl (tysOf cA) s ∧ SFc ρ (AB B) s s.heap ∧ SWc ρ s ∧ NOv s ∧ RB ρ B ∧ B ≤ s.heap.size
def SX (dC : Nat → ClassId) (dI : Nat → Nat → Nat) (cA : Nat → ClassId) (ρ : Nat → Nat) (B : Nat) (s : State) (n : Nat) (M : Mem) (Z : Zs) (H : Heap) (locs : List Loc) : Prop :=
  va_P (dC, dI) vwCl (wsZ ρ cA M Z (WL n)) H ∧ H.size = B + n ∧ va_S (AB B) s.heap H locs
variable {p : Program} {l : Launch} {e : Env} {R : Room} {s : State} {m : MethodId} {args : Array Value} {below : List Frame} {meth : Method} {c : Code} {H : Heap} {locs : List Loc} {cells slots : Nat} {Q : State → Prop}
variable {own : String} {cc : ByteArray} {nL pc : Nat} {ls : Array Slot} {rest : List Value}
theorem cl_def : ∀ t, t < 13 → ∀ j, j < clN t → defaultValue (clY t j) = if fk t j = 2 ∨ fk t j = 3 then .null else if fk t j = 1 then .long 0 else .int 0 := by
  have : ∀ t : Fin 13, ∀ j : Fin 41, j.1 < clN t.1 → defaultValue (clY t.1 j.1) = if fk t.1 j.1 = 2 ∨ fk t.1 j.1 = 3 then .null else if fk t.1 j.1 = 1 then .long 0 else .int 0 := by decide +kernel
  have hm : ∀ t : Fin 13, clN t.1 ≤ 41 := by decide
  intro t ht j hj
  exact this ⟨t, ht⟩ ⟨j, by have := hm ⟨t, ht⟩; dsimp at this; omega⟩ hj
theorem SX.push {q : Ref3} {H1 : Heap} (sx : SX dC dI cA ρ B s n M Z H locs) (hW : WF[n]? = some q) (hsz : H1.size = B + n + 1) (ho : ∀ x, x < B + n → H1[x]? = H[x]?) (hat : va_at (dC, dI) vwCl (ρ q.2.2, ceZ ρ cA M Z q) H1) : SX dC dI cA ρ B s (n + 1) M Z H1 locs := by
  obtain ⟨hP, hz, hS⟩ := sx
  refine ⟨?_, by omega, Nat.le_trans hS.1 (by omega), fun x h1 h2 => (ho x (by have := hS.1; omega)).trans (hS.2.1 x h1 h2), hS.2.2⟩
  rw [WL_s hW]
  unfold wsZ
  rw [List.map_append]
  refine va_P.app (hP.kept (fun k x hx => ho x.1 (by have := (hP k x hx).lt; omega))) (fun k x hx => ?_)
  have hk : k < 1 := (List.getElem?_eq_some_iff.mp hx).1
  rw [show k = 0 by omega] at hx
  cases hx
  exact hat
theorem n_new {t index : Nat} (cx : CX own cc nL p s m args meth c dC dI cA ρ B) (sx : SX dC dI cA ρ B s n M Z H locs) (fz : Fz n M Z) (ht : t < 13) (hW : WF[n]? = some (t, 0, n)) (hcl : Cond.classLink own index (clR t) ∈ lw_g) (hins : Cond.instantiable (clR t) (clN t) ∈ lw_g) (hini : Cond.initialized (clR t) ∈ lw_g) (hc : cells + 1 ≤ R.cells) (hs : slots + clN t ≤ R.slots) (hdg : decode cc pc = .ok (.new index, 3))
    (kk : ∀ H1, SX dC dI cA ρ B s (n + 1) M Z H1 locs → W p l e R s m args below meth c H1 locs (cells + 1) (slots + clN t) Q (F0 m (pc + 3) ls (.ref (B + n) :: rest))) : W p l e R s m args below meth c H locs cells slots Q (F0 m pc ls rest) := by
  obtain ⟨⟨hx, hb, hml, hown, hts⟩, -, -, -, hK, -, -, -, hρ, -⟩ := cx
  have h279 := (WF_at hW).2
  have hKn := hK.1 t _ (cl_at t ht)
  refine W.newcK hx hb hown (hts _ hcl) (hts _ hins) (hts _ hini) rfl hdg hc hs hKn.2.1 sx.2.1 fun H1 kC hkC e1 z1 o1 => ?_
  refine kk H1 (sx.push hW z1 o1 ?_)
  show va_at (dC, dI) vwCl (ρ n, ceZ ρ cA M Z (t, 0, n)) H1
  rw [hρ n (by omega)]
  unfold ceZ
  rw [if_pos ht]
  refine ⟨_, cl_at t ht, (u_born (clY t) hts (cl_ing t ht) hKn hkC e1 (cl_ty t ht)).to (fun j hj => ?_)⟩
  have hv : vp_V (fvsZ ρ M Z t n) j = fvZ ρ M Z t n j := by
    unfold vp_V fvsZ
    rw [List.getD_eq_getElem?_getD, List.getElem?_map, List.getElem?_range hj]; rfl
  show _ = vp_V (fvsZ ρ M Z t n) j
  rw [hv, cl_def t ht j hj]
  obtain ⟨z1, z2, z3⟩ := fz n (Nat.le_refl n) j
  unfold fvZ fv
  rw [z1, z2, z3]
  unfold rfK
  rw [WF_t hW]
  have h24 : ¬ t = 24 := by omega
  by_cases c2 : fk t j = 2
  · simp [c2, ht]
  · by_cases c3 : fk t j = 3
    · simp [c3, ht]
    · simp [c2, c3, h24]
theorem n_newa {t N index : Nat} {aty : ArrayType} {ty : FieldType} {v : Int32} (hv : v = Int32.ofNat N) (hN : N ≤ 3000) (hty : newarray.typeOf aty = ty) (hcase : (t = 20 ∧ ty = .int) ∨ (t = 21 ∧ ty = .char) ∨ (t = 22 ∧ ty = .boolean) ∨ (t = 23 ∧ ty = .long)) (cx : CX own cc nL p s m args meth c dC dI cA ρ B) (sx : SX dC dI cA ρ B s n M Z H locs) (fz : Fz n M Z) (hW : WF[n]? = some (t, N, n)) (harr : Cond.arrayClass ty ∈ lw_g) (hc : cells + 1 ≤ R.cells) (hs : slots + N ≤ R.slots) (hdg : decode cc pc = .ok (.newarray aty, 2))
    (kk : ∀ H1, SX dC dI cA ρ B s (n + 1) M Z H1 locs → W p l e R s m args below meth c H1 locs (cells + 1) (slots + N) Q (F0 m (pc + 2) ls (.ref (B + n) :: rest))) : W p l e R s m args below meth c H locs cells slots Q (F0 m pc ls (.int v :: rest)) := by
  obtain ⟨⟨hx, hb, hml, hown, hts⟩, -, -, -, hK, -, -, -, hρ, -⟩ := cx
  subst hv
  have h279 := (WF_at hW).2
  have hby : N * componentBytes (newarray.typeOf aty) ≤ 536870912 := by
    rw [hty]
    rcases hcase with ⟨-, rfl⟩ | ⟨-, rfl⟩ | ⟨-, rfl⟩ | ⟨-, rfl⟩ <;> (show N * _ ≤ _; simp only [componentBytes]; omega)
  refine va_newaK hx hb (by rw [hty]; exact hts _ harr) (g := F0 m pc ls (.int (Int32.ofNat N) :: rest)) rfl hdg rfl (i_neg (by omega)) (i_nat (by omega)) hby hc hs sx.2.1 fun H1 cA' e1 z1 o1 hAr hNm => ?_
  refine kk H1 (sx.push hW z1 o1 ?_)
  show va_at (dC, dI) vwCl (ρ n, ceZ ρ cA M Z (t, N, n)) H1
  rw [hty] at e1 hNm
  have f1 : ∀ j, M.1 n j = 0 := fun j => (fz n (Nat.le_refl n) j).1
  have f2 : ∀ j, M.2.1 n j = 0 := fun j => (fz n (Nat.le_refl n) j).2.1
  have key : ∀ i, (tysOf cA)[i]? = some (cA t, ty) → cA' = cA t := fun i hi => by
    have h2 := (hK.2 i _ hi).2
    have h2 : s.vm.findClass ("[" ++ ty.toString) = some (cA t) := by
      rcases hcase with ⟨-, rfl⟩ | ⟨-, rfl⟩ | ⟨-, rfl⟩ | ⟨-, rfl⟩ <;> exact h2
    exact Option.some.inj (hNm.symm.trans h2)
  rw [hρ n (by omega)]
  rcases hcase with ⟨rfl, rfl⟩ | ⟨rfl, rfl⟩ | ⟨rfl, rfl⟩ | ⟨rfl, rfl⟩
  · have hk := key 0 rfl
    subst hk
    show H1[B + n]? = some (arrV (cA 20) N (fun j => .int (M.1 n j)))
    rw [e1]; simp only [f1]; rfl
  · have hk := key 1 rfl
    subst hk
    show H1[B + n]? = some (arrV (cA 21) N (fun j => .int (M.1 n j)))
    rw [e1]; simp only [f1]; rfl
  · have hk := key 2 rfl
    subst hk
    show H1[B + n]? = some (arrV (cA 22) N (fun j => .int (M.1 n j)))
    rw [e1]; simp only [f1]; rfl
  · have hk := key 3 rfl
    subst hk
    show H1[B + n]? = some (arrV (cA 23) N (fun j => .long (M.2.1 n j)))
    rw [e1]; simp only [f2]; rfl
/-- State[] -/
theorem n_newq {N index : Nat} {v : Int32} (hv : v = Int32.ofNat N) (hN : N ≤ 3000) (cx : CX own cc nL p s m args meth c dC dI cA ρ B) (sx : SX dC dI cA ρ B s n M Z H locs) (fz : Fz n M Z) (hW : WF[n]? = some (24, N, n)) (hcl : Cond.classLink own index "IceParliament$State" ∈ lw_g) (hc : cells + 1 ≤ R.cells) (hs : slots + N ≤ R.slots) (hdg : decode cc pc = .ok (.anewarray index, 3))
    (kk : ∀ H1, SX dC dI cA ρ B s (n + 1) M Z H1 locs → W p l e R s m args below meth c H1 locs (cells + 1) (slots + N) Q (F0 m (pc + 3) ls (.ref (B + n) :: rest))) : W p l e R s m args below meth c H locs cells slots Q (F0 m pc ls (.int v :: rest)) := by
  obtain ⟨⟨hx, hb, hml, hown, hts⟩, -, -, -, hK, -, -, hO, hρ, -⟩ := cx
  subst hv
  have h279 := (WF_at hW).2
  have eN : (Int32.ofNat N).toNatClampNeg = N := i_nat (by omega)
  refine W.anew hx hb hown (hts _ hcl) (va_AO.use hO.1) (g := F0 m pc ls (.int (Int32.ofNat N) :: rest)) rfl hdg rfl (i_neg (by omega)) (by rw [eN]; omega) hc (by rw [eN]; exact hs) fun cA' kA comp f1 f2 f3 f4 => ?_
  rw [eN, sx.2.1]
  refine kk _ (sx.push hW (by rw [Array.size_push, sx.2.1]) (fun x hx' => ?_) ?_)
  · rw [Array.getElem?_push, if_neg (by rw [sx.2.1]; omega)]
  · show va_at (dC, dI) vwCl (ρ n, ceZ ρ cA M Z (24, N, n)) _
    rw [hρ n (by omega)]
    have h2 := (hK.2 4 (cA 24, .object "IceParliament$State") rfl).2
    obtain ⟨kA', comp', -, -, -, h5⟩ := h2
    have hk : cA' = cA 24 := Option.some.inj (f1.symm.trans h5)
    subst hk
    show (H.push _)[B + n]? = some (arrV (cA 24) N (fun j => va_rf (if Z n j = true then none else some (ρ (M.2.2 n j)))))
    rw [Array.getElem?_push, if_pos sx.2.1.symm, arrV_new]
    have : (fun j => va_rf (if Z n j = true then none else some (ρ (M.2.2 n j)))) = fun _ => Value.null := funext fun j => by
      have hz := (fz n (Nat.le_refl n) j).2.2
      unfold rfK at hz
      rw [WF_t hW] at hz
      rw [hz]; rfl
    rw [this]
/-- a field that is set -/
theorem ceZ_cg {q : Ref3} (h1 : M'.1 q.2.2 = M.1 q.2.2) (h2 : M'.2.1 q.2.2 = M.2.1 q.2.2) (h3 : M'.2.2 q.2.2 = M.2.2 q.2.2) (h4 : ∀ j, Z' q.2.2 j = Z q.2.2 j) : ceZ ρ cA M' Z' q = ceZ ρ cA M Z q := by
  have hz : Z' q.2.2 = Z q.2.2 := funext h4
  unfold ceZ fvsZ fvZ fv aCZ aC
  rw [h1, h2, h3, hz]
theorem fvsZ_set {t k j : Nat} {v : Value} (hv : fvZ ρ M' Z' t k j = v) (ho : ∀ i, i ≠ j → fvZ ρ M' Z' t k i = fvZ ρ M Z t k i) : (fvsZ ρ M Z t k).set j v = fvsZ ρ M' Z' t k := by
  apply List.ext_getElem?
  intro i
  unfold fvsZ
  by_cases hij : j = i
  · subst hij
    by_cases hl : j < clN t
    · rw [List.getElem?_set_self (by simpa using hl), List.getElem?_map, List.getElem?_range hl, ← hv]; rfl
    · rw [List.getElem?_eq_none (by simp; omega), List.getElem?_eq_none (by simp; omega)]
  · rw [List.getElem?_set_ne hij, List.getElem?_map, List.getElem?_map]
    cases hr : (List.range (clN t))[i]? with
    | none => rfl
    | some x =>
      have hx : x = i := by
        have hl := (List.getElem?_eq_some_iff.mp hr).1
        rw [List.length_range] at hl
        rw [List.getElem?_range hl] at hr
        exact (Option.some.inj hr).symm
      subst hx
      show some _ = some _
      rw [ho x (fun z => hij z.symm)]
theorem n_putF {t k j index : Nat} {v : Value} (cx : CX own cc nL p s m args meth c dC dI cA ρ B) (sx : SX dC dI cA ρ B s n M Z H locs) (hk : k < n) (ht : t < 13) (hW : WF[k]? = some (t, 0, k)) (hj : j < clN t) (hcls : clR t = own) (hv : v = .ref (ρ (fp t j k).2.2)) (hf2 : fk t j = 2) (hlink : Cond.fieldLink own index own ((clT t) j).2.1 ((clT t) j).2.2.1 ∈ lw_g) (hdecl : ((clT t) j).1 = own) (hfin : ((clT t) j).2.2.2 = true) (hfit : ∀ a, fits (clY t j) (.ref a) = true) (hnar : ∀ a, narrow (clY t j) (.ref a) = .ref a) (hdg : decode cc pc = .ok (.putfield index, 3))
    (kk : ∀ H1 locs1, SX dC dI cA ρ B s n M (uZ Z k j) H1 locs1 → W p l e R s m args below meth c H1 locs1 cells slots Q (F0 m (pc + 3) ls rest)) : W p l e R s m args below meth c H locs cells slots Q (F0 m pc ls (v :: .ref (B + k) :: rest)) := by
  obtain ⟨⟨hx, hb, hml, hown, hts⟩, -, -, hin, hK, -, -, hO, hρ, -⟩ := cx
  obtain ⟨hP, hz, hS⟩ := sx
  subst hv
  have h279 := (WF_at hW).2
  have hq : (WL n)[k]? = some (t, 0, k) := (WL_at hk).trans hW
  have he := wsZ_at (ρ := ρ) (cA := cA) (M := M) (Z := Z) hq
  have ce1 : ceZ ρ cA M Z (t, 0, k) = .inr (t, fvsZ ρ M Z t k) := by unfold ceZ; rw [if_pos ht]
  rw [ce1] at he
  have he : (wsZ ρ cA M Z (WL n))[k]? = some (ρ k, .inr (t, fvsZ ρ M Z t k)) := he
  have eset : (wsZ ρ cA M Z (WL n)).set k (ρ k, .inr (t, (fvsZ ρ M Z t k).set j (.ref (ρ (fp t j k).2.2)))) = wsZ ρ cA M (uZ Z k j) (WL n) := by
    refine wsZ_set (q := (t, 0, k)) hq ?_ (fun q' hq' => ceZ_cg rfl rfl rfl (fun i => by unfold uZ; rw [if_neg (fun z => hq' z.1)]))
    unfold ceZ
    rw [if_pos ht]
    show Sum.inr (t, fvsZ ρ M (uZ Z k j) t k) = _
    rw [fvsZ_set (M' := M) (Z' := uZ Z k j)]
    · unfold fvZ uZ fv; rw [if_neg (by simp), hf2]; rfl
    · intro i hi
      unfold fvZ uZ
      rw [if_neg (c := k = k ∧ i = j) (fun z => hi z.2)]
  rw [← hρ k (by omega)]
  have hap := va_apart (own := own) hts (cl_ing t ht) (clY t) (cl_ty t ht) (cl_nm t ht) hK (cl_at t ht)
  obtain ⟨r, h1, cell, q1, q2, q3, q4⟩ := hP k _ he
  have hr : r = (clR t, clT t, clN t) := Option.some.inj (h1.symm.trans (cl_at t ht))
  subst hr
  obtain ⟨hSl, hfc, kC, hkC, hkind⟩ := hK.1 t _ (cl_at t ht)
  obtain ⟨cf, kf, fi, f, hi, hsl⟩ := hSl j hj
  have hlay := hts _ (cl_ing t ht _ (u_in_lay hj))
  unfold u_lay at hlay
  rw [if_pos hfin] at hlay
  have hst := (u_facts hfc hkC (u_lays hts (cl_ing t ht) hj) hi).1
  have hcf : m.cls = cf := by
    obtain ⟨_, _, c', _, _, _, -, -, hf', -, -, -, hown2, -⟩ := Cond.laysFinal_spec hlay
    have e1 : c' = cf := by have := hi.symm.trans hf'; simp at this; exact this.1.symm
    rw [hdecl] at hown2
    rw [← e1]; exact Option.some.inj (hown.symm.trans hown2)
  have h6 := u_fits hfc hkC hkind (Or.inr hlay) hi (cl_ty t ht j hj) (hnar (ρ (fp t j k).2.2)) (hfit _)
  have hi' : s.fieldFound? own ((clT t) j).2.1 ((clT t) j).2.2.1 = some (cf, kf, fi, f) := by rw [← hdecl]; exact hi
  refine W.putFinK hx hb hown (hts _ hlink) hi' hst hcf hin (by rw [q2]; exact h6) q1 q3 (by rw [hsl]; exact k2_hasslot (q4 j hj)) (g := F0 m pc ls (.ref (ρ (fp t j k).2.2) :: .ref (ρ k) :: rest)) rfl rfl hdg fun H' e1 e2 e3 => ?_
  rw [hsl] at e1 ⊢
  have hl : j < (fvsZ ρ M Z t k).length := by simp [fvsZ]; exact hj
  have hP1 : va_P (dC, dI) vwCl ((wsZ ρ cA M Z (WL n)).set k (ρ k, .inr (t, (fvsZ ρ M Z t k).set j (.ref (ρ (fp t j k).2.2))))) H' := hP.set (D_wsZ hρ) he ⟨_, cl_at t ht, t_OB.to (V := updV (vp_V (fvsZ ρ M Z t k)) j (.ref (ρ (fp t j k).2.2))) ⟨_, e1, q2, q3, t_set q4 hap hj _⟩ (fun i _ => vp_updV_set hl _ i)⟩ e3
  rw [eset] at hP1
  exact kk H' _ ⟨hP1, by rw [e2]; exact hz, hS.put e2 e3 ((D_wsZ hρ).2 k _ he)⟩
end NWORLD
