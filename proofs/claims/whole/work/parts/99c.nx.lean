/-! THE WORLD IN ITS MAKING: the object of the class itself -/
section NX
variable {M M' M4 : Mem} {Z Z' : Zs} {n n' x y : Nat} {js : List Nat}
def QX (js : List Nat) (x y n : Nat) (Z : Zs) : Prop := 0 < n ∧ (∀ a b, n ≤ a → Z a b = rfK a b) ∧ (∀ a, 1 ≤ a → a < n → a ≠ 67 → a ≠ 68 → ∀ b, Z a b = false) ∧ (∀ b ∈ js, Z 0 b = false) ∧ (∀ b, b < x → Z 67 b = false) ∧ ∀ b, b < y → Z 68 b = false
theorem QX.start (fz : Fz 0 M Z) : QX [] 0 0 1 Z := ⟨by omega, fun a b _ => (fz a (by omega) b).2.2, fun a h1 h2 => by omega, fun b hb => absurd hb (by simp), fun b hb => by omega, fun b hb => by omega⟩
theorem QX.fz (h : QX js x y n Z) (hm : Mz n M) : Fz n M Z := fun a ha b => ⟨(hm a ha b).1, (hm a ha b).2, h.2.1 a b ha⟩
theorem QX.q (h : QX js x y n Z) (hn : n = 67 ∨ n = 68) : QX js x y (n + 1) Z := ⟨by omega, fun a b ha => h.2.1 a b (by omega), fun a h1 h2 h3 h4 => h.2.2.1 a h1 (by omega) h3 h4, h.2.2.2⟩
theorem QX.put {j : Nat} (h : QX js x y n Z) (e : Z' = uZ Z 0 j) : QX (j :: js) x y n Z' := by
  subst e
  have h0 := h.1
  refine ⟨h0, fun a b ha => ?_, fun a h1 h2 h3 h4 b => ?_, fun b hb => ?_, fun b hb => ?_, fun b hb => ?_⟩
  · unfold uZ; rw [if_neg (by omega)]; exact h.2.1 a b ha
  · unfold uZ; rw [if_neg (by omega)]; exact h.2.2.1 a h1 h2 h3 h4 b
  · unfold uZ
    by_cases y : b = j
    · rw [if_pos ⟨rfl, y⟩]
    · rw [if_neg (fun z => y z.2)]
      rcases List.mem_cons.mp hb with z | z
      · exact absurd z y
      · exact h.2.2.2.1 b z
  · unfold uZ; rw [if_neg (by omega)]; exact h.2.2.2.2.1 b hb
  · unfold uZ; rw [if_neg (by omega)]; exact h.2.2.2.2.2 b hb
theorem QX.sub (h : QX js x y n Z) (hp : PZ n n' Z Z') (hn : n ≤ n') (hx : (x = 0 ∨ 67 < n) ∧ (y = 0 ∨ 68 < n)) : QX js x y n' Z' := by
  have h0 := h.1
  refine ⟨by omega, fun a b ha => ?_, fun a h1 h2 h3 h4 b => ?_, fun b hb => ?_, fun b hb => ?_, fun b hb => ?_⟩
  · rw [hp.1 a b (by omega)]; exact h.2.1 a b (by omega)
  · by_cases y : a < n
    · rw [hp.1 a b (.inl y)]; exact h.2.2.1 a h1 y h3 h4 b
    · exact hp.2 a (by omega) h2 b
  · rw [hp.1 0 b (.inl h0)]; exact h.2.2.2.1 b hb
  · rw [hp.1 67 b (.inl (by omega))]; exact h.2.2.2.2.1 b hb
  · rw [hp.1 68 b (.inl (by omega))]; exact h.2.2.2.2.2 b hb
theorem QX.p67 (h : QX js x y n Z) (e : Z' = uZ Z 67 x) (hn : 67 < n) : QX js (x + 1) y n Z' := by
  subst e
  refine ⟨h.1, fun a b ha => ?_, fun a h1 h2 h3 h4 b => ?_, fun b hb => ?_, fun b hb => ?_, fun b hb => ?_⟩
  · unfold uZ; rw [if_neg (by omega)]; exact h.2.1 a b ha
  · unfold uZ; rw [if_neg (by omega)]; exact h.2.2.1 a h1 h2 h3 h4 b
  · unfold uZ; rw [if_neg (by omega)]; exact h.2.2.2.1 b hb
  · unfold uZ
    by_cases y : b = x
    · rw [if_pos ⟨rfl, y⟩]
    · rw [if_neg (fun z => y z.2)]; exact h.2.2.2.2.1 b (by omega)
  · unfold uZ; rw [if_neg (by omega)]; exact h.2.2.2.2.2 b hb
theorem QX.p68 (h : QX js x y n Z) (e : Z' = uZ Z 68 y) (hn : 68 < n) : QX js x (y + 1) n Z' := by
  subst e
  refine ⟨h.1, fun a b ha => ?_, fun a h1 h2 h3 h4 b => ?_, fun b hb => ?_, fun b hb => ?_, fun b hb => ?_⟩
  · unfold uZ; rw [if_neg (by omega)]; exact h.2.1 a b ha
  · unfold uZ; rw [if_neg (by omega)]; exact h.2.2.1 a h1 h2 h3 h4 b
  · unfold uZ; rw [if_neg (by omega)]; exact h.2.2.2.1 b hb
  · unfold uZ; rw [if_neg (by omega)]; exact h.2.2.2.2.1 b hb
  · unfold uZ
    by_cases z : b = y
    · rw [if_pos ⟨rfl, z⟩]
    · rw [if_neg (fun w => z w.2)]; exact h.2.2.2.2.2 b (by omega)
theorem QX.get {j : Nat} (h : QX js x y n Z) (hj : j ∈ js) : Z 0 j = false := h.2.2.2.1 j hj
theorem QX.yard (h : QX js x y n Z) (hn : 26 ≤ n) : ∀ a, 3 ≤ a → a ≤ 25 → ∀ b, Z a b = false := fun a h1 h2 b => h.2.2.1 a (by omega) (by omega) (by omega) (by omega) b
/-- memory behind the states -/
def LX (x y : Nat) (M4 M : Mem) : Prop := Fr (fun c _ => c = 67 ∨ c = 68 ∨ 105 ≤ c) M4 M ∧ (∀ b, b < x → M.2.2 67 b = 113 + 7 * b) ∧ ∀ b, b < y → M.2.2 68 b = 225 + 7 * b
theorem LX.start : LX 0 0 M M := ⟨Fr.rf, fun b hb => by omega, fun b hb => by omega⟩
theorem LX.st {lo hi : Nat} (h : LX x y M4 M) (hf : Fr (fun c _ => lo ≤ c ∧ c ≤ hi) M M') (hl : 105 ≤ lo) : LX x y M4 M' := ⟨h.1.tr (hf.up (fun c j z => by omega)), fun b hb => (hf.r (by omega)).trans (h.2.1 b hb), fun b hb => (hf.r (by omega)).trans (h.2.2 b hb)⟩
theorem LX.p67 {k : Nat} (h : LX x y M4 M) (hk : k = 113 + 7 * x) : LX (x + 1) y M4 (sR M 67 x k) := by
  refine ⟨h.1.sR (.inl rfl), fun b hb => ?_, fun b hb => ?_⟩
  · by_cases z : b = x
    · subst z; rw [sR_eq]; exact hk
    · rw [sR_ne (.inr z)]; exact h.2.1 b (by omega)
  · rw [sR_ne (.inl (by omega))]; exact h.2.2 b hb
theorem LX.p68 {k : Nat} (h : LX x y M4 M) (hk : k = 225 + 7 * y) : LX x (y + 1) M4 (sR M 68 y k) := by
  refine ⟨h.1.sR (.inr (.inl rfl)), fun b hb => ?_, fun b hb => ?_⟩
  · rw [sR_ne (.inl (by omega))]; exact h.2.1 b hb
  · by_cases z : b = y
    · subst z; rw [sR_eq]; exact hk
    · rw [sR_ne (.inr z)]; exact h.2.2 b (by omega)
theorem Mz.st {k lo hi : Nat} (h : Mz k M) (hf : Fr (fun c _ => lo ≤ c ∧ c ≤ hi) M M') (hk : k ≤ n) (hh : hi < n) : Mz n M' := fun a ha j => by
  rw [hf.i (by omega), hf.j (by omega)]; exact h a (by omega) j
theorem Mz.sR {k a b v : Nat} (h : Mz k M) : Mz k (sR M a b v) := h
variable {ρ : Nat → Nat} {cA : Nat → ClassId} {B : Nat} {dC : Nat → ClassId} {dI : Nat → Nat → Nat}
variable {p : Program} {l : Launch} {e : Env} {R : Room} {s : State} {m : MethodId} {args : Array Value} {below : List Frame} {meth : Method} {c : Code} {H : Heap} {locs : List Loc} {cells slots : Nat} {Q : State → Prop}
variable {own : String} {cc : ByteArray} {nL pc : Nat} {ls : Array Slot} {rest : List Value} {lv : Lv}
theorem n_ist {i : Nat} {k3 : Fin 4} {v : Int32} (cx : CX own cc nL p s m args meth c dC dI cA ρ B) (hl : lvOK ρ ls nL lv) (hi : (k3 : Nat) = i) (hn : i < nL) (hdg : decode cc pc = .ok (.istore_n k3, 1))
    (kk : ∀ ls', lvOK ρ ls' nL (stl lv i (vI v)) → W p l e R s m args below meth c H locs cells slots Q (F0 m (pc + 1) ls' rest)) : W p l e R s m args below meth c H locs cells slots Q (F0 m pc ls (.int v :: rest)) := by
  obtain ⟨l0, g1, g2⟩ := hl
  exact lv_istore_n cx.1.1 cx.1.2.1 hdg hi g1 hn rfl (fun ls' hl' => kk ls' (lvOK_stl (ls := ls) (v := vI v) g2 hl'))
theorem n_ild {i : Nat} {k3 : Fin 4} {v : Int32} (cx : CX own cc nL p s m args meth c dC dI cA ρ B) (hl : lvOK ρ ls nL lv) (hv : lvat lv i = some (vI v)) (hi : (k3 : Nat) = i) (hdg : decode cc pc = .ok (.iload_n k3, 1))
    (kk : W p l e R s m args below meth c H locs cells slots Q (F0 m (pc + 1) ls (.int v :: rest))) : W p l e R s m args below meth c H locs cells slots Q (F0 m pc ls rest) := by
  obtain ⟨l0, h1, h2⟩ := hl
  exact lv_iload_n cx.1.1 cx.1.2.1 hdg hi (h1.2.2 _ (h2 i _ hv)) kk
theorem n_iinc {i : Nat} {z : Int} {v v' : Int32} (cx : CX own cc nL p s m args meth c dC dI cA ρ B) (hl : lvOK ρ ls nL lv) (hv : lvat lv i = some (vI v)) (hv' : v + Int32.ofInt z = v') (hn : i < nL) (hdg : decode cc pc = .ok (.iinc i z, 3))
    (kk : ∀ ls', lvOK ρ ls' nL (stl lv i (vI v')) → W p l e R s m args below meth c H locs cells slots Q (F0 m (pc + 3) ls' rest)) : W p l e R s m args below meth c H locs cells slots Q (F0 m pc ls rest) := by
  obtain ⟨l0, g1, g2⟩ := hl
  obtain ⟨j, hj⟩ := List.getElem?_of_mem (g2 _ _ hv)
  exact lv_iinc (v := v') cx.1.1 cx.1.2.1 hdg g1 hj hv' hn rfl (fun ls' hl' => kk ls' (lvOK_stl (ls := ls) (v := vI v') g2 hl'))
theorem n_alen {k N : Nat} (cx : CX own cc nL p s m args meth c dC dI cA ρ B) (sx : SX dC dI cA ρ B s n M Z H locs) (hk : k < n) (hW : WF[k]? = some (24, N, k)) (hdg : decode cc pc = .ok (.arraylength, 1))
    (kk : W p l e R s m args below meth c H locs cells slots Q (F0 m (pc + 1) ls (.int (Int32.ofNat N) :: rest))) : W p l e R s m args below meth c H locs cells slots Q (F0 m pc ls (.ref (B + k) :: rest)) := by
  have h279 := (WF_at hW).2
  have hq : (WL n)[k]? = some (24, N, k) := (WL_at hk).trans hW
  have he : (wsZ ρ cA M Z (WL n))[k]? = some (ρ k, .inl (cA 24, N, .inr (.inr (.inr (.inr (fun j => if Z k j = true then none else some (ρ (M.2.2 k j)))))))) := wsZ_at (ρ := ρ) (cA := cA) (M := M) (Z := Z) hq
  rw [← cx.2.2.2.2.2.2.2.2.1 k (by omega)]
  exact va_alen (D := (dC, dI)) (cl := vwCl) (tys := tysOf cA) cx.1.1 cx.1.2.1 cx.2.2.2.2.1 sx.1 k 4 he rfl rfl hdg kk
end NX
