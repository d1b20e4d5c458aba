/-! ABSTRACT VALUES, MEMORY, CELLS. A reference is (tag, length, index): tags 0..12 objects by class number, 20 int[], 21 char[], 22 boolean[], 23 long[], 24 State[], 30.. int[][] (rows of rowL), 40 String constant, 41 its bytes, 50 an opaque reference. -/
abbrev Ref3 : Type := Nat × Nat × Nat
abbrev AV : Type := Int32 ⊕ (Int64 ⊕ Ref3)
abbrev Mem : Type := (Nat → Nat → Int32) × (Nat → Nat → Int64) × (Nat → Nat → Nat)
abbrev Res : Type := Option (Option AV × Mem)
abbrev vI (x : Int32) : AV := .inl x
abbrev vJ (x : Int64) : AV := .inr (.inl x)
abbrev vR (t n k : Nat) : AV := .inr (.inr (t, n, k))
def cv (ρ : Nat → Nat) : AV → Value
  | .inl x => .int x
  | .inr (.inl x) => .long x
  | .inr (.inr q) => match Nat.beq q.1 50 && (Nat.beq q.2.2 30000 && Nat.beq (ρ 30001) 0) with
    | true => .null
    | false => .ref (ρ q.2.2)
/-- only the reference (50, _, 30000), of which nobody knows whether it is null, may be null -/
theorem cv_t {ρ : Nat → Nat} {q : Ref3} (h : q.1 ≠ 50) : cv ρ (.inr (.inr q)) = .ref (ρ q.2.2) := by
  have hb : Nat.beq q.1 50 = false := by
    cases hb : Nat.beq q.1 50 with
    | false => rfl
    | true => exact absurd (Nat.eq_of_beq_eq_true hb) h
  show (match Nat.beq q.1 50 && (Nat.beq q.2.2 30000 && Nat.beq (ρ 30001) 0) with
    | true => Value.null
    | false => .ref (ρ q.2.2)) = _
  rw [hb]; rfl
theorem cv_k {ρ : Nat → Nat} {q : Ref3} (h : q.2.2 < 10000) : cv ρ (.inr (.inr q)) = .ref (ρ q.2.2) := by
  have hb : Nat.beq q.2.2 30000 = false := by
    cases hb : Nat.beq q.2.2 30000 with
    | false => rfl
    | true => exact absurd (Nat.eq_of_beq_eq_true hb) (by omega)
  show (match Nat.beq q.1 50 && (Nat.beq q.2.2 30000 && Nat.beq (ρ 30001) 0) with
    | true => Value.null
    | false => .ref (ρ q.2.2)) = _
  rw [hb]
  cases Nat.beq q.1 50 <;> rfl
theorem cv_vk {ρ : Nat → Nat} {t n k : Nat} (h : k < 10000) : cv ρ (vR t n k) = .ref (ρ k) := cv_k (q := (t, n, k)) h
theorem cv_rn (ρ : Nat → Nat) (q : Ref3) : cv ρ (.inr (.inr q)) = .null ∨ cv ρ (.inr (.inr q)) = .ref (ρ q.2.2) := by
  show (match Nat.beq q.1 50 && (Nat.beq q.2.2 30000 && Nat.beq (ρ 30001) 0) with
    | true => Value.null
    | false => .ref (ρ q.2.2)) = .null ∨ (match Nat.beq q.1 50 && (Nat.beq q.2.2 30000 && Nat.beq (ρ 30001) 0) with
    | true => Value.null
    | false => .ref (ρ q.2.2)) = _
  cases Nat.beq q.1 50 && (Nat.beq q.2.2 30000 && Nat.beq (ρ 30001) 0) with
  | true => exact Or.inl rfl
  | false => exact Or.inr rfl
theorem cv_nr (ρ : Nat → Nat) (q : Ref3) : cv ρ (.inr (.inr q)) = .null ∨ ∃ x : Nat, cv ρ (.inr (.inr q)) = .ref x := (cv_rn ρ q).imp id (fun h => ⟨_, h⟩)
theorem cv_cat (ρ : Nat → Nat) (q : Ref3) : (cv ρ (.inr (.inr q))).category = 1 := by
  rcases cv_rn ρ q with h | h <;> (rw [h]; rfl)
def sI (M : Mem) (k j : Nat) (v : Int32) : Mem := (fun a b => if a = k ∧ b = j then v else M.1 a b, M.2)
def sJ (M : Mem) (k j : Nat) (v : Int64) : Mem := (M.1, fun a b => if a = k ∧ b = j then v else M.2.1 a b, M.2.2)
def sR (M : Mem) (k j : Nat) (v : Nat) : Mem := (M.1, M.2.1, fun a b => if a = k ∧ b = j then v else M.2.2 a b)
def cpI (M : Mem) (a sp b dp n : Nat) : Mem := (fun k j => if k = b then va_cpy (M.1 a) (M.1 b) sp dp n j else M.1 k j, M.2)
def cpJ (M : Mem) (a sp b dp n : Nat) : Mem := (M.1, fun k j => if k = b then va_cpy (M.2.1 a) (M.2.1 b) sp dp n j else M.2.1 k j, M.2.2)
/-- how many fields a class has -/
def clN : Nat → Nat
  | 0 => 7
  | 1 => 4
  | 2 => 6
  | 3 => 15
  | 4 => 2
  | 5 => 4
  | 6 => 11
  | 7 => 9
  | 8 => 8
  | 9 => 18
  | 10 => 4
  | 11 => 14
  | 12 => 40
  | _ => 0
/-- kinds of fields: 0 int, 1 long, 2 a fixed reference, 3 a reference that changes, 4 boolean -/
def fk : Nat → Nat → Nat
  | 0, 1 => 2
  | 0, 2 => 2
  | 0, 3 => 2
  | 0, 4 => 2
  | 0, 5 => 2
  | 0, 6 => 2
  | 1, 0 => 4
  | 1, 1 => 2
  | 1, 3 => 2
  | 2, 0 => 2
  | 2, 1 => 2
  | 2, 4 => 3
  | 2, 5 => 4
  | 3, 0 => 2
  | 3, 1 => 2
  | 3, 2 => 2
  | 3, 3 => 2
  | 3, 4 => 2
  | 3, 6 => 2
  | 3, 8 => 2
  | 3, 9 => 2
  | 3, 10 => 2
  | 3, 11 => 2
  | 3, 12 => 2
  | 3, 13 => 2
  | 3, 14 => 2
  | 4, 1 => 2
  | 5, 0 => 2
  | 5, 1 => 2
  | 5, 2 => 2
  | 6, 1 => 2
  | 6, 2 => 2
  | 6, 3 => 2
  | 6, 4 => 2
  | 6, 5 => 2
  | 6, 6 => 2
  | 6, 10 => 2
  | 7, 4 => 2
  | 7, 8 => 1
  | 8, 5 => 2
  | 8, 6 => 2
  | 8, 7 => 1
  | 9, 0 => 2
  | 9, 1 => 2
  | 9, 2 => 2
  | 9, 3 => 2
  | 9, 4 => 2
  | 9, 5 => 2
  | 9, 6 => 2
  | 9, 7 => 2
  | 9, 8 => 2
  | 9, 9 => 2
  | 9, 10 => 2
  | 9, 11 => 2
  | 9, 13 => 2
  | 9, 16 => 2
  | 9, 17 => 2
  | 10, 0 => 2
  | 10, 1 => 2
  | 10, 2 => 2
  | 10, 3 => 4
  | 11, 0 => 2
  | 11, 1 => 2
  | 11, 2 => 2
  | 11, 3 => 2
  | 11, 4 => 2
  | 11, 5 => 2
  | 11, 6 => 2
  | 11, 7 => 2
  | 11, 9 => 2
  | 11, 11 => 2
  | 11, 12 => 2
  | 11, 13 => 2
  | 12, 1 => 2
  | 12, 4 => 2
  | 12, 5 => 2
  | 12, 6 => 2
  | 12, 9 => 2
  | 12, 10 => 2
  | 12, 11 => 2
  | 12, 12 => 2
  | 12, 14 => 2
  | 12, 15 => 2
  | 12, 16 => 2
  | 12, 17 => 2
  | 12, 22 => 2
  | 12, 23 => 2
  | 12, 24 => 2
  | 12, 25 => 2
  | 12, 27 => 2
  | 12, 28 => 2
  | 12, 29 => 2
  | 12, 30 => 2
  | 12, 33 => 2
  | 12, 34 => 2
  | 12, 35 => 2
  | 12, 38 => 2
  | 12, 39 => 1
  | _, _ => 0
/-- where the fixed references of the object at k lead -/
def fp : Nat → Nat → Nat → Ref3
  | 0, 1, _ => (9, 0, 3)
  | 0, 2, _ => (6, 0, 60)
  | 0, 3, k => (20, 64, k + 1)
  | 0, 4, k => (20, 6, k + 2)
  | 0, 5, k => (20, 6, k + 3)
  | 0, 6, k => (20, 21, k + 4)
  | 1, 1, k => (20, 1000, k + 1)
  | 1, 3, k => (20, 32, k + 2)
  | 2, 0, _ => (7, 0, 1)
  | 2, 1, k => (20, 48, k + 1)
  | 3, 0, k => (20, 6, k + 1)
  | 3, 1, k => (20, 6, k + 2)
  | 3, 2, _ => (9, 0, 3)
  | 3, 3, _ => (6, 0, 60)
  | 3, 4, k => (20, 4, k + 3)
  | 3, 6, k => (20, 6, k + 4)
  | 3, 8, k => (30, 6, k + 5)
  | 3, 9, k => (20, 4, k + 12)
  | 3, 10, k => (20, 7, k + 13)
  | 3, 11, k => (31, 6, k + 14)
  | 3, 12, k => (32, 7, k + 21)
  | 3, 13, k => (23, 21, k + 29)
  | 3, 14, k => (23, 21, k + 30)
  | 4, 1, k => (23, 6, k + 1)
  | 5, 0, k => (20, 40, k + 1)
  | 5, 1, k => (20, 40, k + 2)
  | 5, 2, k => (20, 40, k + 3)
  | 6, 1, k => (20, 6, k + 1)
  | 6, 2, k => (20, 6, k + 2)
  | 6, 3, k => (20, 6, k + 3)
  | 6, 4, k => (20, 6, k + 4)
  | 6, 5, k => (20, 6, k + 5)
  | 6, 6, k => (20, 6, k + 6)
  | 6, 10, _ => (9, 0, 3)
  | 7, 4, k => (21, 1000, k + 1)
  | 8, 5, _ => (9, 0, 3)
  | 8, 6, _ => (6, 0, 106)
  | 9, 0, k => (4, 0, k + 1)
  | 9, 1, k => (4, 0, k + 3)
  | 9, 2, k => (4, 0, k + 5)
  | 9, 3, k => (20, 6, k + 7)
  | 9, 4, k => (20, 6, k + 8)
  | 9, 5, k => (20, 6, k + 9)
  | 9, 6, k => (20, 6, k + 10)
  | 9, 7, k => (20, 6, k + 11)
  | 9, 8, k => (20, 6, k + 12)
  | 9, 9, k => (20, 6, k + 13)
  | 9, 10, k => (20, 6, k + 14)
  | 9, 11, k => (20, 6, k + 15)
  | 9, 13, k => (20, 14, k + 16)
  | 9, 16, k => (1, 0, k + 17)
  | 9, 17, k => (1, 0, k + 20)
  | 10, 0, _ => (7, 0, 1)
  | 10, 1, _ => (9, 0, 26)
  | 10, 2, _ => (2, 0, 50)
  | 11, 0, _ => (7, 0, 1)
  | 11, 1, _ => (9, 0, 3)
  | 11, 2, _ => (9, 0, 26)
  | 11, 3, _ => (10, 0, 49)
  | 11, 4, _ => (5, 0, 52)
  | 11, 5, _ => (5, 0, 56)
  | 11, 6, _ => (6, 0, 60)
  | 11, 7, _ => (24, 16, 67)
  | 11, 9, _ => (24, 4, 68)
  | 11, 11, _ => (3, 0, 69)
  | 11, 12, _ => (0, 0, 100)
  | 11, 13, _ => (8, 0, 105)
  | 12, 1, k => (20, 1000, k + 1)
  | 12, 4, k => (20, 1002, k + 2)
  | 12, 5, k => (20, 1002, k + 3)
  | 12, 6, k => (23, 1002, k + 4)
  | 12, 9, k => (23, 33, k + 5)
  | 12, 10, k => (20, 220, k + 6)
  | 12, 11, k => (20, 2200, k + 7)
  | 12, 12, k => (20, 2200, k + 8)
  | 12, 14, k => (23, 18, k + 9)
  | 12, 15, k => (23, 18, k + 10)
  | 12, 16, k => (20, 18, k + 11)
  | 12, 17, k => (20, 18, k + 12)
  | 12, 22, k => (20, 250, k + 13)
  | 12, 23, k => (20, 5, k + 14)
  | 12, 24, k => (20, 1100, k + 15)
  | 12, 25, k => (20, 1127, k + 16)
  | 12, 27, k => (22, 4, k + 17)
  | 12, 28, k => (20, 4, k + 18)
  | 12, 29, k => (20, 4, k + 19)
  | 12, 30, k => (20, 4, k + 20)
  | 12, 33, k => (20, 36, k + 21)
  | 12, 34, k => (20, 6, k + 22)
  | 12, 35, k => (20, 6, k + 23)
  | 12, 38, k => (20, 21, k + 24)
  | _, _, _ => (0, 0, 0)
/-- what a changing reference is of -/
def fm : Nat → Nat → Nat × Nat
  | 2, 4 => (1, 0)
  | _, _ => (0, 0)
def rowL : Nat → Nat
  | 30 => 16
  | 31 => 6
  | 32 => 64
  | _ => 0
def clR : Nat → String
  | 0 => RX0
  | 1 => RX1
  | 2 => RX2
  | 3 => RX3
  | 4 => RX4
  | 5 => RX5
  | 6 => RX6
  | 7 => RX7
  | 8 => RX8
  | 9 => RX9
  | 10 => RX10
  | 11 => RX11
  | 12 => RX12
  | _ => ""
def clT : Nat → u_T
  | 0 => TX0
  | 1 => TX1
  | 2 => TX2
  | 3 => TX3
  | 4 => TX4
  | 5 => TX5
  | 6 => TX6
  | 7 => TX7
  | 8 => TX8
  | 9 => TX9
  | 10 => TX10
  | 11 => TX11
  | 12 => TX12
  | _ => fun _ => ("", "", "", false)
def clY : Nat → Nat → FieldType
  | 0 => tyX0
  | 1 => tyX1
  | 2 => tyX2
  | 3 => tyX3
  | 4 => tyX4
  | 5 => tyX5
  | 6 => tyX6
  | 7 => tyX7
  | 8 => tyX8
  | 9 => tyX9
  | 10 => tyX10
  | 11 => tyX11
  | 12 => tyX12
  | _ => fun _ => .int
theorem cl_at : ∀ t, t < 13 → vwCl[t]? = some (clR t, clT t, clN t)
  | 0, _ => rfl
  | 1, _ => rfl
  | 2, _ => rfl
  | 3, _ => rfl
  | 4, _ => rfl
  | 5, _ => rfl
  | 6, _ => rfl
  | 7, _ => rfl
  | 8, _ => rfl
  | 9, _ => rfl
  | 10, _ => rfl
  | 11, _ => rfl
  | 12, _ => rfl
  | t + 13, h => absurd h (by omega)
theorem cl_in : ∀ t, t < 13 → ∀ w ∈ u_ws (clR t) (clT t) (clN t), w ∈ lw_tbl
  | 0, _ => inX0
  | 1, _ => inX1
  | 2, _ => inX2
  | 3, _ => inX3
  | 4, _ => inX4
  | 5, _ => inX5
  | 6, _ => inX6
  | 7, _ => inX7
  | 8, _ => inX8
  | 9, _ => inX9
  | 10, _ => inX10
  | 11, _ => inX11
  | 12, _ => inX12
  | t + 13, h => absurd h (by omega)
theorem cl_ty : ∀ t, t < 13 → ∀ k, k < clN t → parseFieldDescriptor ((clT t) k).2.2.1 = some (clY t k)
  | 0, _ => tyX0_ok
  | 1, _ => tyX1_ok
  | 2, _ => tyX2_ok
  | 3, _ => tyX3_ok
  | 4, _ => tyX4_ok
  | 5, _ => tyX5_ok
  | 6, _ => tyX6_ok
  | 7, _ => tyX7_ok
  | 8, _ => tyX8_ok
  | 9, _ => tyX9_ok
  | 10, _ => tyX10_ok
  | 11, _ => tyX11_ok
  | 12, _ => tyX12_ok
  | t + 13, h => absurd h (by omega)
theorem cl_nm : ∀ t, t < 13 → ∀ a, a < clN t → ∀ b, b < clN t → a ≠ b → ((clT t) a).2.1 ≠ ((clT t) b).2.1
  | 0, _ => nmX0
  | 1, _ => nmX1
  | 2, _ => nmX2
  | 3, _ => nmX3
  | 4, _ => nmX4
  | 5, _ => nmX5
  | 6, _ => nmX6
  | 7, _ => nmX7
  | 8, _ => nmX8
  | 9, _ => nmX9
  | 10, _ => nmX10
  | 11, _ => nmX11
  | 12, _ => nmX12
  | t + 13, h => absurd h (by omega)
def fv (ρ : Nat → Nat) (M : Mem) (t k j : Nat) : Value :=
  if fk t j = 1 then .long (M.2.1 k j) else if fk t j = 2 then .ref (ρ (fp t j k).2.2) else if fk t j = 3 then .ref (ρ (M.2.2 k j)) else .int (M.1 k j)
def fvs (ρ : Nat → Nat) (M : Mem) (t k : Nat) : List Value := (List.range (clN t)).map (fv ρ M t k)
def aC (ρ : Nat → Nat) (M : Mem) (q : Ref3) : vp_A :=
  (q.2.1, if q.1 = 23 then .inr (.inl (M.2.1 q.2.2)) else if q.1 = 24 then .inr (.inr (.inr (.inr (fun j => some (ρ (M.2.2 q.2.2 j)))))) else if 30 ≤ q.1 then .inr (.inr (.inr (.inr (fun j => some (ρ (q.2.2 + 1 + j)))))) else .inl (M.1 q.2.2))
def aT (t : Nat) : Nat := if 30 ≤ t then 25 else t
def ce (ρ : Nat → Nat) (cA : Nat → ClassId) (M : Mem) (q : Ref3) : va_E := if q.1 < 13 then .inr (q.1, fvs ρ M q.1 q.2.2) else .inl (cA (aT q.1), aC ρ M q)
def wsOf (ρ : Nat → Nat) (cA : Nat → ClassId) (M : Mem) (w : List Ref3) : va_W := w.map (fun q => (ρ q.2.2, ce ρ cA M q))
def tysOf (cA : Nat → ClassId) : List (ClassId × FieldType) := [(cA 20, .int), (cA 21, .char), (cA 22, .boolean), (cA 23, .long), (cA 24, .object "IceParliament$State"), (cA 25, .array .int)]
/-- the world is closed: fixed references lead into it -/
def Clo (w : List Ref3) : Prop := (∀ q ∈ w, q.1 < 13 → ∀ j, j < clN q.1 → fk q.1 j = 2 → fp q.1 j q.2.2 ∈ w) ∧ ∀ q ∈ w, 30 ≤ q.1 → ∀ j, j < q.2.1 → (20, rowL q.1, q.2.2 + 1 + j) ∈ w
/-- the changing references lead into it -/
def MOK (w : List Ref3) (M : Mem) : Prop := (∀ q ∈ w, q.1 < 13 → ∀ j, j < clN q.1 → fk q.1 j = 3 → ((fm q.1 j).1, (fm q.1 j).2, M.2.2 q.2.2 j) ∈ w) ∧ ∀ q ∈ w, q.1 = 24 → ∀ j, j < q.2.1 → ((6, 0, M.2.2 q.2.2 j) : Ref3) ∈ w
theorem wsOf_at {ρ : Nat → Nat} {cA : Nat → ClassId} {M : Mem} {w : List Ref3} {p : Nat} {q : Ref3} (h : w[p]? = some q) : (wsOf ρ cA M w)[p]? = some (ρ q.2.2, ce ρ cA M q) := by
  simp [wsOf, h]
theorem va_D_wsOf {A : Nat → Prop} {ρ : Nat → Nat} {cA : Nat → ClassId} {M M' : Mem} {w : List Ref3} (h : va_D A (wsOf ρ cA M w)) : va_D A (wsOf ρ cA M' w) := by
  have key : ∀ (i : Nat) (x : Nat × va_E), (wsOf ρ cA M' w)[i]? = some x → ∃ y, (wsOf ρ cA M w)[i]? = some y ∧ y.1 = x.1 := by
    intro i x hx
    simp only [wsOf, List.getElem?_map] at hx ⊢
    cases hq : w[i]? with
    | none => rw [hq] at hx; cases hx
    | some q => rw [hq] at hx; cases hx; exact ⟨_, rfl, rfl⟩
  refine ⟨fun i j x y hi hj e => ?_, fun i x hi => ?_⟩
  · obtain ⟨x', h1, h2⟩ := key i x hi
    obtain ⟨y', h3, h4⟩ := key j y hj
    exact h.1 i j x' y' h1 h3 (h2.trans (e.trans h4.symm))
  · obtain ⟨x', h1, h2⟩ := key i x hi
    rw [← h2]; exact h.2 i x' h1
theorem wsOf_apart {A : Nat → Prop} {ρ : Nat → Nat} {cA : Nat → ClassId} {M : Mem} {w : List Ref3} (h : va_D A (wsOf ρ cA M w)) {i j : Nat} {a b : Ref3} (hi : w[i]? = some a) (hj : w[j]? = some b) (e : a.2.2 = b.2.2) : i = j :=
  h.1 i j _ _ (wsOf_at hi) (wsOf_at hj) (by rw [e])
/-- one cell is written -/
theorem wsOf_set {A : Nat → Prop} {ρ : Nat → Nat} {cA : Nat → ClassId} {M M' : Mem} {w : List Ref3} {p : Nat} {q : Ref3} {e : va_E} (hD : va_D A (wsOf ρ cA M w)) (hp : w[p]? = some q) (he : ce ρ cA M' q = e) (ho : ∀ q' : Ref3, q'.2.2 ≠ q.2.2 → ce ρ cA M' q' = ce ρ cA M q') : (wsOf ρ cA M w).set p (ρ q.2.2, e) = wsOf ρ cA M' w := by
  apply List.ext_getElem?
  intro i
  have hl : p < w.length := (List.getElem?_eq_some_iff.mp hp).1
  by_cases hip : p = i
  · subst hip
    rw [List.getElem?_set_self (by simpa [wsOf] using hl), wsOf_at hp, he]
  · rw [List.getElem?_set_ne hip]
    simp only [wsOf, List.getElem?_map]
    cases hq : w[i]? with
    | none => rfl
    | some q' =>
      have : q'.2.2 ≠ q.2.2 := fun z => hip (wsOf_apart hD hq hp z).symm
      simp [ho q' this]
theorem ce_congr {ρ : Nat → Nat} {cA : Nat → ClassId} {M M' : Mem} {q : Ref3} (e1 : M'.1 q.2.2 = M.1 q.2.2) (e2 : M'.2.1 q.2.2 = M.2.1 q.2.2) (e3 : M'.2.2 q.2.2 = M.2.2 q.2.2) : ce ρ cA M' q = ce ρ cA M q := by
  have h : fv ρ M' q.1 q.2.2 = fv ρ M q.1 q.2.2 := by funext j; simp only [fv, e1, e2, e3]
  simp only [ce, fvs, aC, h, e1, e2, e3]
theorem ce_sI_ne {ρ : Nat → Nat} {cA : Nat → ClassId} {M : Mem} {k j : Nat} {v : Int32} {q : Ref3} (h : q.2.2 ≠ k) : ce ρ cA (sI M k j v) q = ce ρ cA M q :=
  ce_congr (by funext b; simp [sI, h]) rfl rfl
theorem ce_sJ_ne {ρ : Nat → Nat} {cA : Nat → ClassId} {M : Mem} {k j : Nat} {v : Int64} {q : Ref3} (h : q.2.2 ≠ k) : ce ρ cA (sJ M k j v) q = ce ρ cA M q :=
  ce_congr rfl (by funext b; simp [sJ, h]) rfl
theorem ce_sR_ne {ρ : Nat → Nat} {cA : Nat → ClassId} {M : Mem} {k j : Nat} {v : Nat} {q : Ref3} (h : q.2.2 ≠ k) : ce ρ cA (sR M k j v) q = ce ρ cA M q :=
  ce_congr rfl rfl (by funext b; simp [sR, h])
theorem ce_cpI_ne {ρ : Nat → Nat} {cA : Nat → ClassId} {M : Mem} {a sp k dp n : Nat} {q : Ref3} (h : q.2.2 ≠ k) : ce ρ cA (cpI M a sp k dp n) q = ce ρ cA M q :=
  ce_congr (by funext b; simp [cpI, h]) rfl rfl
theorem ce_cpJ_ne {ρ : Nat → Nat} {cA : Nat → ClassId} {M : Mem} {a sp k dp n : Nat} {q : Ref3} (h : q.2.2 ≠ k) : ce ρ cA (cpJ M a sp k dp n) q = ce ρ cA M q :=
  ce_congr rfl (by funext b; simp [cpJ, h]) rfl
theorem fvs_at {ρ : Nat → Nat} {M : Mem} {t k j : Nat} (h : j < clN t) : (fvs ρ M t k)[j]? = some (fv ρ M t k j) := by
  simp [fvs, h]
theorem fvs_set {ρ : Nat → Nat} {M M' : Mem} {t k j : Nat} {v : Value} (hv : fv ρ M' t k j = v) (ho : ∀ i, i ≠ j → fv ρ M' t k i = fv ρ M t k i) : (fvs ρ M t k).set j v = fvs ρ M' t k := by
  apply List.ext_getElem?
  intro i
  by_cases hj : j = i
  · subst hj
    by_cases hl : j < clN t
    · rw [List.getElem?_set_self (by simpa [fvs] using hl), fvs_at hl, hv]
    · rw [List.getElem?_eq_none (by simp [fvs]; omega), List.getElem?_eq_none (by simp [fvs]; omega)]
  · rw [List.getElem?_set_ne hj]
    simp only [fvs, List.getElem?_map]
    cases hq : (List.range (clN t))[i]? with
    | none => rfl
    | some x =>
      have : x = i := by
        have h2 := (List.getElem?_eq_some_iff.mp hq)
        obtain ⟨h3, h4⟩ := h2
        simpa using h4.symm
      subst this
      simp [ho x (fun z => hj z.symm)]
theorem MOK_sI {w : List Ref3} {M : Mem} {k j : Nat} {v : Int32} (h : MOK w M) : MOK w (sI M k j v) := h
theorem MOK_sJ {w : List Ref3} {M : Mem} {k j : Nat} {v : Int64} (h : MOK w M) : MOK w (sJ M k j v) := h
theorem MOK_cpI {w : List Ref3} {M : Mem} {a sp k dp n : Nat} (h : MOK w M) : MOK w (cpI M a sp k dp n) := h
theorem MOK_cpJ {w : List Ref3} {M : Mem} {a sp k dp n : Nat} (h : MOK w M) : MOK w (cpJ M a sp k dp n) := h
theorem upd_row {M : Mem} {k j : Nat} {v : Int32} : (sI M k j v).1 k = upd (M.1 k) j v := by
  funext b; simp [sI, upd]
theorem updL_row {M : Mem} {k j : Nat} {v : Int64} : (sJ M k j v).2.1 k = vp_updL (M.2.1 k) j v := by
  funext b; simp [sJ, vp_updL]
theorem fp_t (x y k : Nat) : (fp x y k).1 ≠ 50 := by
  unfold fp
  split <;> exact Nat.ne_of_beq_eq_false rfl
theorem fm_t (x y : Nat) : (fm x y).1 ≠ 50 := by
  unfold fm
  split <;> exact Nat.ne_of_beq_eq_false rfl
