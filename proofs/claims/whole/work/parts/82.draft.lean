/-! YARD: a draft as a pure thing, and its lines -/
abbrev Dr : Type := (Nat → Nat) × (Nat → Nat → List Nat) × (Nat → Nat → Nat) × (Nat → Nat → Bool) × Nat × Nat × Bool × Nat × Option (List Nat) × Option (List Nat)
abbrev Dr.cs (D : Dr) : Nat → Nat := D.1
abbrev Dr.nm (D : Dr) : Nat → Nat → List Nat := D.2.1
abbrev Dr.g (D : Dr) : Nat → Nat → Nat := D.2.2.1
abbrev Dr.cl (D : Dr) : Nat → Nat → Bool := D.2.2.2.1
abbrev Dr.pr (D : Dr) : Nat := D.2.2.2.2.1
abbrev Dr.nw (D : Dr) : Nat := D.2.2.2.2.2.1
abbrev Dr.mt (D : Dr) : Bool := D.2.2.2.2.2.2.1
abbrev Dr.mv (D : Dr) : Nat := D.2.2.2.2.2.2.2.1
abbrev Dr.lm (D : Dr) : Option (List Nat) := D.2.2.2.2.2.2.2.2.1
abbrev Dr.lk (D : Dr) : Option (List Nat) := D.2.2.2.2.2.2.2.2.2
section DRAFT
variable {tp : Nat → Int32} {Tn d n : Nat} {M M' : Mem} {D : Dr}
/-- rows of spots, carvers, acts: by the class's cells of the draft -/
abbrev rwq (c q : Nat) : Prop := (c = 33 ∧ q = 0) ∨ (34 ≤ c ∧ c ≤ 35 ∧ q = 1) ∨ (36 ≤ c ∧ c ≤ 40 ∧ q = 2)
def Dr.new (D : Dr) (q : Nat) (w : List Nat) (val : Nat → Nat) : Dr := (fun x => if x = q then D.cs q + 1 else D.cs x, fun x i => if x = q ∧ i = D.cs q then w else D.nm x i, fun c i => if rwq c q ∧ i = D.cs q then val c else D.g c i, D.2.2.2)
def Dr.cla (D : Dr) (a b : Nat) : Dr := (D.cs, D.nm, D.g, fun x y => D.cl x y || (decide (x = a ∧ y = b) || decide (x = b ∧ y = a)), D.pr + 1, D.2.2.2.2.2)
def lwc (dflt : List Nat) (o : Option (List Nat)) : List Nat := o.getD dflt
def dM : List Nat := [10000, 10001, 10006]
def dK : List Nat := [10000]
/-- checks, one after the other: what is wrong, and at which token -/
def chk (tp : Nat → Int32) (Tn : Nat) : List (Nat × Nat) → Option Nat
  | [] => none
  | (e, n) :: l => if e = 0 then chk tp Tn l else some (flt tp Tn e n)
def wO (tp : Nat → Int32) (Tn n w : Nat) : Nat := if isWN tp Tn n (kwd w) then 0 else 1
def sO (tp : Nat → Int32) (Tn n c : Nat) : Nat := if isSN tp Tn n c then 0 else 1
noncomputable def newO (tp : Nat → Int32) (Tn : Nat) (D : Dr) (n : Nat) : Nat := if isNN tp Tn n = true then (@ite _ (∃ q i, q < 3 ∧ i < D.cs q ∧ D.nm q i = kW tp Tn n) (Classical.propDecidable _) 3 0) else 1
def sdO (tp : Nat → Int32) (Tn n : Nat) : Nat := if isWN tp Tn n (kwd 19) then 0 else if isWN tp Tn n (kwd 20) then 1 else 2
def kdO (tp : Nat → Int32) (Tn n : Nat) : Nat := if isWN tp Tn n (kwd 21) then 0 else if isWN tp Tn n (kwd 22) then 1 else if isWN tp Tn n (kwd 23) then 2 else if isWN tp Tn n (kwd 24) then 3 else 4
abbrev OD : Type := (Dr × Nat) ⊕ Nat
def fin1 (o : Option Nat) (D : Dr) (n : Nat) : OD := match o with | none => .inl (D, n) | some e => .inr e
def fullO (D : Dr) (q : Nat) : Nat := if 6 ≤ D.cs q then 5 else 0
noncomputable def pSpot (tp : Nat → Int32) (Tn : Nat) (D : Dr) (n : Nat) : OD := fin1 (chk tp Tn [(fullO D 0, n), (newO tp Tn D (n + 1), n + 1), (wO tp Tn (n + 2) 1, n + 2), (numO tp Tn (n + 3) 0 9, n + 3), (sO tp Tn (n + 4) 59, n + 4)]) (D.new 0 (kW tp Tn (n + 1)) (fun _ => kV tp Tn (n + 3))) (n + 5)
noncomputable def pCarv (tp : Nat → Int32) (Tn : Nat) (D : Dr) (n : Nat) : OD := fin1 (chk tp Tn [(fullO D 1, n), (newO tp Tn D (n + 1), n + 1), (if sdO tp Tn (n + 2) = 2 then 1 else 0, n + 2), (wO tp Tn (n + 3) 3, n + 3), (numO tp Tn (n + 4) 0 9, n + 4), (sO tp Tn (n + 5) 59, n + 5)]) (D.new 1 (kW tp Tn (n + 1)) (fun c => if c = 34 then sdO tp Tn (n + 2) else kV tp Tn (n + 4))) (n + 6)
noncomputable def pAct (tp : Nat → Int32) (Tn : Nat) (D : Dr) (n : Nat) : OD := fin1 (chk tp Tn [(fullO D 2, n), (newO tp Tn D (n + 1), n + 1), (if kdO tp Tn (n + 2) = 4 then 1 else 0, n + 2), (wO tp Tn (n + 3) 5, n + 3), (numO tp Tn (n + 4) 1 20, n + 4), (wO tp Tn (n + 5) 6, n + 5), (numO tp Tn (n + 6) 1 99, n + 6), (wO tp Tn (n + 7) 7, n + 7), (numO tp Tn (n + 8) 0 99, n + 8), (wO tp Tn (n + 9) 8, n + 9), (namO tp Tn (n + 10) (D.cs 1) (D.nm 1), n + 10), (sO tp Tn (n + 11) 59, n + 11)])
    (D.new 2 (kW tp Tn (n + 1)) (fun c => if c = 36 then kdO tp Tn (n + 2) else if c = 37 then kV tp Tn (n + 4) else if c = 38 then kV tp Tn (n + 6) else if c = 39 then kV tp Tn (n + 8) else fnd (D.nm 1) (kW tp Tn (n + 10)) (D.cs 1))) (n + 12)
noncomputable def pCla (tp : Nat → Int32) (Tn : Nat) (D : Dr) (n : Nat) : OD :=
  let a := fnd (D.nm 2) (kW tp Tn (n + 1)) (D.cs 2)
  let b := fnd (D.nm 2) (kW tp Tn (n + 2)) (D.cs 2)
  fin1 (chk tp Tn [(namO tp Tn (n + 1) (D.cs 2) (D.nm 2), n + 1), (namO tp Tn (n + 2) (D.cs 2) (D.nm 2), n + 2), (if b = a ∨ D.cl a b = true then 3 else 0, n + 2), (sO tp Tn (n + 3) 59, n + 3)]) (D.cla a b) (n + 4)
/-- warmths: how many stand here, or what is wrong -/
def pNts (tp : Nat → Int32) (Tn : Nat) : Nat → Nat → Nat → Nat ⊕ Nat
  | 0, _, _ => .inr 0
  | f + 1, n, k => if k ≠ 0 ∧ kS tp Tn (n + k) ≠ 2 then .inl k else if numO tp Tn (n + k) 0 9 ≠ 0 then .inr (flt tp Tn (numO tp Tn (n + k) 0 9) (n + k)) else if k = 14 then .inr (flt tp Tn 5 (n + k)) else pNts tp Tn f n (k + 1)
def pNi2 (tp : Nat → Int32) (Tn : Nat) (D : Dr) (n : Nat) (o : Nat ⊕ Nat) : OD := match o with | .inr e => .inr e | .inl k => fin1 (chk tp Tn [(sO tp Tn (n + 1 + k) 59, n + 1 + k)]) (D.cs, D.nm, fun c i => if c = 42 then kV tp Tn (n + 1 + i) else D.g c i, D.cl, D.pr, k, D.2.2.2.2.2.2) (n + 2 + k)
def pNi (tp : Nat → Int32) (Tn : Nat) (D : Dr) (n : Nat) : OD := if D.nw ≠ 0 then .inr (flt tp Tn 3 n) else pNi2 tp Tn D n (pNts tp Tn 16 (n + 1) 0)
def pMi (tp : Nat → Int32) (Tn : Nat) (D : Dr) (n : Nat) : OD := if D.mt = true then .inr (flt tp Tn 3 n) else fin1 (chk tp Tn [(numO tp Tn (n + 1) 0 10, n + 1), (sO tp Tn (n + 2) 59, n + 2)]) (D.cs, D.nm, D.g, D.cl, D.pr, D.nw, true, kV tp Tn (n + 1), D.lm, D.lk) (n + 3)
/-- a law's end, if it has one (it always has) -/
noncomputable def lwO (tp : Nat → Int32) (Tn : Nat) (ml : Bool) (n : Nat) : (Nat × List Nat) ⊕ Nat := @dite _ (∃ o, Rch tp Tn ml (.inl (0, n, [], [])) (.inr o)) (Classical.propDecidable _) (fun h => Classical.choose h) (fun _ => .inr 0)
theorem lwO_eq {ml : Bool} {o : (Nat × List Nat) ⊕ Nat} (h : Rch tp Tn ml (.inl (0, n, [], [])) (.inr o)) : lwO tp Tn ml n = o := by
  unfold lwO
  have hx : ∃ o, Rch tp Tn ml (.inl (0, n, [], [])) (.inr o) := ⟨o, h⟩
  rw [dif_pos hx]
  exact Rch.one (Classical.choose_spec hx) h
def lwS (tp : Nat → Int32) (Tn : Nat) (o : (Nat × List Nat) ⊕ Nat) : (Nat × List Nat) ⊕ Nat := match o with | .inl (n, c) => if isSN tp Tn n 59 then .inl (n + 1, c) else .inr (flt tp Tn 1 n) | .inr e => .inr e
def pLw2 (D : Dr) (ml : Bool) (o : (Nat × List Nat) ⊕ Nat) : OD := match o with | .inl (n, c) => .inl (if ml then (D.cs, D.nm, D.g, D.cl, D.pr, D.nw, D.mt, D.mv, some c, D.lk) else (D.cs, D.nm, D.g, D.cl, D.pr, D.nw, D.mt, D.mv, D.lm, some c), n) | .inr e => .inr e
noncomputable def pLw (tp : Nat → Int32) (Tn : Nat) (D : Dr) (ml : Bool) (n : Nat) : OD := if (if ml then D.lm else D.lk).isSome = true then .inr (flt tp Tn 3 n) else pLw2 D ml (lwS tp Tn (lwO tp Tn ml (n + 1)))
noncomputable def pLn (tp : Nat → Int32) (Tn : Nat) (D : Dr) (n : Nat) : OD :=
  if isWN tp Tn n (kwd 0) then pSpot tp Tn D n else if isWN tp Tn n (kwd 2) then pCarv tp Tn D n else if isWN tp Tn n (kwd 4) then pAct tp Tn D n else if isWN tp Tn n (kwd 9) then pCla tp Tn D n
  else if isWN tp Tn n (kwd 10) then pNi tp Tn D n else if isWN tp Tn n (kwd 11) then pMi tp Tn D n else if isWN tp Tn n (kwd 12) then pLw tp Tn D true n else if isWN tp Tn n (kwd 13) then pLw tp Tn D false n else .inr (flt tp Tn 1 n)
/-- the class's draft -/
def RLd (cs : Nat → Nat) (nm : Nat → Nat → List Nat) (M : Mem) : Prop := RL 27 (cs 0) (nm 0) M ∧ RL 29 (cs 1) (nm 1) M ∧ RL 31 (cs 2) (nm 2) M
def LCd (kL : Nat) (dflt : List Nat) (o : Option (List Nat)) (M : Mem) : Prop := M.1 kL 0 = b2 o.isSome ∧ M.1 kL 2 = Int32.ofNat (lwc dflt o).length ∧ ∀ i, i < (lwc dflt o).length → M.1 (kL + 1) i = cfn (lwc dflt o) i
def DCl (D : Dr) (M : Mem) : Prop := RLd D.cs D.nm M ∧ (∀ c q, rwq c q → ∀ i, i < D.cs q → M.1 c i = Int32.ofNat (D.g c i)) ∧ (∀ a b, a < 6 → b < 32 → bt (M.1 41 a) b = D.cl a b) ∧ (M.1 26 12 = Int32.ofNat D.pr ∧ M.1 26 14 = Int32.ofNat D.nw ∧ (∀ i, i < D.nw → M.1 42 i = Int32.ofNat (D.g 42 i)) ∧ M.1 26 15 = Int32.ofNat D.mv ∧ M.1 49 3 = b2 D.mt) ∧ LCd 43 dM D.lm M ∧ LCd 46 dK D.lk M
def LOK (c : List Nat) : Prop := COk c 1 ∧ c.length ≤ 1000
/-- what a draft keeps -/
def DOk (D : Dr) : Prop := NOk D.cs D.nm ∧ (∀ i, i < D.cs 0 → D.g 33 i ≤ 9) ∧ (∀ i, i < D.cs 1 → D.g 34 i ≤ 1 ∧ D.g 35 i ≤ 9) ∧ (∀ i, i < D.cs 2 → D.g 36 i ≤ 3 ∧ (1 ≤ D.g 37 i ∧ D.g 37 i ≤ 20) ∧ (1 ≤ D.g 38 i ∧ D.g 38 i ≤ 99) ∧ D.g 39 i ≤ 99 ∧ D.g 40 i < D.cs 1) ∧ (∀ a b, D.cl a b = D.cl b a) ∧ (∀ a, D.cl a a = false) ∧ (∀ a b, D.cl a b = true → a < D.cs 2 ∧ b < D.cs 2) ∧ (D.nw ≤ 14 ∧ (∀ i, i < D.nw → D.g 42 i ≤ 9) ∧ D.mv ≤ 10) ∧ LOK (lwc dM D.lm) ∧ LOK (lwc dK D.lk)
/-- cells of the class that a line may write -/
def DWc (c j : Nat) : Prop := TV c j ∨ (26 ≤ c ∧ c ≤ 51)
def FWn (q i c j : Nat) : Prop := TV c j ∨ (c = 27 + 2 * q ∧ j = 0) ∨ (c = 28 + 2 * q ∧ j = i) ∨ (rwq c q ∧ j = i)
theorem RL.ad {kR m : Nat} {f : Nat → List Nat} {w : List Nat} (h : RL kR m f M) (hm : m < 6) (hw : isW w) (h0 : M'.1 kR 0 = Int32.ofNat (m + 1)) (h1 : M'.2.1 (kR + 1) m = wc 32 w) (hf : ∀ i, i < m → M'.2.1 (kR + 1) i = M.2.1 (kR + 1) i) (f' : Nat → List Nat) (e1 : f' m = w) (e2 : ∀ i, i < m → f' i = f i) : RL kR (m + 1) f' M' := by
  refine ⟨h0, by omega, fun i hi => ?_⟩
  by_cases y : i = m
  · subst y; rw [h1, e1]; exact ⟨rfl, hw⟩
  · rw [hf i (by omega), e2 i (by omega)]; exact h.2.2 i (by omega)
theorem LCd.fr {W : Nat → Nat → Prop} {kL : Nat} {df : List Nat} {o : Option (List Nat)} (h : LCd kL df o M) (hf : Fr W M M') (hw : ∀ j, ¬ W kL j ∧ ¬ W (kL + 1) j) : LCd kL df o M' := ⟨(hf.i (hw 0).1).trans h.1, (hf.i (hw 2).1).trans h.2.1, fun i hi => (hf.i (hw i).2).trans (h.2.2 i hi)⟩
theorem DCl.new {q : Nat} {w : List Nat} {val : Nat → Nat} (h : DCl D M) (hq : q < 3) (h6 : D.cs q < 6) (hw : isW w) (hf : Fr (FWn q (D.cs q)) M M') (h0 : M'.1 (27 + 2 * q) 0 = Int32.ofNat (D.cs q + 1)) (h1 : M'.2.1 (28 + 2 * q) (D.cs q) = wc 32 w) (hv : ∀ c, rwq c q → M'.1 c (D.cs q) = Int32.ofNat (val c)) : DCl (D.new q w val) M' := by
  obtain ⟨⟨r0, r1, r2⟩, a2, a3, ⟨a4, a5, a6, a7, a8⟩, a9, a10⟩ := h
  have tv : ∀ c j, TV c j → c = 1 := fun c j z => z.1
  have keep : ∀ c j, c ≠ 1 → c ≠ 27 + 2 * q → c ≠ 28 + 2 * q → ¬ rwq c q → M'.1 c j = M.1 c j := fun c j x1 x2 x3 x4 => hf.i (fun z => by
    rcases z with z | z | z | z
    · exact x1 (tv _ _ z)
    · exact x2 z.1
    · exact x3 z.1
    · exact x4 z.1)
  have kj : ∀ c j, c ≠ 1 → (c ≠ 28 + 2 * q ∨ j ≠ D.cs q) → c ≠ 27 + 2 * q → ¬ rwq c q → M'.2.1 c j = M.2.1 c j := fun c j x1 x2 x3 x4 => hf.j (fun z => by
    rcases z with z | z | z | z
    · exact x1 (tv _ _ z)
    · exact x3 z.1
    · omega
    · exact x4 z.1)
  have nr : ∀ c, (c ≤ 32 ∨ 41 ≤ c) → ∀ q, ¬ rwq c q := fun c hc q z => by unfold rwq at z; omega
  have roll : ∀ x kR, x < 3 → kR = 27 + 2 * x → RL kR (D.cs x) (D.nm x) M → RL kR (if x = q then D.cs q + 1 else D.cs x) (fun i => if x = q ∧ i = D.cs q then w else D.nm x i) M' := by
    intro x kR hx hk hr
    subst hk
    by_cases y : x = q
    · subst y
      rw [if_pos rfl]
      exact hr.ad h6 hw h0 (by rw [show 27 + 2 * x + 1 = 28 + 2 * x by omega]; exact h1) (fun i hi => kj _ _ (by omega) (.inr (by omega)) (by omega) (nr _ (by omega) _)) _ (by simp) (fun i hi => by simp [show ¬ i = D.cs x by omega])
    · rw [if_neg y]
      refine ⟨(keep _ _ (by omega) (by omega) (by omega) (nr _ (by omega) _)).trans hr.1, hr.2.1, fun i hi => ?_⟩
      rw [kj _ _ (by omega) (.inl (by omega)) (by omega) (nr _ (by omega) _)]
      simp only [y, false_and, if_false]
      exact hr.2.2 i hi
  refine ⟨⟨roll 0 27 (by omega) rfl r0, roll 1 29 (by omega) rfl r1, roll 2 31 (by omega) rfl r2⟩, fun c x hx i hi => ?_, fun a b ha hb => ?_, ⟨?_, ?_, fun i hi => ?_, ?_, ?_⟩, ?_, ?_⟩
  · have hi : i < (if x = q then D.cs q + 1 else D.cs x) := hi
    show M'.1 c i = Int32.ofNat (if rwq c q ∧ i = D.cs q then val c else D.g c i)
    by_cases y : rwq c q ∧ i = D.cs q
    · rw [if_pos y, y.2]; exact hv c y.1
    · rw [if_neg y]
      have hxi : i < D.cs x := by
        by_cases yq : x = q
        · subst yq; rw [if_pos rfl] at hi
          have : ¬ i = D.cs x := fun z => y ⟨hx, z⟩
          omega
        · rw [if_neg yq] at hi; exact hi
      have hc : 33 ≤ c ∧ c ≤ 40 := by unfold rwq at hx; omega
      rw [hf.i (fun z => by
        rcases z with z | z | z | z
        · have := tv _ _ z; omega
        · omega
        · omega
        · exact y z)]
      exact a2 c x hx i hxi
  · rw [keep _ _ (by omega) (by omega) (by omega) (nr _ (by omega) _)]; exact a3 a b ha hb
  · exact (keep _ _ (by omega) (by omega) (by omega) (nr _ (by omega) _)).trans a4
  · exact (keep _ _ (by omega) (by omega) (by omega) (nr _ (by omega) _)).trans a5
  · show M'.1 42 i = Int32.ofNat (if rwq 42 q ∧ i = D.cs q then val 42 else D.g 42 i)
    rw [if_neg (fun z => nr 42 (by omega) q z.1)]
    exact (keep _ _ (by omega) (by omega) (by omega) (nr _ (by omega) _)).trans (a6 i hi)
  · exact (keep _ _ (by omega) (by omega) (by omega) (nr _ (by omega) _)).trans a7
  · exact (keep _ _ (by omega) (by omega) (by omega) (nr _ (by omega) _)).trans a8
  · exact a9.fr hf (fun j => by
      have n1 := nr 43 (by omega) q
      have n2 := nr 44 (by omega) q
      unfold FWn TV
      exact ⟨fun z => by rcases z with z | z | z | z; omega; omega; omega; exact n1 z.1, fun z => by rcases z with z | z | z | z; omega; omega; omega; exact n2 z.1⟩)
  · exact a10.fr hf (fun j => by
      have n1 := nr 46 (by omega) q
      have n2 := nr 47 (by omega) q
      unfold FWn TV
      exact ⟨fun z => by rcases z with z | z | z | z; omega; omega; omega; exact n1 z.1, fun z => by rcases z with z | z | z | z; omega; omega; omega; exact n2 z.1⟩)
end DRAFT
