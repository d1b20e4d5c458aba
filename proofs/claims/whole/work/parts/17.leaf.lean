/-! LEAVES: bits, the class's yard and state as pictures, what the small methods answer -/
section LEAF
theorem ck' {n L : Nat} {R : Res} (h : n < L) : ic (False ∨ L ≤ n) none R = R := ic_f (by rintro (z | z); exact z; omega)
def bt (x : Int32) (n : Nat) : Bool := x.toBitVec.getLsbD n
def b2 (b : Bool) : Int32 := if b then 1 else 0
theorem b2_0 {b : Bool} : (b2 b = 0) = (b = false) := by cases b <;> decide
theorem b2_1 {b : Bool} : (b2 b = 1) = (b = true) := by cases b <;> decide
theorem b2_and {b : Bool} : (b2 b &&& 1 = b2 b) = True := by cases b <;> decide
theorem i10 : ((1 : Int32) = 0) = False := by decide
theorem b2_t : b2 true = 1 := rfl
theorem b2_f : b2 false = 0 := rfl
theorem ic_b2 {P : Prop} [Decidable P] {M : Mem} : ic P (some (some (vI 1), M)) (some (some (vI 0), M)) = some (some (vI (b2 (decide P))), M) := by
  by_cases h : P
  · rw [ic_t h]; simp [h, b2]
  · rw [ic_f h]; simp [h, b2]
theorem ic_b2n {P : Prop} [Decidable P] {M : Mem} : ic P (some (some (vI 0), M)) (some (some (vI 1), M)) = some (some (vI (b2 (!decide P))), M) := by
  by_cases h : P
  · rw [ic_t h]; simp [h, b2]
  · rw [ic_f h]; simp [h, b2]
def imax (a b : Int32) : Int32 := if a < b then b else a
def imin (a b : Int32) : Int32 := if b < a then b else a
theorem sp21 {d : Nat} {a b : Int32} {M : Mem} : evD (d + 1) 21 [vI a, vI b] M = some (some (vI (imax a b)), M) := by
  rw [e21, ic_ite]; rfl
theorem sp22 {d : Nat} {a b : Int32} {M : Mem} : evD (d + 1) 22 [vI a, vI b] M = some (some (vI (imin a b)), M) := by
  rw [e22, ic_ite]; rfl
/-- bits by shifting -/
theorem sh_n {n : Nat} (h : n < 32) : (Int32.ofNat n &&& 31).toBitVec.smod 32 = BitVec.ofNat 32 n := by
  have : ∀ n : Fin 32, (Int32.ofNat n.1 &&& 31).toBitVec.smod 32 = BitVec.ofNat 32 n.1 := by decide
  exact this ⟨n, h⟩
theorem bt_has {x : Int32} {n : Nat} (h : n < 32) : ((x >>> (Int32.ofNat n &&& 31)) &&& 1 = 1) ↔ bt x n = true := by
  rw [← Int32.toBitVec_inj, Int32.toBitVec_and, Int32.toBitVec_shiftRight, sh_n h]
  show (_ &&& 1#32) = 1#32 ↔ _
  rw [BitVec.and_one_eq_setWidth_ofBool_getLsbD, BitVec.sshiftRight_eq', BitVec.getLsbD_sshiftRight]
  have e : (BitVec.ofNat 32 n).toNat = n := by simp; omega
  rw [e]
  simp only [Nat.add_zero, h, if_true]
  show _ ↔ x.toBitVec.getLsbD n = true
  cases x.toBitVec.getLsbD n <;> decide
theorem bt_and {x y : Int32} {n : Nat} : bt (x &&& y) n = (bt x n && bt y n) := by simp [bt]
theorem bt_or {x y : Int32} {n : Nat} : bt (x ||| y) n = (bt x n || bt y n) := by simp [bt]
theorem bt_not {x : Int32} {n : Nat} (h : n < 32) : bt (x ^^^ (-1)) n = !bt x n := by
  have : (-1 : Int32).toBitVec = BitVec.allOnes 32 := by decide
  simp [bt, this, h]
theorem bt_0 {n : Nat} : bt 0 n = false := by simp [bt]
theorem bt_sh {a n : Nat} (h : a < 32) (hn : n < 32) : bt (1 <<< (Int32.ofNat a &&& 31)) n = decide (n = a) := by
  have : ∀ a n : Fin 32, bt (1 <<< (Int32.ofNat a.1 &&& 31)) n.1 = decide (n.1 = a.1) := by decide +kernel
  exact this ⟨a, h⟩ ⟨n, hn⟩
theorem bt_ext {x y : Int32} (h : ∀ n, n < 32 → bt x n = bt y n) : x = y := by
  rw [← Int32.toBitVec_inj]
  exact BitVec.eq_of_getLsbD_eq (fun i hi => h i hi)
theorem sp64 {d n : Nat} {x : Int32} {M : Mem} (h : n < 32) : evD (d + 1) 64 [vI x, vI (Int32.ofNat n)] M = some (some (vI (b2 (bt x n))), M) := by
  rw [e64, ic_b2]
  have : decide ((x >>> (Int32.ofNat n &&& 31)) &&& 1 = 1) = bt x n := by
    rw [Bool.eq_iff_iff, decide_eq_true_eq]; exact bt_has h
  rw [this]
/-- the class's yard: cells 3 to 24 without the row of the stack -/
abbrev YT : Type := Nat → Nat → Int32
abbrev YC (Y : YT) (M : Mem) : Prop := M.1 3 = Y 3 ∧ M.1 4 = Y 4 ∧ M.1 6 = Y 6 ∧ M.1 8 = Y 8 ∧ M.1 10 = Y 10 ∧ M.1 11 = Y 11 ∧ M.1 12 = Y 12 ∧ M.1 13 = Y 13 ∧ M.1 14 = Y 14 ∧ M.1 15 = Y 15 ∧ M.1 16 = Y 16 ∧ M.1 17 = Y 17 ∧ M.1 18 = Y 18 ∧ M.1 19 = Y 19 ∧ M.1 20 = Y 20 ∧ M.1 21 = Y 21 ∧ M.1 23 = Y 23 ∧ M.1 24 = Y 24
def yc (c : Nat) : Prop := c = 3 ∨ c = 4 ∨ c = 6 ∨ c = 8 ∨ (10 ≤ c ∧ c ≤ 21) ∨ c = 23 ∨ c = 24
theorem Fr.row {W : Nat → Nat → Prop} {M M' : Mem} (h : Fr W M M') {c : Nat} (hw : ∀ j, ¬ W c j) : M'.1 c = M.1 c := funext fun j => h.i (hw j)
theorem YC.fr {Y : YT} {M M' : Mem} {W : Nat → Nat → Prop} (h : YC Y M) (hf : Fr W M M') (hw : ∀ c j, yc c → ¬ W c j) : YC Y M' := by
  unfold YC at h ⊢
  have k : ∀ c, yc c → M'.1 c = M.1 c := fun c hc => hf.row (fun j => hw c j hc)
  simp only [k 3 (by unfold yc; omega), k 4 (by unfold yc; omega), k 6 (by unfold yc; omega), k 8 (by unfold yc; omega), k 10 (by unfold yc; omega), k 11 (by unfold yc; omega), k 12 (by unfold yc; omega), k 13 (by unfold yc; omega), k 14 (by unfold yc; omega), k 15 (by unfold yc; omega), k 16 (by unfold yc; omega), k 17 (by unfold yc; omega), k 18 (by unfold yc; omega), k 19 (by unfold yc; omega), k 20 (by unfold yc; omega), k 21 (by unfold yc; omega), k 23 (by unfold yc; omega), k 24 (by unfold yc; omega)]
  exact h
def nA (Y : YT) : Nat := (Y 8 0).toNatClampNeg
def nB (Y : YT) : Nat := (Y 4 0).toNatClampNeg
def nC (Y : YT) : Nat := (Y 6 0).toNatClampNeg
def nW (Y : YT) : Nat := (Y 3 14).toNatClampNeg
def mv (Y : YT) (a : Nat) : Nat := (Y 17 a).toNatClampNeg
/-- the numbers of a yard -/
def YN (Y : YT) : Prop := Y 8 0 = Int32.ofNat (nA Y) ∧ Y 4 0 = Int32.ofNat (nB Y) ∧ Y 6 0 = Int32.ofNat (nC Y) ∧ Y 3 14 = Int32.ofNat (nW Y) ∧ nA Y ≤ 6 ∧ nB Y ≤ 6 ∧ nC Y ≤ 6 ∧ nW Y ≤ 14 ∧ ∀ a, a < nA Y → Y 17 a = Int32.ofNat (mv Y a) ∧ mv Y a < nC Y
theorem YN.A {Y : YT} (h : YN Y) : Y 8 0 = Int32.ofNat (nA Y) := h.1
theorem YN.B {Y : YT} (h : YN Y) : Y 4 0 = Int32.ofNat (nB Y) := h.2.1
theorem YN.C {Y : YT} (h : YN Y) : Y 6 0 = Int32.ofNat (nC Y) := h.2.2.1
theorem YN.W {Y : YT} (h : YN Y) : Y 3 14 = Int32.ofNat (nW Y) := h.2.2.2.1
theorem YN.A6 {Y : YT} (h : YN Y) : nA Y ≤ 6 := h.2.2.2.2.1
theorem YN.B6 {Y : YT} (h : YN Y) : nB Y ≤ 6 := h.2.2.2.2.2.1
theorem YN.C6 {Y : YT} (h : YN Y) : nC Y ≤ 6 := h.2.2.2.2.2.2.1
theorem YN.W14 {Y : YT} (h : YN Y) : nW Y ≤ 14 := h.2.2.2.2.2.2.2.1
theorem YN.m {Y : YT} (h : YN Y) {a : Nat} (ha : a < nA Y) : Y 17 a = Int32.ofNat (mv Y a) := (h.2.2.2.2.2.2.2.2 a ha).1
theorem YN.mC {Y : YT} (h : YN Y) {a : Nat} (ha : a < nA Y) : mv Y a < nC Y := (h.2.2.2.2.2.2.2.2 a ha).2
/-- a state of the class: its object and its six rows -/
abbrev SC (S : YT) (k : Nat) (M : Mem) : Prop := (M.1 k 0 = S 0 0 ∧ M.1 k 7 = S 0 7 ∧ M.1 k 8 = S 0 8 ∧ M.1 k 9 = S 0 9) ∧ ∀ i, i < 6 → M.1 (k + 1) i = S 1 i ∧ M.1 (k + 2) i = S 2 i ∧ M.1 (k + 3) i = S 3 i ∧ M.1 (k + 4) i = S 4 i ∧ M.1 (k + 5) i = S 5 i ∧ M.1 (k + 6) i = S 6 i
theorem SC.fr {S : YT} {k : Nat} {M M' : Mem} {W : Nat → Nat → Prop} (h : SC S k M) (hf : Fr W M M') (hw : ∀ c j, k ≤ c → c ≤ k + 6 → ¬ W c j) : SC S k M' := by
  unfold SC at h ⊢
  have q : ∀ c, k ≤ c → c ≤ k + 6 → M'.1 c = M.1 c := fun c h1 h2 => hf.row (fun j => hw c j h1 h2)
  simp only [q k (by omega) (by omega), q (k + 1) (by omega) (by omega), q (k + 2) (by omega) (by omega), q (k + 3) (by omega) (by omega), q (k + 4) (by omega) (by omega), q (k + 5) (by omega) (by omega), q (k + 6) (by omega) (by omega)]
  exact h
def up (S : YT) (a : Nat) : Bool := bt (S 0 7) a && !bt (S 0 8) a
def needs (Y : YT) (a : Nat) : Int32 := if Y 13 a = 1 then imax 1 (Y 15 a / 2) else Y 15 a
def isD (Y S : YT) (a : Nat) : Bool := !decide (S 2 a < needs Y a)
def inF (Y S : YT) (a : Nat) : Bool := up S a && isD Y S a
def isIn (p : Int32) (m : Nat) : Bool := decide (¬ p < 0 ∧ p < Int32.ofNat m)
theorem isIn_ex {p : Int32} {m : Nat} (hm : m < 2147483648) (h : isIn p m = true) : ∃ n, n < m ∧ p = Int32.ofNat n := by
  simp only [isIn, decide_eq_true_eq] at h; exact i_ex h.1 h.2 hm
theorem isIn_of {n m : Nat} (hm : m < 2147483648) (h : n < m) : isIn (Int32.ofNat n) m = true := by
  simp only [isIn, decide_eq_true_eq]; exact (i_in hm).mpr ⟨n, h, rfl⟩
section
variable {d : Nat} {Y S : YT} {k : Nat} {M : Mem} {p : Int32} {a : Nat}
theorem ic_in {m : Nat} {x : Int32} (h : x = Int32.ofNat m) : ic (p < 0) (some (some (vI 0), M)) (ic (p < x) (some (some (vI 1), M)) (some (some (vI 0), M))) = some (some (vI (b2 (isIn p m))), M) := by
  subst h; unfold isIn
  by_cases h : p < 0
  · rw [ic_t h]; simp [h, b2]
  · rw [ic_f h, ic_b2]; simp [h, b2]
theorem sp94 (hY : YC Y M) (hN : YN Y) : evD (d + 1) 94 [vR 11 0 0, vI p] M = some (some (vI (b2 (isIn p (nA Y)))), M) := by
  rw [e94]; exact ic_in (by rw [hY.2.2.2.1, hN.A])
theorem sp108 (hY : YC Y M) (hN : YN Y) : evD (d + 1) 108 [vR 11 0 0, vI p] M = some (some (vI (b2 (isIn p (nC Y)))), M) := by
  rw [e108]; exact ic_in (by rw [hY.2.2.1, hN.C])
theorem sp117 (hY : YC Y M) (hN : YN Y) : evD (d + 1) 117 [vR 11 0 0, vI p] M = some (some (vI (b2 (isIn p (nB Y)))), M) := by
  rw [e117]; exact ic_in (by rw [hY.2.1, hN.B])
theorem sp98 (hS : SC S k M) : evD (d + 1) 98 [vR 6 0 k] M = some (some (vI (S 0 7 &&& (S 0 8 ^^^ (-1)))), M) := by
  simp only [e98, hS]
theorem sp97 (hS : SC S k M) (ha : a < 32) : evD (d + 2) 97 [vR 6 0 k, vI (Int32.ofNat a)] M = some (some (vI (b2 (up S a))), M) := by
  simp only [e97, sp98 hS, cIn_s, sp64 ha, b2_and, ic_true, bt_and, bt_not ha, up]
theorem sp95 (hY : YC Y M) (ha : a < 6) : evD (d + 2) 95 [vR 9 0 3, vI (Int32.ofNat a)] M = some (some (vI (needs Y a)), M) := by
  simp (disch := omega) only [e95, ck', i_nat, Nat.add_zero, Nat.not_lt_zero, i_neg, i_lt, i_le, i_eq, i_add, i_addl, i_addr, i_mulr, i_mull, i_subl, i_pred, i_ltl, i_ltr, i_eql, i_em1, cIn_s, cVd_s, cLo_s, ic_true, ic_false, ic_same, Nat.reduceAdd, hY, sp21, ic_ite, needs]
theorem sp99 (hY : YC Y M) (hS : SC S k M) (ha : a < 6) : evD (d + 3) 99 [vR 6 0 k, vI (Int32.ofNat a)] M = some (some (vI (b2 (isD Y S a))), M) := by
  simp (disch := omega) only [e99, ck', i_nat, Nat.add_zero, Nat.not_lt_zero, i_neg, i_lt, i_le, i_eq, i_add, i_addl, i_addr, i_mulr, i_mull, i_subl, i_pred, i_ltl, i_ltr, i_eql, i_em1, cIn_s, cVd_s, cLo_s, ic_true, ic_false, ic_same, sp95 hY ha, hS, ic_b2n, isD]
theorem sp96 (hY : YC Y M) (hS : SC S k M) (ha : a < 6) : evD (d + 4) 96 [vR 6 0 k, vI (Int32.ofNat a)] M = some (some (vI (b2 (inF Y S a))), M) := by
  simp (disch := omega) only [e96, sp97 hS (show a < 32 by omega), cIn_s, cVd_s, cLo_s, ic_true, ic_false, ic_same, b2_0, sp99 hY hS ha, inF]
  cases up S a <;> cases isD Y S a <;> simp [ic_true, ic_false, b2]
end
end LEAF
