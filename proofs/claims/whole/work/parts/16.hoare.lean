/-! HOARE'S WAY over answers: Hm R Q: the evaluation R ends, with Q of its answer and its memory -/
section HOARE
def Hm (R : Res) (Q : Option AV → Mem → Prop) : Prop := ∃ a M, R = some (a, M) ∧ Q a M
theorem Hm_mono {R : Res} {Q Q' : Option AV → Mem → Prop} (h : Hm R Q) (hq : ∀ a M, Q a M → Q' a M) : Hm R Q' := by
  obtain ⟨a, M, h1, h2⟩ := h; exact ⟨a, M, h1, hq a M h2⟩
theorem Hm_some {a : Option AV} {M : Mem} {Q : Option AV → Mem → Prop} (h : Q a M) : Hm (some (a, M)) Q := ⟨a, M, rfl, h⟩
theorem Hm_eq {R : Res} {a : Option AV} {M : Mem} {Q : Option AV → Mem → Prop} (e : R = some (a, M)) (h : Q a M) : Hm R Q := ⟨a, M, e, h⟩
theorem Hm_ic {P : Prop} {A B : Res} {Q : Option AV → Mem → Prop} (h1 : P → Hm A Q) (h2 : ¬ P → Hm B Q) : Hm (ic P A B) Q := by
  by_cases h : P
  · rw [ic_t h]; exact h1 h
  · rw [ic_f h]; exact h2 h
theorem Hm_cIn {R : Res} {f : Int32 → Mem → Res} {Q Q' : Option AV → Mem → Prop} (h : Hm R Q') (hf : ∀ a M, Q' a M → ∃ v, a = some (vI v) ∧ Hm (f v M) Q) : Hm (cIn R f) Q := by
  obtain ⟨a, M, e, hq⟩ := h
  obtain ⟨v, rfl, h2⟩ := hf a M hq
  rw [e]; exact h2
theorem Hm_cIv {R : Res} {f : Int32 → Mem → Res} {v : Int32} {P : Mem → Prop} {Q : Option AV → Mem → Prop} (h : Hm R (fun a M => a = some (vI v) ∧ P M)) (hf : ∀ M, P M → Hm (f v M) Q) : Hm (cIn R f) Q :=
  Hm_cIn h (fun _ M h => ⟨v, h.1, hf M h.2⟩)
theorem Hm_cLv {R : Res} {f : Int64 → Mem → Res} {v : Int64} {P : Mem → Prop} {Q : Option AV → Mem → Prop} (h : Hm R (fun a M => a = some (vJ v) ∧ P M)) (hf : ∀ M, P M → Hm (f v M) Q) : Hm (cLo R f) Q := by
  obtain ⟨a, M, e, hq⟩ := h
  obtain ⟨rfl, h2⟩ := hq
  rw [e]; exact hf M h2
theorem Hm_cVv {R : Res} {f : Mem → Res} {P : Mem → Prop} {Q : Option AV → Mem → Prop} (h : Hm R (fun a M => a = none ∧ P M)) (hf : ∀ M, P M → Hm (f M) Q) : Hm (cVd R f) Q := by
  obtain ⟨a, M, e, hq⟩ := h
  obtain ⟨rfl, h2⟩ := hq
  rw [e]; exact hf M h2
theorem cIn_s {v : Int32} {M : Mem} {f : Int32 → Mem → Res} : cIn (some (some (vI v), M)) f = f v M := rfl
theorem cLo_s {v : Int64} {M : Mem} {f : Int64 → Mem → Res} : cLo (some (some (vJ v), M)) f = f v M := rfl
theorem cVd_s {M : Mem} {f : Mem → Res} : cVd (some (none, M)) f = f M := rfl
theorem ic_true {A B : Res} : ic True A B = A := ic_t trivial
theorem ic_false {A B : Res} : ic False A B = B := ic_f id
theorem ic_ite {P : Prop} [Decidable P] {a b : Int32} {M : Mem} : ic P (some (some (vI a), M)) (some (some (vI b), M)) = some (some (vI (if P then a else b)), M) := by
  by_cases h : P
  · rw [ic_t h, if_pos h]
  · rw [ic_f h, if_neg h]
theorem ic_same {P : Prop} {A : Res} : ic P A A = A := by
  by_cases h : P
  · rw [ic_t h]
  · rw [ic_f h]
/-- numbers of the class from Nat -/
theorem i_toInt {n : Nat} (h : n < 2147483648) : (Int32.ofNat n).toInt = n := Int32.toInt_ofNat_of_lt h
theorem i_nat {n : Nat} (h : n < 2147483648) : (Int32.ofNat n).toNatClampNeg = n := by
  rw [Int32.toNatClampNeg, i_toInt h]; rfl
theorem i_neg {n : Nat} (h : n < 2147483648) : ¬ Int32.ofNat n < 0 := by
  rw [Int32.lt_iff_toInt_lt, i_toInt h]; simp
theorem i_lt {a b : Nat} (ha : a < 2147483648) (hb : b < 2147483648) : (Int32.ofNat a < Int32.ofNat b) = (a < b) := by
  rw [Int32.lt_iff_toInt_lt, i_toInt ha, i_toInt hb]; simp
theorem i_le {a b : Nat} (ha : a < 2147483648) (hb : b < 2147483648) : (Int32.ofNat a ≤ Int32.ofNat b) = (a ≤ b) := by
  rw [Int32.le_iff_toInt_le, i_toInt ha, i_toInt hb]; simp
theorem i_eq {a b : Nat} (ha : a < 2147483648) (hb : b < 2147483648) : (Int32.ofNat a = Int32.ofNat b) = (a = b) := by
  rw [← Int32.toInt_inj, i_toInt ha, i_toInt hb]; exact propext Int.ofNat_inj
theorem i_add {a b : Nat} : Int32.ofNat a + Int32.ofNat b = Int32.ofNat (a + b) := (Int32.ofNat_add a b).symm
theorem i_mul {a b : Nat} : Int32.ofNat a * Int32.ofNat b = Int32.ofNat (a * b) := (Int32.ofNat_mul a b).symm
theorem i_addl {a n : Nat} : Int32.ofNat a + (no_index (OfNat.ofNat n : Int32)) = Int32.ofNat (a + OfNat.ofNat n) := i_add
theorem i_addr {a n : Nat} : (no_index (OfNat.ofNat n : Int32)) + Int32.ofNat a = Int32.ofNat (OfNat.ofNat n + a) := i_add
theorem i_mulr {a n : Nat} : (no_index (OfNat.ofNat n : Int32)) * Int32.ofNat a = Int32.ofNat (OfNat.ofNat n * a) := i_mul
theorem i_mull {a n : Nat} : Int32.ofNat a * (no_index (OfNat.ofNat n : Int32)) = Int32.ofNat (a * OfNat.ofNat n) := i_mul
theorem i_sub {a b : Nat} (h : b ≤ a) : Int32.ofNat a - Int32.ofNat b = Int32.ofNat (a - b) := by
  have : Int32.ofNat (a - b) + Int32.ofNat b = Int32.ofNat a := by rw [i_add, Nat.sub_add_cancel h]
  rw [← this, Int32.add_sub_cancel]
theorem i_subl {a n : Nat} (h : OfNat.ofNat n ≤ a) : Int32.ofNat a - (no_index (OfNat.ofNat n : Int32)) = Int32.ofNat (a - OfNat.ofNat n) := i_sub h
theorem i_pred {a : Nat} (h : 1 ≤ a) : Int32.ofNat a + (-1) = Int32.ofNat (a - 1) := by
  rw [← i_sub h, Int32.sub_eq_add_neg]; rfl
theorem i_ltl {a n : Nat} (ha : a < 2147483648) (hb : OfNat.ofNat n < 2147483648) : (Int32.ofNat a < (no_index (OfNat.ofNat n : Int32))) = (a < OfNat.ofNat n) := i_lt ha hb
theorem i_ltr {a n : Nat} (ha : a < 2147483648) (hb : OfNat.ofNat n < 2147483648) : ((no_index (OfNat.ofNat n : Int32)) < Int32.ofNat a) = (OfNat.ofNat n < a) := i_lt hb ha
theorem i_eql {a n : Nat} (ha : a < 2147483648) (hb : OfNat.ofNat n < 2147483648) : (Int32.ofNat a = (no_index (OfNat.ofNat n : Int32))) = (a = OfNat.ofNat n) := i_eq ha hb
theorem i_em1 {a : Nat} (ha : a < 2147483648) : (Int32.ofNat a = -1) = False := by
  rw [← Int32.toInt_inj, i_toInt ha]; simp
/-- an index that is right -/
theorem ck {n L : Nat} {R : Res} (h : n < L) (h2 : L ≤ 2147483648) : ic (Int32.ofNat n < 0 ∨ L ≤ (Int32.ofNat n).toNatClampNeg) none R = R := by
  refine ic_f ?_
  rw [i_nat (by omega)]
  rintro (z | z)
  · exact i_neg (by omega) z
  · omega
/-- a number that is within a row is one of Nat -/
theorem i_ex {p : Int32} {m : Nat} (h0 : ¬ p < 0) (h : p < Int32.ofNat m) (hm : m < 2147483648) : ∃ n, n < m ∧ p = Int32.ofNat n := by
  rw [Int32.lt_iff_toInt_lt] at h h0
  rw [i_toInt hm] at h
  simp at h0
  refine ⟨p.toInt.toNat, by omega, ?_⟩
  rw [← Int32.toInt_inj, i_toInt (by omega)]
  omega
theorem i_in {p : Int32} {m : Nat} (hm : m < 2147483648) : (¬ p < 0 ∧ p < Int32.ofNat m) ↔ ∃ n, n < m ∧ p = Int32.ofNat n := by
  constructor
  · rintro ⟨h0, h⟩; exact i_ex h0 h hm
  · rintro ⟨n, h, rfl⟩; exact ⟨i_neg (by omega), by rw [i_lt (by omega) hm]; exact h⟩
/-- reading what was written -/
theorem sI_eq {M : Mem} {k j : Nat} {v : Int32} : (sI M k j v).1 k j = v := by simp [sI]
theorem sI_eq' {M : Mem} {k j a b : Nat} {v : Int32} (h1 : a = k) (h2 : b = j) : (sI M k j v).1 a b = v := by subst h1 h2; exact sI_eq
theorem sI_ne {M : Mem} {k j a b : Nat} {v : Int32} (h : a ≠ k ∨ b ≠ j) : (sI M k j v).1 a b = M.1 a b := by
  simp only [sI]; rw [if_neg]; rintro ⟨rfl, rfl⟩; simp at h
theorem sI_2 {M : Mem} {k j : Nat} {v : Int32} : (sI M k j v).2 = M.2 := rfl
theorem sJ_1 {M : Mem} {k j : Nat} {v : Int64} : (sJ M k j v).1 = M.1 := rfl
theorem sJ_22 {M : Mem} {k j : Nat} {v : Int64} : (sJ M k j v).2.2 = M.2.2 := rfl
theorem sJ_eq {M : Mem} {k j : Nat} {v : Int64} : (sJ M k j v).2.1 k j = v := by simp [sJ]
theorem sJ_ne {M : Mem} {k j a b : Nat} {v : Int64} (h : a ≠ k ∨ b ≠ j) : (sJ M k j v).2.1 a b = M.2.1 a b := by
  simp only [sJ]; rw [if_neg]; rintro ⟨rfl, rfl⟩; simp at h
theorem sR_1 {M : Mem} {k j v : Nat} : (sR M k j v).1 = M.1 := rfl
theorem sR_21 {M : Mem} {k j v : Nat} : (sR M k j v).2.1 = M.2.1 := rfl
theorem sR_eq {M : Mem} {k j v : Nat} : (sR M k j v).2.2 k j = v := by simp [sR]
theorem sR_ne {M : Mem} {k j a b v : Nat} (h : a ≠ k ∨ b ≠ j) : (sR M k j v).2.2 a b = M.2.2 a b := by
  simp only [sR]; rw [if_neg]; rintro ⟨rfl, rfl⟩; simp at h
/-- nothing but W is written -/
def Fr (W : Nat → Nat → Prop) (M M' : Mem) : Prop := ∀ c j, ¬ W c j → M'.1 c j = M.1 c j ∧ M'.2.1 c j = M.2.1 c j ∧ M'.2.2 c j = M.2.2 c j
theorem Fr.rf {W : Nat → Nat → Prop} {M : Mem} : Fr W M M := fun _ _ _ => ⟨rfl, rfl, rfl⟩
theorem Fr.tr {W : Nat → Nat → Prop} {M M1 M2 : Mem} (h1 : Fr W M M1) (h2 : Fr W M1 M2) : Fr W M M2 := fun c j h => ⟨(h2 c j h).1.trans (h1 c j h).1, (h2 c j h).2.1.trans (h1 c j h).2.1, (h2 c j h).2.2.trans (h1 c j h).2.2⟩
theorem Fr.up {W W' : Nat → Nat → Prop} {M M' : Mem} (h : Fr W M M') (hw : ∀ c j, W c j → W' c j) : Fr W' M M' := fun c j hn => h c j (fun z => hn (hw c j z))
theorem Fr.i {W : Nat → Nat → Prop} {M M' : Mem} {c j : Nat} (h : Fr W M M') (hn : ¬ W c j) : M'.1 c j = M.1 c j := (h c j hn).1
theorem Fr.j {W : Nat → Nat → Prop} {M M' : Mem} {c j : Nat} (h : Fr W M M') (hn : ¬ W c j) : M'.2.1 c j = M.2.1 c j := (h c j hn).2.1
theorem Fr.r {W : Nat → Nat → Prop} {M M' : Mem} {c j : Nat} (h : Fr W M M') (hn : ¬ W c j) : M'.2.2 c j = M.2.2 c j := (h c j hn).2.2
theorem Fr.sI {W : Nat → Nat → Prop} {M M' : Mem} {k j : Nat} {v : Int32} (h : Fr W M M') (hw : W k j) : Fr W M (sI M' k j v) := fun c i hn => by
  have h2 : c ≠ k ∨ i ≠ j := by
    by_cases z : c = k
    · right; rintro rfl; exact hn (z ▸ hw)
    · exact .inl z
  exact ⟨(sI_ne h2).trans (h c i hn).1, (h c i hn).2⟩
theorem Fr.sJ {W : Nat → Nat → Prop} {M M' : Mem} {k j : Nat} {v : Int64} (h : Fr W M M') (hw : W k j) : Fr W M (sJ M' k j v) := fun c i hn => by
  have h2 : c ≠ k ∨ i ≠ j := by
    by_cases z : c = k
    · right; rintro rfl; exact hn (z ▸ hw)
    · exact .inl z
  exact ⟨(h c i hn).1, (sJ_ne h2).trans (h c i hn).2.1, (h c i hn).2.2⟩
theorem Fr.sR {W : Nat → Nat → Prop} {M M' : Mem} {k j v : Nat} (h : Fr W M M') (hw : W k j) : Fr W M (sR M' k j v) := fun c i hn => by
  have h2 : c ≠ k ∨ i ≠ j := by
    by_cases z : c = k
    · right; rintro rfl; exact hn (z ▸ hw)
    · exact .inl z
  exact ⟨(h c i hn).1, (h c i hn).2.1, (sR_ne h2).trans (h c i hn).2.2⟩
/-- a loop with a counter -/
theorem lp_for {d x pc : Nat} (N c F0 : Nat) (hc : 1 ≤ c) (I : Nat → Lv → Mem → Prop) {Q : Option AV → Mem → Prop}
    (hstep : ∀ n, n < N → ∀ G lv M, F0 ≤ G → I n lv M → (∀ G' lv' M', G ≤ G' → I (n + 1) lv' M' → Hm (lp d x G' pc lv' M') Q) → Hm (lp d x (G + c) pc lv M) Q)
    (hexit : ∀ G lv M, F0 ≤ G → I N lv M → Hm (lp d x (G + c) pc lv M) Q) :
    ∀ k n, n + k = N → ∀ F lv M, F0 + (k + 1) * c ≤ F → I n lv M → Hm (lp d x F pc lv M) Q
  | 0, n, hn, F, lv, M, hF, h => by
    obtain rfl : n = N := by omega
    obtain ⟨G, rfl⟩ : ∃ G, F = G + c := ⟨F - c, by omega⟩
    exact hexit G lv M (by omega) h
  | k + 1, n, hn, F, lv, M, hF, h => by
    have hm : (k + 1 + 1) * c = (k + 1) * c + c := Nat.succ_mul _ _
    obtain ⟨G, rfl⟩ : ∃ G, F = G + c := ⟨F - c, by omega⟩
    exact hstep n (by omega) G lv M (by omega) h (fun G' lv' M' hG hI => lp_for N c F0 hc I hstep hexit k (n + 1) (by omega) G' lv' M' (by omega) hI)
end HOARE
