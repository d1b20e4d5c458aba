/-! work: the class's rows -/
section WORK4
variable {Y N S T : YT} {t a s n c b d e u k j i m W R x st : Nat} {M : Mem} {p q f set props deg : Int32} {wk sd : Nat → Nat} {tk : Nat → Int32} {cr cr' : Nat → Bool}
/-- the k-th choice of the x-th row -/
def dig (R W x k : Nat) : Nat := x / R ^ (W - 1 - k) % R
def tko (st : Nat) (sd : Nat → Nat) (r : Nat) : Int32 := if r < st then Int32.ofNat (sd r) else -1
theorem dnE_cong (h : ∀ k, k < W → cr k = cr' k) {tall : Int32} : ∀ j, j ≤ W → ∀ dn, dnE Y N wk cr a i tall dn j = dnE Y N wk cr' a i tall dn j := by
  intro j hj dn
  exact rf_cong j (fun y k hk => by rw [h k (by omega)])
theorem crw_cong (h : ∀ k, k < W → cr k = cr' k) : ∀ i, crw Y N W wk cr a i = crw Y N W wk cr' a i
  | 0 => rfl
  | i + 1 => by
    have ih := crw_cong h i
    show (match crw Y N W wk cr a i with
      | none => none
      | some (u, dn) => if 0 < u - melP Y a (spt N a) u (N 3 a) (warm Y (nnt N + i)) then some (u - melP Y a (spt N a) u (N 3 a) (warm Y (nnt N + i)), dnE Y N wk cr a i u dn W) else none) = (match crw Y N W wk cr' a i with
      | none => none
      | some (u, dn) => if 0 < u - melP Y a (spt N a) u (N 3 a) (warm Y (nnt N + i)) then some (u - melP Y a (spt N a) u (N 3 a) (warm Y (nnt N + i)), dnE Y N wk cr' a i u dn W) else none)
    rw [ih]
    split
    · rfl
    · rename_i u dn _
      rw [dnE_cong h W (Nat.le_refl _)]
theorem wbc_cong (h : ∀ k, k < W → cr k = cr' k) : wbc Y N W wk cr a n = wbc Y N W wk cr' a n := by unfold wbc; rw [crw_cong h]
/-- a row's worth -/
def vrw (Y N : YT) (W : Nat) (wk : Nat → Nat) (st : Nat) (sd : Nat → Nat) (n x : Nat) : Nat := sm (fun i => wbc Y N W wk (fun k => decide (dig (st + 1) W x k = i)) (sd i) n) st
def msk (R W x i : Nat) : Nat → Nat := rf (fun m k => if dig R W x k = i then m ||| 2 ^ k else m) 0
theorem msk_lt : ∀ j, msk R W x i j < 2 ^ j
  | 0 => by show 0 < 1; omega
  | j + 1 => by
    have ih := msk_lt j
    have e : msk R W x i (j + 1) = if dig R W x j = i then msk R W x i j ||| 2 ^ j else msk R W x i j := rfl
    have h2 : 2 ^ j < 2 ^ (j + 1) := Nat.pow_lt_pow_right (by omega) (by omega)
    rw [e]; split
    · exact Nat.or_lt_two_pow (by omega) h2
    · omega
theorem msk_bit : ∀ j, (msk R W x i j).testBit k = (decide (k < j) && decide (dig R W x k = i))
  | 0 => by simp [msk, rf]
  | j + 1 => by
    have ih := msk_bit j
    have e : msk R W x i (j + 1) = if dig R W x j = i then msk R W x i j ||| 2 ^ j else msk R W x i j := rfl
    rw [e]
    split
    · rename_i h
      rw [Nat.testBit_or, ih, Nat.testBit_two_pow]
      by_cases y : k = j
      · subst y; simp [h]
      · have e2 : decide (k < j + 1) = decide (k < j) := by rw [decide_eq_decide]; omega
        have e3 : decide (j = k) = false := by simp; omega
        rw [e2, e3, Bool.or_false]
    · rename_i h
      rw [ih]
      by_cases y : k = j
      · subst y; simp [h]
      · have e2 : decide (k < j + 1) = decide (k < j) := by rw [decide_eq_decide]; omega
        rw [e2]
/-- the class's numbers for the rows -/
def RM (Y N : YT) (W : Nat) (wk : Nat → Nat) (st : Nat) (sd : Nat → Nat) (n : Nat) (M : Mem) : Prop := M.1 69 5 = Int32.ofNat W ∧ M.1 69 7 = Int32.ofNat st ∧ (∀ k, k < W → M.1 72 k = Int32.ofNat (wk k)) ∧ (∀ k, k < st → M.1 73 k = Int32.ofNat (sd k)) ∧ ∀ i, i < st → ∀ s, s < 2 ^ W → M.1 (75 + i) s = Int32.ofNat (wbc Y N W wk (fun k => s.testBit k) (sd i) n)
theorem RM.fr {M' : Mem} {V : Nat → Nat → Prop} (h : RM Y N W wk st sd n M) (hst : st ≤ 6) (hf : Fr V M M') (hv : ∀ c j, ((c = 69 ∧ (j = 5 ∨ j = 7)) ∨ c = 72 ∨ c = 73 ∨ (75 ≤ c ∧ c ≤ 80)) → ¬ V c j) : RM Y N W wk st sd n M' := by
  obtain ⟨h1, h2, h3, h4, h5⟩ := h
  exact ⟨(hf.i (hv 69 5 (by omega))).trans h1, (hf.i (hv 69 7 (by omega))).trans h2, fun k hk => (hf.i (hv 72 k (by omega))).trans (h3 k hk), fun k hk => (hf.i (hv 73 k (by omega))).trans (h4 k hk), fun i hi s hs => (hf.i (hv (75 + i) s (by omega))).trans (h5 i hi s hs)⟩
theorem dig_lt (hR : 0 < R) : dig R W x k < R := Nat.mod_lt _ hR
theorem sp159 (h1 : M.1 69 5 = Int32.ofNat W) (h2 : M.1 69 7 = Int32.ofNat st) (hW : W ≤ 4) (hst : st ≤ 6) : evD (d + 1) 159 [vR 3 0 69] M = some (some (vI (Int32.ofNat ((st + 1) ^ W))), M) := by
  have h : Hm (evD (d + 1) 159 [vR 3 0 69] M) (fun r M' => r = some (vI (Int32.ofNat ((st + 1) ^ W))) ∧ M' = M) := by
    rw [e159]; simp only [lp0_eq]
    refine lp_for (d := d) (x := 159) (pc := 4) W 1 0 (by omega) (fun i lv M' => lv = [some (vR 3 0 69), some (vI (Int32.ofNat ((st + 1) ^ i))), some (vI (Int32.ofNat i))] ∧ M' = M) ?_ ?_ W 0 (by omega) 20000 _ M (by omega) ⟨rfl, rfl⟩
    · rintro i hi G lv M' - ⟨rfl, rfl⟩ z
      simp (disch := omega) only [e159_4, i_nat, Nat.add_zero, Nat.not_lt_zero, i_neg, i_lt, i_le, i_eq, i_add, i_addl, i_addr, i_mulr, i_mull, i_subl, i_pred, i_ltl, i_ltr, i_eql, i_em1, cIn_s, cVd_s, cLo_s, ic_true, ic_false, ic_same, i10, eq_self, b2_0, b2_1, b2_and, b2_t, b2_f, ck', h1, h2, hi, i_mul]
      exact z _ _ _ (by omega) ⟨rfl, rfl⟩
    · rintro G lv M' - ⟨rfl, rfl⟩
      simp (disch := omega) only [e159_4, i_nat, Nat.add_zero, Nat.not_lt_zero, i_neg, i_lt, i_le, i_eq, i_add, i_addl, i_addr, i_mulr, i_mull, i_subl, i_pred, i_ltl, i_ltr, i_eql, i_em1, cIn_s, cVd_s, cLo_s, ic_true, ic_false, ic_same, i10, eq_self, b2_0, b2_1, b2_and, b2_t, b2_f, ck', h1, Nat.lt_irrefl]
      exact Hm_some ⟨rfl, rfl⟩
  obtain ⟨a, M', h1, h2, h3⟩ := h
  rw [h1, h2, h3]
theorem vrw_bd (hG : YG Y) (hst : st ≤ 6) (hsd : ∀ k, k < st → sd k < nA Y) : vrw Y N W wk st sd n x ≤ 600 := by
  have := sm_bd (f := fun i => wbc Y N W wk (fun k => decide (dig (st + 1) W x k = i)) (sd i) n) (k := 99) st (fun i hi => wbc_bd hG (hsd i hi))
  unfold vrw; omega
theorem sp160 (hG : YG Y) (hR : RM Y N W wk st sd n M) (hW : W ≤ 4) (hst : st ≤ 6) (hsd : ∀ k, k < st → sd k < nA Y) (hrow : ∀ k, k < W → M.1 81 k = Int32.ofNat (dig (st + 1) W x k)) : Hm (evD (d + 2) 160 [vR 3 0 69] M) (fun r M' => r = some (vI (Int32.ofNat (vrw Y N W wk st sd n x))) ∧ Fr (fun c _ => c = 82) M M') := by
  have hw16 : 2 ^ W ≤ 16 := by
    have : (16 : Nat) = 2 ^ 4 := rfl
    rw [this]; exact Nat.pow_le_pow_right (by omega) hW
  simp (disch := omega) only [e160, sp2, cVd_s, lp0_eq]
  refine lp_for (d := d + 1) (x := 160) (pc := 10) W 1 100 (by omega) (fun j lv M' => ∃ o, lv = [some (vR 3 0 69), some (vI (Int32.ofNat j)), o] ∧ (∀ i, i < 7 → M'.1 82 i = Int32.ofNat (msk (st + 1) W x i j)) ∧ Fr (fun c _ => c = 82) M M') ?_ ?_ W 0 (by omega) 20000 _ _ (by omega) ⟨_, rfl, fun i hi => by rw [flI_eq hi]; rfl, Fr.rf.flI (fun j _ => rfl)⟩
  · rintro j hj G lv M' - ⟨o, rfl, hm, hf⟩ z
    have h5 : M'.1 69 5 = Int32.ofNat W := (hf.i (by omega)).trans hR.1
    have hr : M'.1 81 j = Int32.ofNat (dig (st + 1) W x j) := (hf.i (by omega)).trans (hrow j hj)
    have hd := dig_lt (R := st + 1) (W := W) (x := x) (k := j) (by omega)
    have hml := msk_lt (R := st + 1) (W := W) (x := x) (i := dig (st + 1) W x j) j
    have hj16 : 2 ^ j ≤ 16 := by
      have : (16 : Nat) = 2 ^ 4 := rfl
      rw [this]; exact Nat.pow_le_pow_right (by omega) (by omega)
    have hm1 := hm (dig (st + 1) W x j) (by omega)
    simp (disch := omega) only [e160_10, i_nat, Nat.add_zero, Nat.not_lt_zero, i_neg, i_lt, i_le, i_eq, i_add, i_addl, i_addr, i_mulr, i_mull, i_subl, i_pred, i_ltl, i_ltr, i_eql, i_em1, cIn_s, cVd_s, cLo_s, ic_true, ic_false, ic_same, i10, eq_self, b2_0, b2_1, b2_and, b2_t, b2_f, ck', h5, hj, hr, hm1, i_setb]
    refine z _ _ _ (by omega) ⟨o, rfl, fun i hi => ?_, hf.sI rfl⟩
    have e : msk (st + 1) W x i (j + 1) = if dig (st + 1) W x j = i then msk (st + 1) W x i j ||| 2 ^ j else msk (st + 1) W x i j := rfl
    rw [e]
    by_cases y : dig (st + 1) W x j = i
    · rw [if_pos y, ← y, sI_eq]
    · rw [if_neg y, sI_ne (.inr (Ne.symm y))]; exact hm i hi
  · rintro G lv M' hG' ⟨o, rfl, hm, hf⟩
    have h5 : M'.1 69 5 = Int32.ofNat W := (hf.i (by omega)).trans hR.1
    have h7 : M'.1 69 7 = Int32.ofNat st := (hf.i (by omega)).trans hR.2.1
    have hR' := hR.fr hst hf (fun c j h => by omega)
    simp (disch := omega) only [e160_10, i_nat, Nat.add_zero, Nat.not_lt_zero, i_neg, i_lt, i_le, i_eq, i_add, i_addl, i_addr, i_mulr, i_mull, i_subl, i_pred, i_ltl, i_ltr, i_eql, i_em1, cIn_s, cVd_s, cLo_s, ic_true, ic_false, ic_same, i10, eq_self, b2_0, b2_1, b2_and, b2_t, b2_f, ck', h5, Nat.lt_irrefl]
    refine lp_for (d := d + 1) (x := 160) (pc := 45) st 1 0 (by omega) (fun i lv M2 => lv = [some (vR 3 0 69), some (vI (Int32.ofNat (sm (fun i => wbc Y N W wk (fun k => decide (dig (st + 1) W x k = i)) (sd i) n) i))), some (vI (Int32.ofNat i))] ∧ M2 = M') ?_ ?_ st 0 (by omega) _ _ M' (by omega) ⟨rfl, rfl⟩
    · rintro i hi G2 lv M2 - ⟨rfl, rfl⟩ z
      have hml := msk_lt (R := st + 1) (W := W) (x := x) (i := i) W
      have hm1 := hm i (by omega)
      have ht := hR'.2.2.2.2 i hi (msk (st + 1) W x i W) hml
      have hc : wbc Y N W wk (fun k => (msk (st + 1) W x i W).testBit k) (sd i) n = wbc Y N W wk (fun k => decide (dig (st + 1) W x k = i)) (sd i) n := wbc_cong (fun k hk => by rw [msk_bit]; simp [hk])
      rw [hc] at ht
      simp (disch := omega) only [e160_45, i_nat, Nat.add_zero, Nat.not_lt_zero, i_neg, i_lt, i_le, i_eq, i_add, i_addl, i_addr, i_mulr, i_mull, i_subl, i_pred, i_ltl, i_ltr, i_eql, i_em1, cIn_s, cVd_s, cLo_s, ic_true, ic_false, ic_same, i10, eq_self, b2_0, b2_1, b2_and, b2_t, b2_f, ck', h7, hi, hm1, Nat.reduceAdd, ht]
      exact z _ _ _ (by omega) ⟨rfl, rfl⟩
    · rintro G2 lv M2 - ⟨rfl, rfl⟩
      simp (disch := omega) only [e160_45, i_nat, Nat.add_zero, Nat.not_lt_zero, i_neg, i_lt, i_le, i_eq, i_add, i_addl, i_addr, i_mulr, i_mull, i_subl, i_pred, i_ltl, i_ltr, i_eql, i_em1, cIn_s, cVd_s, cLo_s, ic_true, ic_false, ic_same, i10, eq_self, b2_0, b2_1, b2_and, b2_t, b2_f, ck', h7, Nat.lt_irrefl]
      exact Hm_some ⟨rfl, hf⟩
theorem sp161 (hR : RM Y N W wk st sd n M) (hW : W ≤ 4) (hst : st ≤ 6) (hwk : ∀ k, k < W → wk k < 6 ∧ ∀ k', k' < k → wk k' < wk k) (hrow : ∀ k, k < W → M.1 81 k = Int32.ofNat (dig (st + 1) W x k)) : Hm (evD (d + 1) 161 [vR 3 0 69] M) (fun r M' => r = none ∧ (∀ k, k < W → M'.1 70 (wk k) = tko st sd (dig (st + 1) W x k)) ∧ (∀ c, (∀ k, k < W → wk k ≠ c) → M'.1 70 c = M.1 70 c) ∧ Fr (fun c _ => c = 70) M M') := by
  rw [e161]; simp only [lp0_eq]
  refine lp_for (d := d) (x := 161) (pc := 2) W 1 0 (by omega) (fun j lv M' => lv = [some (vR 3 0 69), some (vI (Int32.ofNat j))] ∧ (∀ k, k < j → M'.1 70 (wk k) = tko st sd (dig (st + 1) W x k)) ∧ (∀ c, (∀ k, k < W → wk k ≠ c) → M'.1 70 c = M.1 70 c) ∧ Fr (fun c _ => c = 70) M M') ?_ ?_ W 0 (by omega) 20000 _ M (by omega) ⟨rfl, fun k hk => absurd hk (Nat.not_lt_zero _), fun c _ => rfl, Fr.rf⟩
  · rintro j hj G lv M' - ⟨rfl, h1, h2, hf⟩ z
    obtain ⟨r1, r2, r3, r4, -⟩ := hR.fr hst hf (fun c j h => by omega)
    have hr : M'.1 81 j = Int32.ofNat (dig (st + 1) W x j) := (hf.i (by omega)).trans (hrow j hj)
    have hd := dig_lt (R := st + 1) (W := W) (x := x) (k := j) (by omega)
    obtain ⟨w6, wlt⟩ := hwk j hj
    have fin : ∀ v, v = tko st sd (dig (st + 1) W x j) → Hm (lp d 161 G 2 [some (vR 3 0 69), some (vI (Int32.ofNat (j + 1)))] (sI M' 70 (wk j) v)) (fun r M' => r = none ∧ (∀ k, k < W → M'.1 70 (wk k) = tko st sd (dig (st + 1) W x k)) ∧ (∀ c, (∀ k, k < W → wk k ≠ c) → M'.1 70 c = M.1 70 c) ∧ Fr (fun c _ => c = 70) M M') := by
      rintro v rfl
      refine z _ _ _ (by omega) ⟨rfl, fun k hk => ?_, fun c hc => ?_, hf.sI rfl⟩
      · by_cases y : k = j
        · subst y; rw [sI_eq]
        · have := wlt k (by omega)
          rw [sI_ne (.inr (by omega))]; exact h1 k (by omega)
      · rw [sI_ne (.inr (Ne.symm (hc j hj)))]; exact h2 c hc
    simp (disch := omega) only [e161_2, i_nat, Nat.add_zero, Nat.not_lt_zero, i_neg, i_lt, i_le, i_eq, i_add, i_addl, i_addr, i_mulr, i_mull, i_subl, i_pred, i_ltl, i_ltr, i_eql, i_em1, cIn_s, cVd_s, cLo_s, ic_true, ic_false, ic_same, i10, eq_self, b2_0, b2_1, b2_and, b2_t, b2_f, ck', r1, hj, hr, r2, r3]
    by_cases hlt : dig (st + 1) W x j < st
    · have r5 := r4 (dig (st + 1) W x j) hlt
      simp (disch := omega) only [hlt, ic_true, ck', r5]
      exact fin _ (by unfold tko; rw [if_pos hlt])
    · simp only [hlt, ic_false]
      exact fin _ (by unfold tko; rw [if_neg hlt])
  · rintro G lv M' - ⟨rfl, h1, h2, hf⟩
    have r1 : M'.1 69 5 = Int32.ofNat W := (hf.i (by omega)).trans hR.1
    simp (disch := omega) only [e161_2, i_nat, Nat.add_zero, Nat.not_lt_zero, i_neg, i_lt, i_le, i_eq, i_add, i_addl, i_addr, i_mulr, i_mull, i_subl, i_pred, i_ltl, i_ltr, i_eql, i_em1, cIn_s, cVd_s, cLo_s, ic_true, ic_false, ic_same, i10, eq_self, b2_0, b2_1, b2_and, b2_t, b2_f, ck', r1, Nat.lt_irrefl]
    exact Hm_some ⟨rfl, h1, h2, hf⟩
/-- counting on: where the last j choices are at their end -/
theorem dig_next (hR : 0 < R) (hj : j < W) (hx : x % R ^ j = R ^ j - 1) (hd : dig R W x (W - 1 - j) < R - 1) : ∀ p, p < W → dig R W (x + 1) p = if W - 1 - j < p then 0 else if p = W - 1 - j then dig R W x p + 1 else dig R W x p := by
  intro p hp
  have hpos : 0 < R ^ j := Nat.pow_pos hR
  have e1 : x + 1 = (x / R ^ j + 1) * R ^ j := by
    have := Nat.div_add_mod x (R ^ j)
    rw [Nat.add_mul, Nat.one_mul, Nat.mul_comm]; omega
  unfold dig at hd ⊢
  rw [show W - 1 - (W - 1 - j) = j by omega] at hd
  generalize hq : x / R ^ j = q at *
  by_cases h1 : W - 1 - j < p
  · rw [if_pos h1, e1]
    obtain ⟨f, hf⟩ : ∃ f, j = (W - 1 - p) + (f + 1) := ⟨j - (W - 1 - p) - 1, by omega⟩
    have e2 : (q + 1) * R ^ j = ((q + 1) * R ^ (f + 1)) * R ^ (W - 1 - p) := by rw [hf, Nat.pow_add, Nat.mul_comm (R ^ (W - 1 - p)), Nat.mul_assoc]
    rw [e2, Nat.mul_div_cancel _ (Nat.pow_pos hR), Nat.pow_succ, ← Nat.mul_assoc]
    exact Nat.mul_mod_left _ _
  · rw [if_neg h1]
    obtain ⟨f, hf⟩ : ∃ f, W - 1 - p = j + f := ⟨W - 1 - p - j, by omega⟩
    have e3 : ∀ y, y / R ^ (j + f) = y / R ^ j / R ^ f := fun y => by rw [Nat.pow_add, Nat.div_div_eq_div_mul]
    rw [hf, e3, e3, e1, Nat.mul_div_cancel _ hpos, hq]
    have e4 : (q + 1) / R = q / R := by
      have h2 := Nat.div_add_mod q R
      rw [Nat.div_eq_of_lt_le (k := q / R)]
      · rw [Nat.mul_comm]; omega
      · rw [Nat.add_mul, Nat.one_mul, Nat.mul_comm]; omega
    cases f with
    | zero =>
      have h0 : p = W - 1 - j := by omega
      rw [if_pos h0, Nat.pow_zero, Nat.div_one, Nat.div_one]
      have h2 := Nat.div_add_mod q R
      have h3 := Nat.div_add_mod (q + 1) R
      rw [e4] at h3; omega
    | succ f =>
      rw [if_neg (by omega), Nat.pow_succ, Nat.mul_comm (R ^ f), ← Nat.div_div_eq_div_mul, ← Nat.div_div_eq_div_mul, e4]
theorem dig_wrap (hR : 0 < R) (hx : x % R ^ W = R ^ W - 1) : ∀ p, p < W → dig R W (x + 1) p = 0 := by
  intro p hp
  have e1 : x + 1 = (x / R ^ W + 1) * R ^ W := by
    have := Nat.div_add_mod x (R ^ W)
    have := Nat.pow_pos (n := W) hR
    rw [Nat.add_mul, Nat.one_mul, Nat.mul_comm]; omega
  unfold dig
  rw [e1]
  obtain ⟨f, hf⟩ : ∃ f, W = (W - 1 - p) + (f + 1) := ⟨p, by omega⟩
  have e2 : ∀ q, q * R ^ W = (q * R ^ (f + 1)) * R ^ (W - 1 - p) := fun q => by
    have e3 : R ^ W = R ^ (W - 1 - p) * R ^ (f + 1) := by rw [← Nat.pow_add, ← hf]
    rw [e3, Nat.mul_comm (R ^ (W - 1 - p)), Nat.mul_assoc]
  rw [e2, Nat.mul_div_cancel _ (Nat.pow_pos hR), Nat.pow_succ, ← Nat.mul_assoc]
  exact Nat.mul_mod_left _ _
theorem dig_max (hR : 0 < R) (hj : j < W) (hx : x % R ^ j = R ^ j - 1) (hd : dig R W x (W - 1 - j) = R - 1) : x % R ^ (j + 1) = R ^ (j + 1) - 1 := by
  unfold dig at hd
  rw [show W - 1 - (W - 1 - j) = j by omega] at hd
  have h1 := Nat.mod_mul (a := R ^ j) (b := R) (x := x)
  have hp := Nat.pow_pos (n := j) hR
  rw [Nat.pow_succ, h1, hx, hd]
  have : R ^ j * (R - 1) + R ^ j = R ^ j * R := by
    rw [← Nat.mul_succ]; congr 1; omega
  omega
theorem sp162 (h5 : M.1 69 5 = Int32.ofNat W) (h7 : M.1 69 7 = Int32.ofNat st) (hW : W ≤ 4) (hst : st ≤ 6) (hrow : ∀ k, k < W → M.1 81 k = Int32.ofNat (dig (st + 1) W x k)) : Hm (evD (d + 1) 162 [vR 3 0 69] M) (fun r M' => r = none ∧ (∀ k, k < W → M'.1 81 k = Int32.ofNat (dig (st + 1) W (x + 1) k)) ∧ Fr (fun c _ => c = 81) M M') := by
  rw [e162, h5]; simp only [lp0_eq]
  refine lp_for (d := d) (x := 162) (pc := 7) W 1 0 (by omega) (fun j lv M' => lv = [some (vR 3 0 69), some (vI (Int32.ofNat (W - j) - 1))] ∧ x % (st + 1) ^ j = (st + 1) ^ j - 1 ∧ (∀ k, k < W → M'.1 81 k = Int32.ofNat (if W - j ≤ k then 0 else dig (st + 1) W x k)) ∧ Fr (fun c _ => c = 81) M M') ?_ ?_ W 0 (by omega) 20000 _ M (by omega) ⟨rfl, by rw [Nat.pow_zero]; omega, fun k hk => by rw [if_neg (by omega)]; exact hrow k hk, Fr.rf⟩
  · rintro j hj G lv M' - ⟨rfl, hx, hr, hf⟩ z
    have h7' : M'.1 69 7 = Int32.ofNat st := (hf.i (by omega)).trans h7
    have hk := hr (W - 1 - j) (by omega)
    rw [if_neg (by omega)] at hk
    have hd := dig_lt (R := st + 1) (W := W) (x := x) (k := W - 1 - j) (by omega)
    rw [i_subl (by omega), show W - j - 1 = W - 1 - j by omega]
    simp (disch := omega) only [e162_7, i_nat, Nat.add_zero, Nat.not_lt_zero, i_neg, i_lt, i_le, i_eq, i_add, i_addl, i_addr, i_mulr, i_mull, i_subl, i_pred, i_ltl, i_ltr, i_eql, i_em1, cIn_s, cVd_s, cLo_s, ic_true, ic_false, ic_same, i10, eq_self, b2_0, b2_1, b2_and, b2_t, b2_f, ck', hk, h7']
    by_cases hlt : dig (st + 1) W x (W - 1 - j) < st
    · simp (disch := omega) only [hlt, ic_true]
      refine Hm_some ⟨rfl, fun k hkW => ?_, hf.sI rfl⟩
      have dn := dig_next (R := st + 1) (W := W) (x := x) (j := j) (by omega) hj hx (by omega) k hkW
      rw [dn]
      by_cases y : k = W - 1 - j
      · subst y; rw [sI_eq, if_neg (by omega), if_pos rfl]
      · rw [sI_ne (.inr y), hr k hkW]
        by_cases y2 : W - 1 - j < k
        · rw [if_pos (by omega), if_pos y2]
        · rw [if_neg (by omega), if_neg y2, if_neg y]
    · have hm := dig_max (R := st + 1) (W := W) (x := x) (j := j) (by omega) hj hx (by omega)
      simp (disch := omega) only [hlt, ic_false]
      have em : Int32.ofNat (W - 1 - j) + (-1) = Int32.ofNat (W - (j + 1)) - 1 := by rw [Int32.sub_eq_add_neg, show W - (j + 1) = W - 1 - j by omega]
      have fin := z G [some (vR 3 0 69), some (vI (Int32.ofNat (W - (j + 1)) - 1))] (sI M' 81 (W - 1 - j) 0) (by omega) ⟨rfl, hm, fun k hkW => by
        by_cases y : k = W - 1 - j
        · subst y; rw [sI_eq, if_pos (by omega)]; rfl
        · rw [sI_ne (.inr y), hr k hkW]
          by_cases y2 : W - j ≤ k
          · rw [if_pos y2, if_pos (by omega)]
          · rw [if_neg y2, if_neg (by omega)], hf.sI rfl⟩
      rw [← em] at fin
      first
        | exact fin
        | (by_cases h1 : 1 ≤ W - 1 - j
           · rw [i_pred h1] at fin; exact fin
           · exact fin)
  · rintro G lv M' - ⟨rfl, hx, hr, hf⟩
    rw [Nat.sub_self, e162_7, ic_t (by decide)]
    refine Hm_some ⟨rfl, fun k hk => ?_, hf⟩
    rw [hr k hk, if_pos (by omega), dig_wrap (by omega) hx k hk]
end WORK4
