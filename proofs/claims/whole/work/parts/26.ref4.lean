/-! THE REFERENCE: states copied and begun, sets -/
section REF4
variable {d : Nat} {Y S : YT} {M : Mem} {B B' p q v m x y z : Int32} {a s n c b b' : Nat}
theorem sp259 (hB : B = Int32.ofNat b) (hB' : B' = Int32.ofNat b') (hb : b ≤ 1078) (hb' : b' ≤ 1078) (hd : b + 49 ≤ b' ∨ b' + 49 ≤ b) : Hm (evD (d + 1) 259 [vR 12 0 253, vI B, vI B'] M) (fun r M' => r = none ∧ (∀ j, j < 49 → M'.1 269 (b' + j) = M.1 269 (b + j)) ∧ Fr (fun c j => c = 269 ∧ b' ≤ j ∧ j < b' + 49) M M') := by
  subst hB hB'
  rw [e259]; simp only [lp0_eq]
  refine lp_for (d := d) (x := 259) (pc := 2) 49 1 0 (by omega) (fun i lv M' => lv = [some (vR 12 0 253), some (vI (Int32.ofNat b)), some (vI (Int32.ofNat b')), some (vI (Int32.ofNat i))] ∧ (∀ j, j < i → M'.1 269 (b' + j) = M.1 269 (b + j)) ∧ Fr (fun c j => c = 269 ∧ b' ≤ j ∧ j < b' + 49) M M') ?_ ?_ 49 0 (by omega) 20000 _ M (by omega) ⟨rfl, fun j hj => by omega, Fr.rf⟩
  · rintro i hi G lv M' - ⟨rfl, hc, hf⟩ z
    simp (disch := omega) only [e259_2, i_nat, Nat.add_zero, Nat.not_lt_zero, i_neg, i_lt, i_le, i_eq, i_add, i_addl, i_addr, i_mulr, i_mull, i_subl, i_pred, i_ltl, i_ltr, i_eql, i_em1, cIn_s, cVd_s, cLo_s, ic_true, ic_false, ic_same, i10, eq_self, b2_0, b2_1, b2_and, b2_t, b2_f, ck', hi]
    refine z _ _ _ (by omega) ⟨rfl, fun j hj => ?_, hf.sI (by omega)⟩
    by_cases e : j = i
    · subst e; rw [sI_eq]; exact hf.i (by omega)
    · rw [sI_ne (by omega)]; exact hc j (by omega)
  · rintro G lv M' - ⟨rfl, hc, hf⟩
    simp (disch := omega) only [e259_2, i_nat, Nat.add_zero, Nat.not_lt_zero, i_neg, i_lt, i_le, i_eq, i_add, i_addl, i_addr, i_mulr, i_mull, i_subl, i_pred, i_ltl, i_ltr, i_eql, i_em1, cIn_s, cVd_s, cLo_s, ic_true, ic_false, ic_same, i10, eq_self, b2_0, b2_1, b2_and, b2_t, b2_f, ck', Nat.lt_irrefl]
    exact Hm_some ⟨rfl, hc, hf⟩
theorem SR.cp {M' : Mem} (h : SR Y S b M) (hN : YN Y) (hc : ∀ j, j < 49 → M'.1 269 (b' + j) = M.1 269 (b + j)) : SR Y S b' M' := by
  have h6 := hN.A6
  obtain ⟨h1, h2, h3, h4⟩ := h
  have k : ∀ i e, i + e < 49 → M'.1 269 (b' + i + e) = M.1 269 (b + i + e) := fun i e he => by
    have := hc (i + e) he
    rwa [← Nat.add_assoc, ← Nat.add_assoc] at this
  refine ⟨by have := hc 0 (by omega); rw [Nat.add_zero, Nat.add_zero] at this; rw [this, h1], fun e he => ?_, fun x hx => ?_, fun e he hu => ?_⟩
  · rw [k 1 e (by omega), k 7 e (by omega), k 13 e (by omega), k 25 e (by omega), k 43 e (by omega)]; exact h2 e he
  · rw [k 31 x (by omega), k 37 x (by omega)]; exact h3 x hx
  · rw [k 19 e (by omega)]; exact h4 e he hu
theorem sp259S (hB : B = Int32.ofNat b) (hB' : B' = Int32.ofNat b') (hN : YN Y) (hS : SR Y S b M) (hb : b ≤ 1078) (hb' : b' ≤ 1078) (hd : b + 49 ≤ b' ∨ b' + 49 ≤ b) : Hm (evD (d + 1) 259 [vR 12 0 253, vI B, vI B'] M) (fun r M' => r = none ∧ SR Y S b' M' ∧ Fr (fun c j => c = 269 ∧ b' ≤ j ∧ j < b' + 49) M M') :=
  Hm_mono (sp259 hB hB' hb hb' hd) (fun _ _ h => ⟨h.1, hS.cp hN h.2.1, h.2.2⟩)
theorem sp196 (hB : B = Int32.ofNat b) (hR : YR Y M) (hN : YN Y) (hb : b ≤ 1078) : Hm (evD (d + 2) 196 [vR 12 0 253, vI B] M) (fun r M' => r = none ∧ SR Y (staS Y) b M' ∧ Fr (fun c j => c = 269 ∧ b ≤ j ∧ j < b + 49) M M') := by
  have h6 := hN.A6
  subst hB
  rw [e196]; simp only [lp0_eq]
  refine lp_for (d := d + 1) (x := 196) (pc := 2) 49 1 100 (by omega) (fun i lv M' => lv = [some (vR 12 0 253), some (vI (Int32.ofNat b)), some (vI (Int32.ofNat i))] ∧ (∀ j, j < i → M'.1 269 (b + j) = 0) ∧ Fr (fun c j => c = 269 ∧ b ≤ j ∧ j < b + 49) M M') ?_ ?_ 49 0 (by omega) 20000 _ M (by omega) ⟨rfl, fun j hj => by omega, Fr.rf⟩
  · rintro i hi G lv M' - ⟨rfl, hc, hf⟩ z
    simp (disch := omega) only [e196_2, i_nat, Nat.add_zero, Nat.not_lt_zero, i_neg, i_lt, i_le, i_eq, i_add, i_addl, i_addr, i_mulr, i_mull, i_subl, i_pred, i_ltl, i_ltr, i_eql, i_em1, cIn_s, cVd_s, cLo_s, ic_true, ic_false, ic_same, i10, eq_self, b2_0, b2_1, b2_and, b2_t, b2_f, ck', hi]
    refine z _ _ _ (by omega) ⟨rfl, fun j hj => ?_, hf.sI (by omega)⟩
    by_cases e : j = i
    · subst e; rw [sI_eq]
    · rw [sI_ne (by omega)]; exact hc j (by omega)
  · rintro G lv M' hG ⟨rfl, hc, hf⟩
    simp (disch := omega) only [e196_2, i_nat, Nat.add_zero, Nat.not_lt_zero, i_neg, i_lt, i_le, i_eq, i_add, i_addl, i_addr, i_mulr, i_mull, i_subl, i_pred, i_ltl, i_ltr, i_eql, i_em1, cIn_s, cVd_s, cLo_s, ic_true, ic_false, ic_same, i10, eq_self, b2_0, b2_1, b2_and, b2_t, b2_f, ck', Nat.lt_irrefl]
    refine lp_for (d := d + 1) (x := 196) (pc := 25) 6 1 0 (by omega) (fun i lv M2 => lv = [some (vR 12 0 253), some (vI (Int32.ofNat b)), some (vI (Int32.ofNat i))] ∧ (∀ j, j < 49 → (j < 7 ∨ 13 ≤ j) → (j < 31 ∨ 37 ≤ j) → j < 43 → M2.1 269 (b + j) = 0) ∧ (∀ e, e < i → M2.1 269 (b + 31 + e) = -1 ∧ M2.1 269 (b + 43 + e) = -1 ∧ (e < nA Y → M2.1 269 (b + 7 + e) = Y 14 e)) ∧ Fr (fun c j => c = 269 ∧ b ≤ j ∧ j < b + 49) M M2) ?_ ?_ 6 0 (by omega) _ _ M' (by omega) ⟨rfl, fun j h1 _ _ _ => hc j h1, fun e he => by omega, hf⟩
    · rintro i hi G2 lv M2 - ⟨rfl, h0, he, hf2⟩ z
      have hR2 : YR Y M2 := hR.fr hf2 (fun c j h1 h2 => by omega)
      simp (disch := omega) only [e196_25, i_nat, Nat.add_zero, Nat.not_lt_zero, i_neg, i_lt, i_le, i_eq, i_add, i_addl, i_addr, i_mulr, i_mull, i_subl, i_pred, i_ltl, i_ltr, i_eql, i_em1, cIn_s, cVd_s, cLo_s, ic_true, ic_false, ic_same, i10, eq_self, b2_0, b2_1, b2_and, b2_t, b2_f, ck', hi, sp197 hR2 hN]
      refine Hm_ic (fun h => ?_) (fun h => ?_)
      · have r1 := (hR2.1.2.2.2.1 i h).2.1
        simp (disch := omega) only [sp198 (p := 1) 1 rfl, i_nat, Nat.add_zero, Nat.not_lt_zero, i_neg, i_lt, i_le, i_eq, i_add, i_addl, i_addr, i_mulr, i_mull, i_subl, i_pred, i_ltl, i_ltr, i_eql, i_em1, cIn_s, cVd_s, cLo_s, ic_true, ic_false, ic_same, i10, eq_self, b2_0, b2_1, b2_and, b2_t, b2_f, ck', r1]
        refine z _ _ _ (by omega) ⟨rfl, fun j h1 h2 h3 h4 => ?_, fun e hee => ?_, ((hf2.sI (by omega)).sI (by omega)).sI (by omega)⟩
        · rw [sI_ne (by omega), sI_ne (by omega), sI_ne (by omega)]; exact h0 j h1 h2 h3 h4
        · by_cases y : e = i
          · subst y; simp (disch := omega) only [sI_eq, sI_eq', sI_ne, sJ_1, sR_1]; exact ⟨trivial, trivial, fun _ => trivial⟩
          · simp (disch := omega) only [sI_eq, sI_eq', sI_ne, sJ_1, sR_1]; exact he e (by omega)
      · refine z _ _ _ (by omega) ⟨rfl, fun j h1 h2 h3 h4 => ?_, fun e hee => ?_, ((hf2.sI (by omega)).sI (by omega)).sI (by omega)⟩
        · rw [sI_ne (by omega), sI_ne (by omega), sI_ne (by omega)]; exact h0 j h1 h2 h3 h4
        · by_cases y : e = i
          · subst y; simp (disch := omega) only [sI_eq, sI_eq', sI_ne, sJ_1, sR_1]; exact ⟨trivial, trivial, fun k => absurd k h⟩
          · simp (disch := omega) only [sI_eq, sI_eq', sI_ne, sJ_1, sR_1]; exact he e (by omega)
    · rintro G2 lv M2 - ⟨rfl, h0, he, hf2⟩
      simp (disch := omega) only [e196_25, i_nat, Nat.add_zero, Nat.not_lt_zero, i_neg, i_lt, i_le, i_eq, i_add, i_addl, i_addr, i_mulr, i_mull, i_subl, i_pred, i_ltl, i_ltr, i_eql, i_em1, cIn_s, cVd_s, cLo_s, ic_true, ic_false, ic_same, i10, eq_self, b2_0, b2_1, b2_and, b2_t, b2_f, ck', Nat.lt_irrefl]
      refine Hm_some ⟨rfl, ?_, hf2⟩
      have z7 : staS Y 0 7 = 0 := rfl
      have z8 : staS Y 0 8 = 0 := rfl
      have z9 : staS Y 0 9 = 0 := rfl
      have k : ∀ i e, i + e < 49 → (i + e < 7 ∨ 13 ≤ i + e) → (i + e < 31 ∨ 37 ≤ i + e) → i + e < 43 → M2.1 269 (b + i + e) = 0 := fun i e q1 q2 q3 q4 => by rw [Nat.add_assoc]; exact h0 (i + e) q1 q2 q3 q4
      refine ⟨?_, fun e hee => ?_, fun x hx => ?_, fun e hee hu => ?_⟩
      · exact h0 0 (by omega) (by omega) (by omega) (by omega)
      · obtain ⟨-, q2, q3⟩ := he e (by omega)
        refine ⟨?_, q3 hee, ?_, ?_, q2⟩
        · rw [k 1 e (by omega) (by omega) (by omega) (by omega)]; unfold how; rw [z7, z8, bt_0]; rfl
        · exact k 13 e (by omega) (by omega) (by omega) (by omega)
        · exact k 25 e (by omega) (by omega) (by omega) (by omega)
      · refine ⟨(he x hx).1, ?_⟩
        rw [k 37 x (by omega) (by omega) (by omega) (by omega), z9, bt_0]; rfl
      · unfold up at hu; rw [z7, bt_0] at hu; cases hu
theorem bt_rf (P : Nat → Bool) : ∀ n, n ≤ 32 → ∀ e, e < 32 → bt (rf (fun x a => x ||| (if P a then 1 <<< (Int32.ofNat a &&& 31) else 0)) 0 n) e = (decide (e < n) && P e)
  | 0, _, e, _ => by simp [rf, bt_0]
  | n + 1, hn, e, he => by
    have ih := bt_rf P n (by omega) e he
    simp only [rf]
    rw [bt_or, ih]
    by_cases h : P n
    · simp only [h, if_true, bt_sh (show n < 32 by omega) he]
      by_cases z : e = n
      · subst z; simp [h]
      · simp only [z, decide_false, Bool.or_false]
        have : decide (e < n) = decide (e < n + 1) := by rw [decide_eq_decide]; omega
        rw [this]
    · simp only [h, bt_0]
      by_cases z : e = n
      · subst z; simp [h, bt_0]
      · have : decide (e < n) = decide (e < n + 1) := by rw [decide_eq_decide]; omega
        simp [this, bt_0]
theorem sp304 (hR : YR Y M) (hN : YN Y) (hS : SR Y S 0 M) : evD (d + 2) 304 [vR 12 0 253, vI p] M = some (some (vI (rf (fun x a => x ||| (if decide (how S a = p) then 1 <<< (Int32.ofNat a &&& 31) else 0)) 0 (nA Y))), M) := by
  have h6 := hN.A6
  have h : Hm (evD (d + 2) 304 [vR 12 0 253, vI p] M) (fun r M' => r = some (vI (rf (fun x a => x ||| (if decide (how S a = p) then 1 <<< (Int32.ofNat a &&& 31) else 0)) 0 (nA Y))) ∧ M' = M) := by
    rw [e304]; simp only [lp0_eq]
    refine lp_for (d := d + 1) (x := 304) (pc := 4) (nA Y) 1 0 (by omega) (fun i lv M' => lv = [some (vR 12 0 253), some (vI p), some (vI (rf (fun x a => x ||| (if decide (how S a = p) then 1 <<< (Int32.ofNat a &&& 31) else 0)) 0 i)), some (vI (Int32.ofNat i))] ∧ M' = M) ?_ ?_ (nA Y) 0 (by omega) 20000 _ M (by omega) ⟨rfl, rfl⟩
    · rintro i hi G lv M' - ⟨rfl, rfl⟩ z
      have e := (hS.2.1 i hi).1
      rw [Nat.zero_add] at e
      simp (disch := omega) only [e304_4, i_nat, Nat.add_zero, Nat.not_lt_zero, i_neg, i_lt, i_le, i_eq, i_add, i_addl, i_addr, i_mulr, i_mull, i_subl, i_pred, i_ltl, i_ltr, i_eql, i_em1, cIn_s, cVd_s, cLo_s, ic_true, ic_false, ic_same, i10, eq_self, b2_0, b2_1, b2_and, b2_t, b2_f, ck', sp197 hR hN, hi, e]
      refine Hm_ic (fun h => ?_) (fun h => ?_)
      · exact z _ _ _ (by omega) ⟨by simp [rf, h], rfl⟩
      · exact z _ _ _ (by omega) ⟨by simp [rf, h], rfl⟩
    · rintro G lv M' - ⟨rfl, rfl⟩
      simp (disch := omega) only [e304_4, i_nat, Nat.add_zero, Nat.not_lt_zero, i_neg, i_lt, i_le, i_eq, i_add, i_addl, i_addr, i_mulr, i_mull, i_subl, i_pred, i_ltl, i_ltr, i_eql, i_em1, cIn_s, cVd_s, cLo_s, ic_true, ic_false, ic_same, i10, eq_self, b2_0, b2_1, b2_and, b2_t, b2_f, ck', sp197 hR hN, Nat.lt_irrefl]
      exact Hm_some ⟨rfl, rfl⟩
  obtain ⟨a, M', h1, h2, h3⟩ := h
  rw [h1, h2, h3]
theorem upM (hN : YN Y) (hI : SI Y n S) : rf (fun x a => x ||| (if decide (how S a = 1) then 1 <<< (Int32.ofNat a &&& 31) else 0)) 0 (nA Y) = S 0 7 &&& (S 0 8 ^^^ (-1)) := by
  have h6 := hN.A6
  refine bt_ext (fun e he => ?_)
  rw [bt_rf _ _ (by omega) e he, bt_and, bt_not he]
  have hb := hI.bits he
  by_cases h : e < nA Y
  · simp only [h, decide_true, Bool.true_and]
    rw [Bool.eq_iff_iff, decide_eq_true_eq, how_1 hI he]; rfl
  · simp only [h, decide_false, Bool.false_and]
    cases h7 : bt (S 0 7) e
    · rfl
    · exact absurd (hb.2.1 h7) h
theorem faM (hN : YN Y) (hI : SI Y n S) : rf (fun x a => x ||| (if decide (how S a = 2) then 1 <<< (Int32.ofNat a &&& 31) else 0)) 0 (nA Y) = S 0 8 := by
  have h6 := hN.A6
  refine bt_ext (fun e he => ?_)
  rw [bt_rf _ _ (by omega) e he]
  have hb := hI.bits he
  by_cases h : e < nA Y
  · simp only [h, decide_true, Bool.true_and]
    rw [Bool.eq_iff_iff, decide_eq_true_eq, how_2]
  · simp only [h, decide_false, Bool.false_and]
    cases h8 : bt (S 0 8) e
    · rfl
    · exact absurd (hb.2.1 (hb.1 h8)) h
theorem sp305 (hR : YR Y M) (hN : YN Y) (hS : SR Y S 0 M) (hI : SI Y n S) : evD (d + 2) 305 [vR 12 0 253] M = some (some (vI (toldN Y S)), M) := by
  have h6 := hN.A6
  have h : Hm (evD (d + 2) 305 [vR 12 0 253] M) (fun r M' => r = some (vI (toldN Y S)) ∧ M' = M) := by
    rw [e305]; simp only [lp0_eq]
    refine lp_for (d := d + 1) (x := 305) (pc := 4) (nA Y) 1 0 (by omega) (fun i lv M' => lv = [some (vR 12 0 253), some (vI (rf (fun x a => x + (if S 6 a = -1 then 0 else 1)) 0 i)), some (vI (Int32.ofNat i))] ∧ M' = M) ?_ ?_ (nA Y) 0 (by omega) 20000 _ M (by omega) ⟨rfl, rfl⟩
    · rintro i hi G lv M' - ⟨rfl, rfl⟩ z
      have e := (hS.2.1 i hi).2.2.2.2
      rw [Nat.zero_add] at e
      have hT := (hI.a hi).2.2.2.2.2.2
      simp (disch := omega) only [e305_4, i_nat, Nat.add_zero, Nat.not_lt_zero, i_neg, i_lt, i_le, i_eq, i_add, i_addl, i_addr, i_mulr, i_mull, i_subl, i_pred, i_ltl, i_ltr, i_eql, i_em1, cIn_s, cVd_s, cLo_s, ic_true, ic_false, ic_same, i10, eq_self, b2_0, b2_1, b2_and, b2_t, b2_f, ck', sp197 hR hN, hi, e]
      refine Hm_ic (fun h => ?_) (fun h => ?_)
      · have : S 6 i = -1 := by
          rcases hT with k | k
          · exact k
          · unfold rg at k; rw [t_lt, t_0] at h; omega
        exact z _ _ _ (by omega) ⟨by simp [rf, this], rfl⟩
      · have : ¬ S 6 i = -1 := fun k => by rw [k] at h; exact h (by decide)
        exact z _ _ _ (by omega) ⟨by simp [rf, this], rfl⟩
    · rintro G lv M' - ⟨rfl, rfl⟩
      simp (disch := omega) only [e305_4, i_nat, Nat.add_zero, Nat.not_lt_zero, i_neg, i_lt, i_le, i_eq, i_add, i_addl, i_addr, i_mulr, i_mull, i_subl, i_pred, i_ltl, i_ltr, i_eql, i_em1, cIn_s, cVd_s, cLo_s, ic_true, ic_false, ic_same, i10, eq_self, b2_0, b2_1, b2_and, b2_t, b2_f, ck', sp197 hR hN, Nat.lt_irrefl]
      exact Hm_some ⟨rfl, rfl⟩
  obtain ⟨a, M', h1, h2, h3⟩ := h
  rw [h1, h2, h3]
end REF4
