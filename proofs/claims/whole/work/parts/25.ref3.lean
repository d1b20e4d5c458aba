/-! THE REFERENCE'S STATES, further: what may be done and is done -/
section REF3
variable {d : Nat} {Y S : YT} {M : Mem} {B p q v m x y z : Int32} {a s n c b : Nat} {tall props deg done : Int32}
theorem sp257 (hB : B = Int32.ofNat b) (hR : YR Y M) (hN : YN Y) (hS : SR Y S b M) (hI : SI Y n S) (hb : b ≤ 1078) (hs : s < 1000) : evD (d + 4) 257 [vR 12 0 253, vI B, vI (Int32.ofNat s)] M = some (some (vI (b2 (free Y S (Int32.ofNat s)))), M) := by
  have h6 := hN.A6
  subst hB
  have h : Hm (evD (d + 4) 257 [vR 12 0 253, vI (Int32.ofNat b), vI (Int32.ofNat s)] M) (fun r M' => r = some (vI (b2 (free Y S (Int32.ofNat s)))) ∧ M' = M) := by
    rw [e257]; simp only [lp0_eq]
    refine lp_for (d := d + 3) (x := 257) (pc := 5) (nA Y) 1 0 (by omega) (fun i lv M' => lv = [some (vR 12 0 253), some (vI (Int32.ofNat b)), some (vI (Int32.ofNat s)), some (vI (b2 (decide (∀ a, a < i → S 4 a ≠ Int32.ofNat s)))), some (vI (Int32.ofNat i))] ∧ M' = M) ?_ ?_ (nA Y) 0 (by omega) 20000 _ M (by omega) ⟨by simp [b2], rfl⟩
    · rintro i hi G lv M' - ⟨rfl, rfl⟩ z
      have st : decide (∀ a, a < i + 1 → S 4 a ≠ Int32.ofNat s) = (decide (∀ a, a < i → S 4 a ≠ Int32.ofNat s) && !decide (S 4 i = Int32.ofNat s)) := by
        rw [Bool.eq_iff_iff]
        simp only [decide_eq_true_eq, Bool.and_eq_true, Bool.not_eq_true', decide_eq_false_iff_not]
        refine ⟨fun h => ⟨fun a ha => h a (by omega), h i (by omega)⟩, fun h a ha => ?_⟩
        by_cases e : a = i
        · subst e; exact h.2
        · exact h.1 a (by omega)
      rw [st] at z
      simp (disch := omega) only [e257_5, sp197 hR hN, i_nat, Nat.add_zero, Nat.not_lt_zero, i_neg, i_lt, i_le, i_eq, i_add, i_addl, i_addr, i_mulr, i_mull, i_subl, i_pred, i_ltl, i_ltr, i_eql, i_em1, cIn_s, cVd_s, cLo_s, ic_true, ic_false, ic_same, i10, eq_self, b2_0, b2_1, b2_and, b2_t, b2_f, ck', hi]
      cases hd : decide (∀ a, a < i → S 4 a ≠ Int32.ofNat s)
      · simp only [hd, ic_true] at z ⊢
        exact z _ _ _ (by omega) ⟨rfl, rfl⟩
      · simp only [hd, Bool.true_eq_false, ic_false, sp238 rfl hR hN hS hI hb hi, cIn_s, b2_0] at z ⊢
        cases hu : up S i
        · have e4 := (hI.a hi).2.2.1 hu
          simp only [ic_true]
          refine z _ _ _ (by omega) ⟨?_, rfl⟩
          rw [e4]
          have : ¬ ((-1 : Int32) = Int32.ofNat s) := fun k => by have := i_em1 (a := s) (by omega); rw [← this]; exact k.symm
          simp [this, b2]
        · have e4 := hS.2.2.2 i hi hu
          simp (disch := omega) only [Bool.true_eq_false, ic_false, i_nat, Nat.add_zero, Nat.not_lt_zero, i_neg, i_lt, i_le, i_eq, i_add, i_addl, i_addr, i_mulr, i_mull, i_subl, i_pred, i_ltl, i_ltr, i_eql, i_em1, ck', e4]
          refine Hm_ic (fun h => ?_) (fun h => ?_)
          · exact z _ _ _ (by omega) ⟨by simp [h, b2], rfl⟩
          · exact z _ _ _ (by omega) ⟨by simp [h, b2], rfl⟩
    · rintro G lv M' - ⟨rfl, rfl⟩
      simp (disch := omega) only [e257_5, sp197 hR hN, i_nat, Nat.add_zero, Nat.not_lt_zero, i_neg, i_lt, i_le, i_eq, i_add, i_addl, i_addr, i_mulr, i_mull, i_subl, i_pred, i_ltl, i_ltr, i_eql, i_em1, cIn_s, cVd_s, cLo_s, ic_true, ic_false, ic_same, i10, eq_self, b2_0, b2_1, b2_and, b2_t, b2_f, ck', Nat.lt_irrefl]
      exact Hm_some ⟨rfl, rfl⟩
  obtain ⟨a, M', h1, h2, h3⟩ := h
  rw [h1, h2, h3]
theorem sp256 (hB : B = Int32.ofNat b) (hR : YR Y M) (hN : YN Y) (hS : SR Y S b M) (hI : SI Y n S) (hb : b ≤ 1078) (ha : a < nA Y) (hs : s < 1000) : evD (d + 5) 256 [vR 12 0 253, vI B, vI (Int32.ofNat a), vI (Int32.ofNat s)] M = some (some (vI (b2 (mayB Y S a (Int32.ofNat s)))), M) := by
  have h6 := hN.A6
  have h := sp257 (d := d) hB hR hN hS hI hb hs
  subst hB
  simp (disch := omega) only [e256, h, i_nat, Nat.add_zero, Nat.not_lt_zero, i_neg, i_lt, i_le, i_eq, i_add, i_addl, i_addr, i_mulr, i_mull, i_subl, i_pred, i_ltl, i_ltr, i_eql, i_em1, cIn_s, cVd_s, cLo_s, ic_true, ic_false, ic_same, i10, eq_self, b2_0, b2_1, b2_and, b2_t, b2_f, ck', hS, how_0 hI, mayB]
  cases bt (S 0 7) a <;> cases free Y S (Int32.ofNat s) <;> simp [ic_true, ic_false, b2]
theorem sp260 (hB : B = Int32.ofNat b) (hN : YN Y) (hS : SR Y S b M) (hI : SI Y n S) (hb : b ≤ 1078) (ha : a < nA Y) (hg : bt (S 0 7) a = false) : Hm (evD (d + 1) 260 [vR 12 0 253, vI B, vI (Int32.ofNat a), vI q] M) (fun r M' => r = none ∧ SR Y (begS S a q) b M' ∧ Fr (fun c j => c = 269 ∧ b ≤ j ∧ j < b + 49) M M') := by
  have h6 := hN.A6
  subst hB
  simp (disch := omega) only [e260, i_nat, Nat.add_zero, Nat.not_lt_zero, i_neg, i_lt, i_le, i_eq, i_add, i_addl, i_addr, i_mulr, i_mull, i_subl, i_pred, i_ltl, i_ltr, i_eql, i_em1, cIn_s, cVd_s, cLo_s, ic_true, ic_false, ic_same, i10, eq_self, b2_0, b2_1, b2_and, b2_t, b2_f, ck']
  refine Hm_some ⟨rfl, ?_, (Fr.rf.sI (by omega)).sI (by omega)⟩
  obtain ⟨h1, h2, h3, h4⟩ := hS
  have hf : bt (S 0 8) a = false := by
    have := (hI.bits (show a < 32 by omega)).1
    cases q : bt (S 0 8) a
    · rfl
    · rw [this q] at hg; cases hg
  have e7 : ∀ e, e < 32 → bt (begS S a q 0 7) e = (bt (S 0 7) e || decide (e = a)) := fun e he => by
    unfold begS; simp (disch := omega) only [us_ne, us_eq', bt_set]
  have e8 : begS S a q 0 8 = S 0 8 := by unfold begS; simp (disch := omega) only [us_ne]
  refine ⟨?_, fun e he => ?_, fun c hc => ?_, fun e he hu => ?_⟩
  · unfold begS; simp (disch := omega) only [sI_ne, us_ne, h1]
  · obtain ⟨k1, k2, k3, k4, k5⟩ := h2 e he
    unfold how at *
    rw [e7 e (by omega), e8]
    unfold begS
    by_cases z : e = a
    · subst z; simp (disch := omega) only [sI_ne, sI_eq', us_ne, k2, k3, k4, k5, and_self, hf]; simp
    · simp (disch := omega) only [sI_ne, us_ne, k1, k2, k3, k4, k5, and_self]; simp [z]
  · unfold begS; simp (disch := omega) only [sI_ne, us_ne, h3 c hc, and_self]
  · by_cases z : e = a
    · subst z; unfold begS; rw [us_eq, sI_eq]
    · have hu' : up S e = true := by
        unfold up at hu ⊢; rw [e7 e (by omega), e8] at hu; simpa [z] using hu
      unfold begS; simp (disch := omega) only [sI_ne, us_ne, h4 e he hu']
theorem sp262 (hB : B = Int32.ofNat b) (hR : YR Y M) (hN : YN Y) (hS : SR Y S b M) (hI : SI Y n S) (hb : b ≤ 1078) (hc : c < 6) (ha : a < nA Y) : evD (d + 4) 262 [vR 12 0 253, vI B, vI (Int32.ofNat c), vI (Int32.ofNat a)] M = some (some (vI (b2 (mayC Y S c a))), M) := by
  have h6 := hN.A6
  have h := sp238 (d := d) hB hR hN hS hI hb ha
  subst hB
  simp (disch := omega) only [e262, h, i_nat, Nat.add_zero, Nat.not_lt_zero, i_neg, i_lt, i_le, i_eq, i_add, i_addl, i_addr, i_mulr, i_mull, i_subl, i_pred, i_ltl, i_ltr, i_eql, i_em1, cIn_s, cVd_s, cLo_s, ic_true, ic_false, ic_same, i10, eq_self, b2_0, b2_1, b2_and, b2_t, b2_f, ck', hS, sp239 hR hN ha, ic_b2, mayC, isD, Bool.not_not]
  cases bt (S 0 9) c
  · by_cases h : S 5 c = -1
    · cases up S a <;> simp [ic_true, ic_false, b2, h]
    · simp [ic_true, ic_false, b2, h]
  · simp [ic_false, b2]
theorem sp263 (hB : B = Int32.ofNat b) (hR : YR Y M) (hN : YN Y) (hL : YL Y) (hS : SR Y S b M) (hb : b ≤ 1078) (hc : c < nC Y) (ha : a < nA Y) : Hm (evD (d + 3) 263 [vR 12 0 253, vI B, vI (Int32.ofNat c), vI (Int32.ofNat a)] M) (fun r M' => r = some (vI (chp Y c (S 1 a) (S 2 a))) ∧ SR Y (carS Y S c a) b M' ∧ Fr (fun c j => c = 267 ∨ c = 268 ∨ (c = 269 ∧ b ≤ j ∧ j < b + 49)) M M') := by
  have h6 := hN.A6
  have hC := hN.C6
  subst hB
  have r2 := (hR.1.2.2.1 c hc).2
  have fin : ∀ (M1 : Mem) (v : Int32) (F : Nat), Fr (fun c _ => c = 267 ∨ c = 268) M M1 → M1.1 267 4 = S 2 a → v = lawv (Y 24) (nK Y) (Y 12 c) (S 1 a) (S 2 a) → 10 ≤ F → Hm (lp (d + 2) 263 F 85 [some (vR 12 0 253), some (vI (Int32.ofNat b)), some (vI (Int32.ofNat c)), some (vI (Int32.ofNat a)), some (vI v)] M1) (fun r M' => r = some (vI (chp Y c (S 1 a) (S 2 a))) ∧ SR Y (carS Y S c a) b M' ∧ Fr (fun c j => c = 267 ∨ c = 268 ∨ (c = 269 ∧ b ≤ j ∧ j < b + 49)) M M') := by
    intro M1 v F hf h4 hv hF
    obtain ⟨G, rfl⟩ : ∃ G, F = G + 10 := ⟨F - 10, by omega⟩
    have hS1 : SR Y S b M1 := hS.fr h6 hf (fun j h1 h2 => by omega)
    have last : ∀ w, w = chp Y c (S 1 a) (S 2 a) → ∀ G' o, Hm (lp (d + 2) 263 (G' + 1) 142 [some (vR 12 0 253), some (vI (Int32.ofNat b)), some (vI (Int32.ofNat c)), some (vI (Int32.ofNat a)), o] (sI M1 269 (b + 13 + a) w)) (fun r M' => r = some (vI (chp Y c (S 1 a) (S 2 a))) ∧ SR Y (carS Y S c a) b M' ∧ Fr (fun c j => c = 267 ∨ c = 268 ∨ (c = 269 ∧ b ≤ j ∧ j < b + 49)) M M') := by
      rintro w rfl G' o
      simp (disch := omega) only [e263_142, i_nat, Nat.add_zero, Nat.not_lt_zero, i_neg, i_lt, i_le, i_eq, i_add, i_addl, i_addr, i_mulr, i_mull, i_subl, i_pred, i_ltl, i_ltr, i_eql, i_em1, cIn_s, cVd_s, cLo_s, ic_true, ic_false, ic_same, i10, eq_self, b2_0, b2_1, b2_and, b2_t, b2_f, ck', sI_eq, sI_eq', sI_ne, sJ_1, sR_1]
      refine Hm_some ⟨rfl, ?_, ((hf.up (fun c j h => by omega)).sI (by omega)).sI (by omega)⟩
      obtain ⟨h1, h2, h3, h4⟩ := hS1
      unfold carS
      refine ⟨?_, fun e he => ?_, fun x hx => ?_, fun e he hu => ?_⟩
      · simp (disch := omega) only [sI_ne, us_ne, h1]
      · obtain ⟨k1, k2, k3, k4, k5⟩ := h2 e he
        unfold how at *
        by_cases z : e = a
        · subst z; simp (disch := omega) only [sI_ne, sI_eq', us_ne, us_eq', k1, k2, k4, k5, and_self]
        · simp (disch := omega) only [sI_ne, us_ne, k1, k2, k3, k4, k5, and_self]
      · by_cases z : x = c
        · subst z; simp (disch := omega) only [sI_ne, sI_eq', us_ne, us_eq', h3 x hx, and_self]
        · simp (disch := omega) only [sI_ne, us_ne, h3 x hx, and_self]
      · have hu' : up S e = true := by unfold up at *; simpa (disch := omega) only [us_ne] using hu
        simp (disch := omega) only [sI_ne, us_ne, h4 e he hu']
    have mid : ∀ w, w = imax 0 (imin 99 v) → Hm (lp (d + 2) 263 (G + 9) 117 [some (vR 12 0 253), some (vI (Int32.ofNat b)), some (vI (Int32.ofNat c)), some (vI (Int32.ofNat a)), some (vI (S 2 a + w))] M1) (fun r M' => r = some (vI (chp Y c (S 1 a) (S 2 a))) ∧ SR Y (carS Y S c a) b M' ∧ Fr (fun c j => c = 267 ∨ c = 268 ∨ (c = 269 ∧ b ≤ j ∧ j < b + 49)) M M') := by
      rintro w rfl
      have e : chp Y c (S 1 a) (S 2 a) = (if 99 < S 2 a + imax 0 (imin 99 v) then 99 else S 2 a + imax 0 (imin 99 v)) := by rw [min99, hv]; rfl
      rw [show G + 9 = (G + 8) + 1 from rfl, e263_117]
      refine Hm_ic (fun h1 => ?_) (fun h1 => ?_)
      · simp (disch := omega) only [i_nat, Nat.add_zero, Nat.not_lt_zero, i_neg, i_lt, i_le, i_eq, i_add, i_addl, i_addr, i_mulr, i_mull, i_subl, i_pred, i_ltl, i_ltr, i_eql, i_em1, cIn_s, cVd_s, cLo_s, ic_true, ic_false, ic_same, i10, eq_self, b2_0, b2_1, b2_and, b2_t, b2_f, ck']
        exact last _ (by rw [e, if_pos h1]) (G + 7) _
      · simp (disch := omega) only [i_nat, Nat.add_zero, Nat.not_lt_zero, i_neg, i_lt, i_le, i_eq, i_add, i_addl, i_addr, i_mulr, i_mull, i_subl, i_pred, i_ltl, i_ltr, i_eql, i_em1, cIn_s, cVd_s, cLo_s, ic_true, ic_false, ic_same, i10, eq_self, b2_0, b2_1, b2_and, b2_t, b2_f, ck']
        exact last _ (by rw [e, if_neg h1]) (G + 7) _
    rw [show G + 10 = (G + 9) + 1 from rfl, e263_85, h4]
    refine Hm_ic (fun h1 => ?_) (fun h1 => Hm_ic (fun h2 => ?_) (fun h2 => ?_))
    · exact mid _ (by rw [← clamp99, if_pos h1])
    · exact mid _ (by rw [← clamp99, if_neg h1, if_pos h2])
    · exact mid _ (by rw [← clamp99, if_neg h1, if_neg h2])
  have hf3 : Fr (fun c _ => c = 267 ∨ c = 268) M (sI (sI (sI M 267 2 (S 1 a)) 267 3 (Y 12 c)) 267 4 (S 2 a)) := ((Fr.rf.sI (by omega)).sI (by omega)).sI (by omega)
  rw [e263]
  simp (disch := omega) only [i_nat, Nat.add_zero, Nat.not_lt_zero, i_neg, i_lt, i_le, i_eq, i_add, i_addl, i_addr, i_mulr, i_mull, i_subl, i_pred, i_ltl, i_ltr, i_eql, i_em1, cIn_s, cVd_s, cLo_s, ic_true, ic_false, ic_same, i10, eq_self, b2_0, b2_1, b2_and, b2_t, b2_f, ck', sI_eq, sI_eq', sI_ne, sJ_1, sR_1, hS, r2, lp0_eq]
  rcases hR.2.2.2 with ⟨h1, h2⟩ | ⟨f, h1, h2⟩
  · simp only [h1, show ((-1 : Int32) < 0) = True by decide, ic_true]
    exact fin _ _ _ hf3 (by simp (disch := omega) only [sI_eq, sI_eq', sI_ne, sJ_1, sR_1]) (h2 _ _ _).symm (by omega)
  · have hl := h2.1
    simp (disch := omega) only [h1, i_nat, Nat.add_zero, Nat.not_lt_zero, i_neg, i_lt, i_le, i_eq, i_add, i_addl, i_addr, i_mulr, i_mull, i_subl, i_pred, i_ltl, i_ltr, i_eql, i_em1, cIn_s, cVd_s, cLo_s, ic_true, ic_false, ic_same, i10, eq_self, b2_0, b2_1, b2_and, b2_t, b2_f, ck']
    refine Hm_cIv (sp244 (g := gK) (code := Y 24) (n := nK Y) (f := f) (x := Y 12 c) (y := S 1 a) (z := S 2 a) (fun j hj => by unfold gK; split <;> (try split) <;> omega) hL.2.2.2 ?_ ?_ ?_ ?_) (fun M1 hf => ?_)
    · unfold LRc at h2 ⊢
      refine ⟨h2.1, ?_, fun i hi => ?_⟩
      · simp (disch := omega) only [sI_eq, sI_eq', sI_ne, sJ_1, sR_1]; exact h2.2.1
      · simp (disch := omega) only [sI_eq, sI_eq', sI_ne, sJ_1, sR_1]; exact h2.2.2 i hi
    · show _ = _; simp (disch := omega) only [show gK 0 = 3 from rfl, sI_eq, sI_eq', sI_ne, sJ_1, sR_1]
    · show _ = _; simp (disch := omega) only [show gK 1 = 2 from rfl, sI_eq, sI_eq', sI_ne, sJ_1, sR_1]
    · show _ = _; simp (disch := omega) only [show gK 2 = 4 from rfl, sI_eq, sI_eq', sI_ne, sJ_1, sR_1]
    · refine fin _ _ _ (hf3.tr (hf.up (fun c j h => .inr h))) ?_ rfl (by omega)
      rw [hf.i (by omega)]; simp (disch := omega) only [sI_eq, sI_eq', sI_ne, sJ_1, sR_1]
theorem sp265 (hB : B = Int32.ofNat b) (hR : YR Y M) (hN : YN Y) (hS : SR Y S b M) (hI : SI Y n S) (hb : b ≤ 1078) (ha : a < nA Y) : evD (d + 4) 265 [vR 12 0 253, vI B, vI (Int32.ofNat a)] M = some (some (vI (b2 (mayP S a))), M) := by
  have h6 := hN.A6
  have h := sp238 (d := d) hB hR hN hS hI hb ha
  subst hB
  simp (disch := omega) only [e265, h, i_nat, Nat.add_zero, Nat.not_lt_zero, i_neg, i_lt, i_le, i_eq, i_add, i_addl, i_addr, i_mulr, i_mull, i_subl, i_pred, i_ltl, i_ltr, i_eql, i_em1, cIn_s, cVd_s, cLo_s, ic_true, ic_false, ic_same, i10, eq_self, b2_0, b2_1, b2_and, b2_t, b2_f, ck', hS, ic_b2, mayP]
  cases up S a <;> simp [ic_true, ic_false, b2]
theorem SR_prp (hN : YN Y) (hS : SR Y S b M) (ha : a < nA Y) : SR Y (us S 3 a v) b (sI M 269 (b + 25 + a) v) := by
  have h6 := hN.A6
  obtain ⟨h1, h2, h3, h4⟩ := hS
  refine ⟨?_, fun e he => ?_, fun x hx => ?_, fun e he hu => ?_⟩
  · simp (disch := omega) only [sI_ne, us_ne, h1]
  · obtain ⟨k1, k2, k3, k4, k5⟩ := h2 e he
    unfold how at *
    by_cases z : e = a
    · subst z; simp (disch := omega) only [sI_ne, sI_eq', us_ne, us_eq', k1, k2, k3, k5, and_self]
    · simp (disch := omega) only [sI_ne, us_ne, k1, k2, k3, k4, k5, and_self]
  · simp (disch := omega) only [sI_ne, us_ne, h3 x hx, and_self]
  · have hu' : up S e = true := by unfold up at *; simpa (disch := omega) only [us_ne] using hu
    simp (disch := omega) only [sI_ne, us_ne, h4 e he hu']
theorem SR_tel (hN : YN Y) (hS : SR Y S b M) (ha : a < nA Y) : SR Y (us S 6 a v) b (sI M 269 (b + 43 + a) v) := by
  have h6 := hN.A6
  obtain ⟨h1, h2, h3, h4⟩ := hS
  refine ⟨?_, fun e he => ?_, fun x hx => ?_, fun e he hu => ?_⟩
  · simp (disch := omega) only [sI_ne, us_ne, h1]
  · obtain ⟨k1, k2, k3, k4, k5⟩ := h2 e he
    unfold how at *
    by_cases z : e = a
    · subst z; simp (disch := omega) only [sI_ne, sI_eq', us_ne, us_eq', k1, k2, k3, k4, and_self]
    · simp (disch := omega) only [sI_ne, us_ne, k1, k2, k3, k4, k5, and_self]
  · simp (disch := omega) only [sI_ne, us_ne, h3 x hx, and_self]
  · have hu' : up S e = true := by unfold up at *; simpa (disch := omega) only [us_ne] using hu
    simp (disch := omega) only [sI_ne, us_ne, h4 e he hu']
theorem sp267 (hB : B = Int32.ofNat b) (hN : YN Y) (hS : SR Y S b M) (hI : SI Y n S) (hb : b ≤ 1078) (ha : a < nA Y) (hu : up S a = true) : Hm (evD (d + 1) 267 [vR 12 0 253, vI B, vI (Int32.ofNat a)] M) (fun r M' => r = some (vI (losS S a 1 1 a)) ∧ SR Y (losS S a 1) b M' ∧ Fr (fun c j => c = 269 ∧ b ≤ j ∧ j < b + 49) M M') := by
  have h6 := hN.A6
  subst hB
  have f1 := (hI.sp ha hu).2.2
  have f2 := (hI.a ha).2.2.2.1
  have e : S 1 a - 1 = imax 0 (S 1 a - 1) := by
    unfold rg at f2
    rw [t_eq, t_max, t_sub (by rw [t_1]; omega) (by rw [t_1]; omega), t_0, t_1]; omega
  have hz := los_0 (S := S) (a := a) (v := 1) (by unfold rg; rw [t_1]; omega) f2
  have e1 : losS S a 1 1 a = imax 0 (S 1 a - 1) := by unfold losS; split <;> simp (disch := omega) only [us_ne, us_eq']
  simp (disch := omega) only [e267, i_nat, Nat.add_zero, Nat.not_lt_zero, i_neg, i_lt, i_le, i_eq, i_add, i_addl, i_addr, i_mulr, i_mull, i_subl, i_pred, i_ltl, i_ltr, i_eql, i_em1, cIn_s, cVd_s, cLo_s, ic_true, ic_false, ic_same, i10, eq_self, b2_0, b2_1, b2_and, b2_t, b2_f, ck', hS, sI_eq, sI_eq', sI_ne, sJ_1, sR_1]
  rw [e1, e]
  simp only [hz]
  rw [← e]
  refine Hm_ic (fun h => ?_) (fun h => ?_)
  · rw [e]; exact Hm_some ⟨by simp only [← e], SR_los1 hS hN ha h, (Fr.rf.sI (by omega)).sI (by omega)⟩
  · have hl : losF S a 1 = false := by revert h; cases losF S a 1 <;> simp
    have hh : how S a = 1 := (how_1 hI (show a < 32 by omega)).mpr hu
    have s0 := SR_los0 hS hN ha hl
    rw [e]
    refine Hm_some ⟨by simp only [← e], ?_, (Fr.rf.sI (by omega)).sI (by omega)⟩
    have : sI (sI M 269 (b + 7 + a) (imax 0 (S 1 a - 1))) 269 (b + 1 + a) 1 = sI M 269 (b + 7 + a) (imax 0 (S 1 a - 1)) := by
      have k : (sI M 269 (b + 7 + a) (imax 0 (S 1 a - 1))).1 269 (b + 1 + a) = 1 := by
        simp (disch := omega) only [sI_ne, hS, hh]
      have := sI_id (M := sI M 269 (b + 7 + a) (imax 0 (S 1 a - 1))) (k := 269) (j := b + 1 + a)
      rw [k] at this; exact this
    rw [this]; exact s0
end REF3
