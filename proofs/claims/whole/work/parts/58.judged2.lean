/-! JUDGED: the reference -/
section JUDGED2
variable {Y S N : YT} {t n d L : Nat} {ln : Nat → Nat → Int32} {p x : Int32} {a b : Int32} {M M' : Mem}
def RW (c j : Nat) : Prop := c = 267 ∨ c = 268 ∨ (c = 269 ∧ 1029 ≤ j) ∨ (c = 253 ∧ (j = 0 ∨ j = 39))
theorem sp273 (hR : YR Y M) (hN : YN Y) (hL : YL Y) (hS : SR Y S 1029 M) (hI : SI Y n S) (hn : n < 1000000) (h : lokj Y x a b) : Hm (evD (d + 8) 273 [vR 12 0 253, vI x, vI a, vI b] M) (fun r M' => r = some (vI (b2 (fcan Y S x a b))) ∧ SR Y (fdo Y S x a b) 1029 M' ∧ Fr RW M M') := by
  have h6 := hN.A6
  have h6' := hN.C6
  have h6b := hN.B6
  have ab : ∀ z : Bool, (b2 z &&& 1 = b2 z) = True := fun z => eq_true (by cases z <;> decide)
  have k10 : ((1 : Int32) = 0) = False := by decide
  have k20 : ((2 : Int32) = 0) = False := by decide
  have k21 : ((2 : Int32) = 1) = False := by decide
  have k30 : ((3 : Int32) = 0) = False := by decide
  have k31 : ((3 : Int32) = 1) = False := by decide
  have k32 : ((3 : Int32) = 2) = False := by decide
  have k40 : ((4 : Int32) = 0) = False := by decide
  have k41 : ((4 : Int32) = 1) = False := by decide
  have k42 : ((4 : Int32) = 2) = False := by decide
  have k43 : ((4 : Int32) = 3) = False := by decide
  have k04 : ((0 : Int32) = 4) = False := by decide
  have k14 : ((1 : Int32) = 4) = False := by decide
  have k24 : ((2 : Int32) = 4) = False := by decide
  have k34 : ((3 : Int32) = 4) = False := by decide
  rcases h with ⟨rfl, i, s, hi, hs, rfl, rfl⟩ | ⟨rfl, c, i, hc', hi, rfl, rfl⟩ | ⟨rfl, i, hi, rfl⟩ | ⟨rfl, i, hi, rfl⟩ | rfl
  · have ei : tn (Int32.ofNat i) = i := i_nat (by omega)
    have e1 : fcan Y S 0 (Int32.ofNat i) (Int32.ofNat s) = mayB Y S i (Int32.ofNat s) := by simp only [fcan, if_true, ei]
    have e2 : fdo Y S 0 (Int32.ofNat i) (Int32.ofNat s) = if mayB Y S i (Int32.ofNat s) then begS S i (Int32.ofNat s) else S := by simp only [fdo, e1, if_true, ei]
    rw [e1, e2]
    by_cases h : mayB Y S i (Int32.ofNat s) = true
    · have hg : bt (S 0 7) i = false := by unfold mayB at h; revert h; cases bt (S 0 7) i <;> simp
      simp (disch := omega) only [e273, e273_75, lp0_eq, k04, sp256 (B := 1029) (b := 1029) rfl hR hN hS hI (by omega) hi (show s < 1000 by omega), h, i_nat, Nat.add_zero, Nat.not_lt_zero, i_neg, i_lt, i_le, i_eq, i_add, i_addl, i_addr, i_mulr, i_mull, i_subl, i_pred, i_ltl, i_ltr, i_eql, i_em1, cIn_s, cVd_s, cLo_s, ic_true, ic_false, ic_same, i10, eq_self, b2_0, b2_1, b2_and, b2_t, b2_f, ck']
      refine Hm_cVv (sp260 (B := 1029) (b := 1029) rfl hN hS hI (by omega) hi hg) (fun M1 h1 => ?_)
      simp (disch := omega) only [e273_160, ab, i_nat, Nat.add_zero, Nat.not_lt_zero, i_neg, i_lt, i_le, i_eq, i_add, i_addl, i_addr, i_mulr, i_mull, i_subl, i_pred, i_ltl, i_ltr, i_eql, i_em1, cIn_s, cVd_s, cLo_s, ic_true, ic_false, ic_same, i10, eq_self, b2_0, b2_1, b2_and, b2_t, b2_f, ck', if_true, show ((1 : Int32) &&& 1 = 1) = True by decide]
      exact Hm_some ⟨rfl, h1.1, h1.2.up (fun c j h => by unfold RW; omega)⟩
    · simp (disch := omega) only [e273, e273_75, e273_96, e273_119, e273_146, e273_160, lp0_eq, k04, sp256 (B := 1029) (b := 1029) rfl hR hN hS hI (by omega) hi (show s < 1000 by omega), nf h, show ((0 : Int32) &&& 1 = 0) = True by decide, i_nat, Nat.add_zero, Nat.not_lt_zero, i_neg, i_lt, i_le, i_eq, i_add, i_addl, i_addr, i_mulr, i_mull, i_subl, i_pred, i_ltl, i_ltr, i_eql, i_em1, cIn_s, cVd_s, cLo_s, ic_true, ic_false, ic_same, i10, eq_self, b2_0, b2_1, b2_and, b2_t, b2_f, ck']
      exact Hm_some ⟨rfl, by rw [if_neg (by decide)]; exact hS, Fr.rf⟩
  · have ei : tn (Int32.ofNat i) = i := i_nat (by omega)
    have ec : tn (Int32.ofNat c) = c := i_nat (by omega)
    have e1 : fcan Y S 1 (Int32.ofNat c) (Int32.ofNat i) = mayC Y S c i := by simp only [fcan, k10, if_false, if_true, ei, ec]
    have e2 : fdo Y S 1 (Int32.ofNat c) (Int32.ofNat i) = if mayC Y S c i then carS Y S c i else S := by simp only [fdo, k10, if_false, e1, if_true, ei, ec]
    rw [e1, e2]
    by_cases h : mayC Y S c i = true
    · simp (disch := omega) only [e273, e273_75, e273_96, lp0_eq, k14, k10, sp262 (B := 1029) (b := 1029) rfl hR hN hS hI (by omega) (show c < 6 by omega) hi, h, i_nat, Nat.add_zero, Nat.not_lt_zero, i_neg, i_lt, i_le, i_eq, i_add, i_addl, i_addr, i_mulr, i_mull, i_subl, i_pred, i_ltl, i_ltr, i_eql, i_em1, cIn_s, cVd_s, cLo_s, ic_true, ic_false, ic_same, i10, eq_self, b2_0, b2_1, b2_and, b2_t, b2_f, ck']
      refine Hm_cIv (sp263 (B := 1029) (b := 1029) rfl hR hN hL hS (by omega) hc' hi) (fun M1 h1 => ?_)
      simp (disch := omega) only [e273_160, i_nat, Nat.add_zero, Nat.not_lt_zero, i_neg, i_lt, i_le, i_eq, i_add, i_addl, i_addr, i_mulr, i_mull, i_subl, i_pred, i_ltl, i_ltr, i_eql, i_em1, cIn_s, cVd_s, cLo_s, ic_true, ic_false, ic_same, i10, eq_self, b2_0, b2_1, b2_and, b2_t, b2_f, ck', if_true, show ((1 : Int32) &&& 1 = 1) = True by decide]
      exact Hm_some ⟨rfl, h1.1, h1.2.up (fun c j h => by unfold RW; omega)⟩
    · simp (disch := omega) only [e273, e273_75, e273_96, e273_119, e273_146, e273_160, lp0_eq, k14, k10, sp262 (B := 1029) (b := 1029) rfl hR hN hS hI (by omega) (show c < 6 by omega) hi, nf h, show ((0 : Int32) &&& 1 = 0) = True by decide, i_nat, Nat.add_zero, Nat.not_lt_zero, i_neg, i_lt, i_le, i_eq, i_add, i_addl, i_addr, i_mulr, i_mull, i_subl, i_pred, i_ltl, i_ltr, i_eql, i_em1, cIn_s, cVd_s, cLo_s, ic_true, ic_false, ic_same, i10, eq_self, b2_0, b2_1, b2_and, b2_t, b2_f, ck']
      exact Hm_some ⟨rfl, by rw [if_neg (by decide)]; exact hS, Fr.rf⟩
  · have ei : tn (Int32.ofNat i) = i := i_nat (by omega)
    have e1 : fcan Y S 2 (Int32.ofNat i) b = mayP S i := by simp only [fcan, if_true, ei, k20, k21, if_false]
    have e2 : fdo Y S 2 (Int32.ofNat i) b = if mayP S i then us S 3 i (S 3 i + 1) else S := by simp only [fdo, e1, if_true, ei, k20, k21, if_false]
    rw [e1, e2]
    by_cases h : mayP S i = true
    · have e3 : M.1 269 (1054 + i) = S 3 i := by have := (hS.2.1 i hi).2.2.2.1; exact this
      simp (disch := omega) only [e273, e273_75, e273_96, e273_119, e273_160, lp0_eq, k24, k20, k21, sp265 (B := 1029) (b := 1029) rfl hR hN hS hI (by omega) hi, h, e3, show ((1 : Int32) &&& 1 = 1) = True by decide, i_nat, Nat.add_zero, Nat.not_lt_zero, i_neg, i_lt, i_le, i_eq, i_add, i_addl, i_addr, i_mulr, i_mull, i_subl, i_pred, i_ltl, i_ltr, i_eql, i_em1, cIn_s, cVd_s, cLo_s, ic_true, ic_false, ic_same, i10, eq_self, b2_0, b2_1, b2_and, b2_t, b2_f, ck', if_true]
      exact Hm_some ⟨rfl, SR_prp (b := 1029) hN hS hi, Fr.rf.sI (by unfold RW; omega)⟩
    · simp (disch := omega) only [e273, e273_75, e273_96, e273_119, e273_146, e273_160, lp0_eq, k24, k20, k21, sp265 (B := 1029) (b := 1029) rfl hR hN hS hI (by omega) hi, nf h, show ((0 : Int32) &&& 1 = 0) = True by decide, i_nat, Nat.add_zero, Nat.not_lt_zero, i_neg, i_lt, i_le, i_eq, i_add, i_addl, i_addr, i_mulr, i_mull, i_subl, i_pred, i_ltl, i_ltr, i_eql, i_em1, cIn_s, cVd_s, cLo_s, ic_true, ic_false, ic_same, i10, eq_self, b2_0, b2_1, b2_and, b2_t, b2_f, ck']
      exact Hm_some ⟨rfl, by rw [if_neg (by decide)]; exact hS, Fr.rf⟩
  · have ei : tn (Int32.ofNat i) = i := i_nat (by omega)
    have e1 : fcan Y S 3 (Int32.ofNat i) b = up S i := by simp only [fcan, if_true, ei, k30, k31, k32, if_false]
    have e2 : fdo Y S 3 (Int32.ofNat i) b = if up S i then losS S i 1 else S := by simp only [fdo, e1, if_true, ei, k30, k31, k32, if_false]
    rw [e1, e2]
    by_cases h : up S i = true
    · simp (disch := omega) only [e273, e273_75, e273_96, e273_119, e273_146, lp0_eq, k34, k30, k31, k32, sp238 (B := 1029) (b := 1029) rfl hR hN hS hI (by omega) hi, h, i_nat, Nat.add_zero, Nat.not_lt_zero, i_neg, i_lt, i_le, i_eq, i_add, i_addl, i_addr, i_mulr, i_mull, i_subl, i_pred, i_ltl, i_ltr, i_eql, i_em1, cIn_s, cVd_s, cLo_s, ic_true, ic_false, ic_same, i10, eq_self, b2_0, b2_1, b2_and, b2_t, b2_f, ck', if_true]
      refine Hm_cIv (sp267 (B := 1029) (b := 1029) rfl hN hS hI (by omega) hi h) (fun M1 h1 => ?_)
      simp (disch := omega) only [e273_160, i_nat, Nat.add_zero, Nat.not_lt_zero, i_neg, i_lt, i_le, i_eq, i_add, i_addl, i_addr, i_mulr, i_mull, i_subl, i_pred, i_ltl, i_ltr, i_eql, i_em1, cIn_s, cVd_s, cLo_s, ic_true, ic_false, ic_same, i10, eq_self, b2_0, b2_1, b2_and, b2_t, b2_f, ck', if_true, show ((1 : Int32) &&& 1 = 1) = True by decide]
      exact Hm_some ⟨rfl, h1.1, h1.2.up (fun c j h => by unfold RW; omega)⟩
    · simp (disch := omega) only [e273, e273_75, e273_96, e273_119, e273_146, e273_160, lp0_eq, k34, k30, k31, k32, sp238 (B := 1029) (b := 1029) rfl hR hN hS hI (by omega) hi, nf h, show ((0 : Int32) &&& 1 = 0) = True by decide, i_nat, Nat.add_zero, Nat.not_lt_zero, i_neg, i_lt, i_le, i_eq, i_add, i_addl, i_addr, i_mulr, i_mull, i_subl, i_pred, i_ltl, i_ltr, i_eql, i_em1, cIn_s, cVd_s, cLo_s, ic_true, ic_false, ic_same, i10, eq_self, b2_0, b2_1, b2_and, b2_t, b2_f, ck']
      exact Hm_some ⟨rfl, by rw [if_neg (by decide)]; exact hS, Fr.rf⟩
  · have e1 : fcan Y S 4 a b = true := by simp only [fcan, k40, k41, k42, k43, if_false]
    have e2 : fdo Y S 4 a b = nitS Y S 0 := by simp only [fdo, e1, if_true, k40, k41, k42, k43, if_false]
    rw [e1, e2]
    simp only [e273, eq_self, ic_true]
    refine Hm_cIv (sp269 (B := 1029) (b := 1029) (m := 0) rfl hR hN hL hS hI hn (by omega)) (fun M1 h1 => ?_)
    exact Hm_some ⟨rfl, h1.1, h1.2.up (fun c j h => by unfold RW; omega)⟩
theorem m1_lt : ((-1 : Int32) < 0) = True := by decide
theorem wlt {w : Int32} (h : w = -1 ∨ ∃ k, k < 40 ∧ w = Int32.ofNat k) : (w < 0) = (w = -1) := by
  rcases h with rfl | ⟨k, hk, rfl⟩
  · decide
  · rw [i_em1 (by omega)]; exact eq_false (i_neg (by omega))
theorem fdo_b {i : Nat} (h : ln 0 i ≠ 0) (h1 : ln 0 i ≠ 1) : fdo Y S (ln 0 i) a b = fdo Y S (ln 0 i) a 0 ∧ fcan Y S (ln 0 i) a b = fcan Y S (ln 0 i) a 0 := by
  have : fcan Y S (ln 0 i) a b = fcan Y S (ln 0 i) a 0 := by simp only [fcan, h, h1, if_false]
  exact ⟨by simp only [fdo, h, h1, if_false, this], this⟩
theorem fdo_4 {i : Nat} {a' b' : Int32} (h : ln 0 i = 4) : fdo Y S (ln 0 i) a b = fdo Y S (ln 0 i) a' b' ∧ fcan Y S (ln 0 i) a b = fcan Y S (ln 0 i) a' b' := by
  have k40 : ((4 : Int32) = 0) = False := by decide
  have k41 : ((4 : Int32) = 1) = False := by decide
  have k42 : ((4 : Int32) = 2) = False := by decide
  have k43 : ((4 : Int32) = 3) = False := by decide
  rw [h]; simp only [fdo, fcan, k40, k41, k42, k43, if_false, if_true, and_self]
theorem rlines {i : Nat} (hl : LRr L ln M) (hi : i < L) (h : lnok Y ln i) : ∃ a b, M.1 266 (1 + 3 * i) = ln 0 i ∧ M.1 266 (2 + 3 * i) = a ∧ M.1 266 (3 + 3 * i) = b ∧ lokj Y (ln 0 i) a b ∧ ∀ S, fdo Y S (ln 0 i) a b = fdo Y S (ln 0 i) (ln 1 i) (ln 2 i) ∧ fcan Y S (ln 0 i) a b = fcan Y S (ln 0 i) (ln 1 i) (ln 2 i) := by
  obtain ⟨l1, l2, l3⟩ := hl.2 i hi
  refine ⟨M.1 266 (2 + 3 * i), M.1 266 (3 + 3 * i), l1, rfl, rfl, ?_, ?_⟩
  · rcases lokj_of h with ⟨h, z⟩ | ⟨h, z⟩ | ⟨h, z⟩ | ⟨h, z⟩ | h
    · rw [l2 (by rw [h]; decide), l3 (.inl h)]; exact .inl ⟨h, z⟩
    · rw [l2 (by rw [h]; decide), l3 (.inr h)]; exact .inr (.inl ⟨h, z⟩)
    · rw [l2 (by rw [h]; decide)]; exact .inr (.inr (.inl ⟨h, z⟩))
    · rw [l2 (by rw [h]; decide)]; exact .inr (.inr (.inr (.inl ⟨h, z⟩)))
    · exact .inr (.inr (.inr (.inr h)))
  · intro S
    rcases lokj_of h with ⟨h, z⟩ | ⟨h, z⟩ | ⟨h, z⟩ | ⟨h, z⟩ | h
    · rw [l2 (by rw [h]; decide), l3 (.inl h)]; exact ⟨rfl, rfl⟩
    · rw [l2 (by rw [h]; decide), l3 (.inr h)]; exact ⟨rfl, rfl⟩
    · rw [l2 (by rw [h]; decide), (fdo_b (a := ln 1 i) (b := M.1 266 (3 + 3 * i)) (by rw [h]; decide) (by rw [h]; decide)).1, (fdo_b (a := ln 1 i) (b := M.1 266 (3 + 3 * i)) (by rw [h]; decide) (by rw [h]; decide)).2]
      exact ⟨(fdo_b (by rw [h]; decide) (by rw [h]; decide)).1.symm, (fdo_b (by rw [h]; decide) (by rw [h]; decide)).2.symm⟩
    · rw [l2 (by rw [h]; decide), (fdo_b (a := ln 1 i) (b := M.1 266 (3 + 3 * i)) (by rw [h]; decide) (by rw [h]; decide)).1, (fdo_b (a := ln 1 i) (b := M.1 266 (3 + 3 * i)) (by rw [h]; decide) (by rw [h]; decide)).2]
      exact ⟨(fdo_b (by rw [h]; decide) (by rw [h]; decide)).1.symm, (fdo_b (by rw [h]; decide) (by rw [h]; decide)).2.symm⟩
    · exact fdo_4 h
theorem sp272 (hw : wi p 0 2 = true) (hR : YR Y M) (hN : YN Y) (hL : YL Y) (hG : YG Y) (hl : LRr L ln M) (hL40 : L ≤ 40) (h : ∀ i, i < L → lnok Y ln i) : Hm (evD (d + 10) 272 [vR 12 0 253, vI p] M) (fun r M' => r = some (vI (if p = 0 then (jud Y ln L).2.1 else if p = 1 then (jud Y ln L).2.2 else wor Y (force Y (jud Y ln L).1))) ∧ Fr RW M M') := by
  have fr0 : Fr RW M (sI M 253 0 0) := Fr.rf.sI (by unfold RW; omega)
  have hR1 : YR Y (sI M 253 0 0) := hR.fr fr0 (fun c j a1 a2 => by unfold RW; omega)
  simp (disch := omega) only [e272, sp222, hw, i_nat, Nat.add_zero, Nat.not_lt_zero, i_neg, i_lt, i_le, i_eq, i_add, i_addl, i_addr, i_mulr, i_mull, i_subl, i_pred, i_ltl, i_ltr, i_eql, i_em1, cIn_s, cVd_s, cLo_s, ic_true, ic_false, ic_same, i10, eq_self, b2_0, b2_1, b2_and, b2_t, b2_f, ck']
  refine Hm_cVv (sp196 (B := 1029) (b := 1029) rfl hR1 hN (by omega)) (fun M0 h0 => ?_)
  have fM0 : Fr RW M M0 := fr0.tr (h0.2.up (fun c j h => by unfold RW; omega))
  rw [lp0_eq]
  refine lp_for (d := d + 9) (x := 272) (pc := 31) L 5 0 (by omega) (fun i lv M1 => (∃ o5 o6, lv = [some (vR 12 0 253), some (vI p), some (vI (jud Y ln i).2.1), some (vI (jud Y ln i).2.2), some (vI (Int32.ofNat i)), o5, o6]) ∧ SR Y (jud Y ln i).1 1029 M1 ∧ Fr RW M M1) ?_ ?_ L 0 (by omega) 20000 _ _ (by omega) ⟨⟨none, none, rfl⟩, h0.1, fM0⟩
  · rintro i hi G lv M1 - ⟨⟨o5, o6, rfl⟩, hS, hf⟩ z
    have hl1 : LRr L ln M1 := ⟨(hf.i (by unfold RW; omega)).trans hl.1, fun i hi => by rw [hf.i (by unfold RW; omega), hf.i (by unfold RW; omega), hf.i (by unfold RW; omega)]; exact hl.2 i hi⟩
    have hR1 : YR Y M1 := hR.fr hf (fun c j a1 a2 => by unfold RW; omega)
    obtain ⟨a, b, la, lb, lc, lk, lq⟩ := rlines hl1 hi (h i hi)
    have w12 := jud_w (Y := Y) (ln := ln) i (by omega)
    simp (disch := omega) only [e272_31, hl1.1, la, lb, lc, eq_true hi, i_nat, Nat.add_zero, Nat.not_lt_zero, i_neg, i_lt, i_le, i_eq, i_add, i_addl, i_addr, i_mulr, i_mull, i_subl, i_pred, i_ltl, i_ltr, i_eql, i_em1, cIn_s, cVd_s, cLo_s, ic_true, ic_false, ic_same, i10, eq_self, b2_0, b2_1, b2_and, b2_t, b2_f, ck']
    refine Hm_cIv (sp273 hR1 hN hL hS (jud_SI hN hG h hL40 i (by omega)) (by omega) lk) (fun M2 h2 => ?_)
    rw [(lq _).1] at h2
    rw [(lq _).2]
    have f2 : Fr RW M M2 := hf.tr h2.2
    have hR2 : YR Y M2 := hR.fr f2 (fun c j a1 a2 => by unfold RW; omega)
    have hI2 : SI Y (i + 1) (jud Y ln (i + 1)).1 := jud_SI hN hG h hL40 (i + 1) (by omega)
    have tail : ∀ G', G + 2 ≤ G' → ∀ o6, Hm (lp (d + 9) 272 (G' + 1) 101 [some (vR 12 0 253), some (vI p), some (vI (jud Y ln (i + 1)).2.1), some (vI (jud Y ln i).2.2), some (vI (Int32.ofNat i)), some (vI (ln 0 i)), o6] M2) (fun r M' => r = some (vI (if p = 0 then (jud Y ln L).2.1 else if p = 1 then (jud Y ln L).2.2 else wor Y (force Y (jud Y ln L).1))) ∧ Fr RW M M') := by
      intro G' hG' o6
      obtain ⟨G'', rfl⟩ : ∃ G'', G' = G'' + 2 := ⟨G' - 2, by omega⟩
      by_cases c5 : (jud Y ln i).2.2 = -1
      · by_cases c4 : ln 0 i = 4
        · have hfo := sp250 (d := d + 4) (B := 1029) (b := 1029) rfl hR2 hN h2.1 hI2 (by omega)
          by_cases c6 : force Y (jud Y ln (i + 1)).1 = 0
          · have e6 : force Y (fdo Y (jud Y ln i).1 (ln 0 i) (ln 1 i) (ln 2 i)) = 0 := c6
            have hfo' : evD (d + 9) 250 [vR 12 0 253, vI 1029] M2 = some (some (vI 0), M2) := by rw [← c6]; exact hfo
            simp (disch := omega) only [e272_101, e272_128, c5, hfo', eq_true c4, m1_lt, i_nat, Nat.add_zero, Nat.not_lt_zero, i_neg, i_lt, i_le, i_eq, i_add, i_addl, i_addr, i_mulr, i_mull, i_subl, i_pred, i_ltl, i_ltr, i_eql, i_em1, cIn_s, cVd_s, cLo_s, ic_true, ic_false, ic_same, i10, eq_self, b2_0, b2_1, b2_and, b2_t, b2_f, ck']
            refine z _ _ _ (by omega) ⟨⟨some (vI (ln 0 i)), o6, ?_⟩, h2.1, f2⟩
            have : (jud Y ln (i + 1)).2.2 = Int32.ofNat i := by
              rw [jud_s]; simp only [jst]; rw [if_pos ⟨c5, c4, e6⟩]
            rw [this]
          · have e6 : ¬ force Y (fdo Y (jud Y ln i).1 (ln 0 i) (ln 1 i) (ln 2 i)) = 0 := c6
            have hfo' : evD (d + 9) 250 [vR 12 0 253, vI 1029] M2 = some (some (vI (force Y (fdo Y (jud Y ln i).1 (ln 0 i) (ln 1 i) (ln 2 i)))), M2) := hfo
            simp (disch := omega) only [e272_101, e272_126, e272_128, c5, hfo', eq_true c4, m1_lt, eq_false e6, i_nat, Nat.add_zero, Nat.not_lt_zero, i_neg, i_lt, i_le, i_eq, i_add, i_addl, i_addr, i_mulr, i_mull, i_subl, i_pred, i_ltl, i_ltr, i_eql, i_em1, cIn_s, cVd_s, cLo_s, ic_true, ic_false, ic_same, i10, eq_self, b2_0, b2_1, b2_and, b2_t, b2_f, ck']
            refine z _ _ _ (by omega) ⟨⟨some (vI (ln 0 i)), o6, ?_⟩, h2.1, f2⟩
            have : (jud Y ln (i + 1)).2.2 = -1 := by
              rw [jud_s]; simp only [jst]; rw [if_neg (fun h => e6 h.2.2)]; exact c5
            rw [this]
        · simp (disch := omega) only [e272_101, e272_126, e272_128, c5, eq_false c4, m1_lt, i_nat, Nat.add_zero, Nat.not_lt_zero, i_neg, i_lt, i_le, i_eq, i_add, i_addl, i_addr, i_mulr, i_mull, i_subl, i_pred, i_ltl, i_ltr, i_eql, i_em1, cIn_s, cVd_s, cLo_s, ic_true, ic_false, ic_same, i10, eq_self, b2_0, b2_1, b2_and, b2_t, b2_f, ck']
          refine z _ _ _ (by omega) ⟨⟨some (vI (ln 0 i)), o6, ?_⟩, h2.1, f2⟩
          have : (jud Y ln (i + 1)).2.2 = -1 := by
            rw [jud_s]; simp only [jst]; rw [if_neg (fun h => c4 h.2.1)]; exact c5
          rw [this]
      · have hlt : ((jud Y ln i).2.2 < 0) = False := (wlt w12.2).trans (eq_false c5)
        simp (disch := omega) only [e272_101, e272_126, e272_128, hlt, i_nat, Nat.add_zero, Nat.not_lt_zero, i_neg, i_lt, i_le, i_eq, i_add, i_addl, i_addr, i_mulr, i_mull, i_subl, i_pred, i_ltl, i_ltr, i_eql, i_em1, cIn_s, cVd_s, cLo_s, ic_true, ic_false, ic_same, i10, eq_self, b2_0, b2_1, b2_and, b2_t, b2_f, ck']
        refine z _ _ _ (by omega) ⟨⟨some (vI (ln 0 i)), o6, ?_⟩, h2.1, f2⟩
        have : (jud Y ln (i + 1)).2.2 = (jud Y ln i).2.2 := by
          rw [jud_s]; simp only [jst]; rw [if_neg (fun h => c5 h.1)]
        rw [this]
    by_cases c1 : fcan Y (jud Y ln i).1 (ln 0 i) (ln 1 i) (ln 2 i) = true
    · have : (jud Y ln (i + 1)).2.1 = (jud Y ln i).2.1 := by
        rw [jud_s]; simp only [jst]
        rw [if_neg (fun h => by rw [c1] at h; exact absurd h.1 (by decide))]
      rw [this] at tail
      simp (disch := omega) only [c1, e272_99, i_nat, Nat.add_zero, Nat.not_lt_zero, i_neg, i_lt, i_le, i_eq, i_add, i_addl, i_addr, i_mulr, i_mull, i_subl, i_pred, i_ltl, i_ltr, i_eql, i_em1, cIn_s, cVd_s, cLo_s, ic_true, ic_false, ic_same, i10, eq_self, b2_0, b2_1, b2_and, b2_t, b2_f, ck']
      exact tail (G + 2) (by omega) _
    · by_cases c2 : (jud Y ln i).2.1 = -1
      · have : (jud Y ln (i + 1)).2.1 = Int32.ofNat i := by
          rw [jud_s]; simp only [jst]; rw [if_pos ⟨nf c1, c2⟩]
        rw [this] at tail
        simp (disch := omega) only [nf c1, c2, m1_lt, i_nat, Nat.add_zero, Nat.not_lt_zero, i_neg, i_lt, i_le, i_eq, i_add, i_addl, i_addr, i_mulr, i_mull, i_subl, i_pred, i_ltl, i_ltr, i_eql, i_em1, cIn_s, cVd_s, cLo_s, ic_true, ic_false, ic_same, i10, eq_self, b2_0, b2_1, b2_and, b2_t, b2_f, ck']
        exact tail (G + 3) (by omega) _
      · have : (jud Y ln (i + 1)).2.1 = (jud Y ln i).2.1 := by
          rw [jud_s]; simp only [jst]; rw [if_neg (fun h => c2 h.2)]
        rw [this] at tail
        have hlt : ((jud Y ln i).2.1 < 0) = False := (wlt w12.1).trans (eq_false c2)
        simp (disch := omega) only [nf c1, hlt, e272_99, i_nat, Nat.add_zero, Nat.not_lt_zero, i_neg, i_lt, i_le, i_eq, i_add, i_addl, i_addr, i_mulr, i_mull, i_subl, i_pred, i_ltl, i_ltr, i_eql, i_em1, cIn_s, cVd_s, cLo_s, ic_true, ic_false, ic_same, i10, eq_self, b2_0, b2_1, b2_and, b2_t, b2_f, ck']
        exact tail (G + 2) (by omega) _
  · rintro G lv M1 - ⟨⟨o5, o6, rfl⟩, hS, hf⟩
    have hl1 : M1.1 266 0 = Int32.ofNat L := (hf.i (by unfold RW; omega)).trans hl.1
    have hR1 : YR Y M1 := hR.fr hf (fun c j a1 a2 => by unfold RW; omega)
    by_cases p0 : p = 0
    · simp (disch := omega) only [e272_31, hl1, Nat.lt_irrefl, eq_true p0, i_nat, Nat.add_zero, Nat.not_lt_zero, i_neg, i_lt, i_le, i_eq, i_add, i_addl, i_addr, i_mulr, i_mull, i_subl, i_pred, i_ltl, i_ltr, i_eql, i_em1, cIn_s, cVd_s, cLo_s, ic_true, ic_false, ic_same, i10, eq_self, b2_0, b2_1, b2_and, b2_t, b2_f, ck', if_true]
      exact Hm_some ⟨rfl, hf⟩
    · by_cases p1 : p = 1
      · simp (disch := omega) only [e272_31, hl1, Nat.lt_irrefl, eq_false p0, eq_true p1, i_nat, Nat.add_zero, Nat.not_lt_zero, i_neg, i_lt, i_le, i_eq, i_add, i_addl, i_addr, i_mulr, i_mull, i_subl, i_pred, i_ltl, i_ltr, i_eql, i_em1, cIn_s, cVd_s, cLo_s, ic_true, ic_false, ic_same, i10, eq_self, b2_0, b2_1, b2_and, b2_t, b2_f, ck', if_true, if_false]
        exact Hm_some ⟨rfl, hf⟩
      · simp (disch := omega) only [e272_31, hl1, Nat.lt_irrefl, eq_false p0, eq_false p1, sp250 (B := 1029) (b := 1029) rfl hR1 hN hS (jud_SI hN hG h hL40 L (by omega)) (by omega), sp252 hR1 hN, i_nat, Nat.add_zero, Nat.not_lt_zero, i_neg, i_lt, i_le, i_eq, i_add, i_addl, i_addr, i_mulr, i_mull, i_subl, i_pred, i_ltl, i_ltr, i_eql, i_em1, cIn_s, cVd_s, cLo_s, ic_true, ic_false, ic_same, i10, eq_self, b2_0, b2_1, b2_and, b2_t, b2_f, ck', if_true, if_false]
        exact Hm_some ⟨rfl, hf⟩
theorem two_judged : Two t t 136 272 [vR 11 0 0, vI p] [vR 12 0 253, vI p] := by
  refine Two_st ?_; rintro ⟨Y, N, u, P, mk, K, L, ln, Tn, tp, nm⟩ hp
  have hp : PI t Y N u P mk K L ln Tn tp nm := hp
  have hN := hp.1.1
  have hI := hp.2.1.1
  have hu := hp.2.2.1.1
  have hL := hp.2.2.2.2.1.1
  by_cases hw : wi p 0 2 = true
  · refine ⟨if p = 0 then (jud Y ln L).2.1 else if p = 1 then (jud Y ln L).2.2 else wor Y (force Y (jud Y ln L).1), (Y, N, u, P, mk, K, L, ln, Tn, tp, nm), hp, fun d M hc => ?_, fun d M hr => ?_⟩
    · have hc : CI Y N u P mk K L ln Tn tp nm M := hc
      have hw' : ¬ p < 0 ∧ ¬ 2 < p := by unfold wi at hw; exact decide_eq_true_eq.mp hw
      simp only [e136, eq_false hw'.1, eq_false hw'.2, ic_false]
      refine Hm_cVv (sp137 hc.1 hN hp.1.2.1 hp.1.2.2 hc.2.2.2.2.1 hL hp.2.2.2.2.1.2) (fun M1 h1 => ?_)
      have fin : CI Y N u P mk K L ln Tn tp nm M1 ∧ Fr ClW M M1 := ⟨hc.fr hu hL h1.2.2.2 (fun c j hcc => by unfold CCo JW at *; omega), h1.2.2.2.up (fun c j h => by unfold JW at h; unfold ClW; omega)⟩
      by_cases p0 : p = 0
      · simp only [eq_true p0, ic_true, h1.1, if_true]; exact Hm_some ⟨rfl, fin⟩
      · by_cases p1 : p = 1
        · simp only [eq_false p0, eq_true p1, ic_true, ic_false, h1.2.1, if_true, if_false]; exact Hm_some ⟨rfl, fin⟩
        · simp only [eq_false p0, eq_false p1, ic_true, ic_false, h1.2.2.1, if_true, if_false]; exact Hm_some ⟨rfl, fin⟩
    · have hr : RI Y N u P mk K L ln Tn tp nm M := hr
      refine Hm_mono (sp272 (d := d + 30) hw hr.1 hN hp.1.2.1 hp.1.2.2 hr.2.2.2.2.1 hL hp.2.2.2.2.1.2) (fun r M1 h1 => ⟨h1.1, hr.fr hN hu hL h1.2 (fun c j hcc => by unfold RCo RW at *; omega), h1.2.up (fun c j h => by unfold RW at h; unfold ReW; omega)⟩)
  · have hw' : p < 0 ∨ 2 < p := by
      have := nf hw
      unfold wi at this
      have := of_decide_eq_false this
      by_cases h : p < 0
      · exact .inl h
      · right
        by_cases h2 : 2 < p
        · exact h2
        · exact absurd ⟨h, h2⟩ this
    refine ⟨-2, (Y, N, u, P, mk, K, L, ln, Tn, tp, nm), hp, fun d M hc => nopC ?_ hc, fun d M hr => nopR hN ?_ hr⟩
    · by_cases h : p < 0
      · simp only [e136, eq_true h, ic_true]
      · have := hw'.resolve_left h
        simp only [e136, eq_false h, eq_true this, ic_true, ic_false]
    · simp (disch := omega) only [e272, sp222, nf hw, i_nat, Nat.add_zero, Nat.not_lt_zero, i_neg, i_lt, i_le, i_eq, i_add, i_addl, i_addr, i_mulr, i_mull, i_subl, i_pred, i_ltl, i_ltr, i_eql, i_em1, cIn_s, cVd_s, cLo_s, ic_true, ic_false, ic_same, i10, eq_self, b2_0, b2_1, b2_and, b2_t, b2_f, ck']
end JUDGED2
