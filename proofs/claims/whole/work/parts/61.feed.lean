/-! FEED: signs behind the tape -/
section FEED
variable {t d : Nat} {M M' : Mem}
def sh8 (i : Nat) : Int32 := Int32.ofInt (56 - 8 * (i : Int))
def by8 (v : Int64) (i : Nat) : Int32 := ((v >>> ((sh8 i).toInt64 &&& 63)).toInt32) &&& 255
theorem sh8_s {i : Nat} (h : i < 8) : sh8 i + (-8) = sh8 (i + 1) ∧ (sh8 i < 0) = False := by
  have : ∀ i : Fin 8, sh8 i.1 + (-8) = sh8 (i.1 + 1) ∧ ¬ (sh8 i.1 < 0) := by decide
  exact ⟨(this ⟨i, h⟩).1, eq_false (this ⟨i, h⟩).2⟩
theorem sh8_8 : (sh8 8 < 0) = True := by decide
theorem m255 {j : Nat} (h : j < 32) : (255#32).getLsbD j = decide (j < 8) := by
  have : ∀ j : Fin 32, (255#32).getLsbD j.1 = decide (j.1 < 8) := by decide
  exact this ⟨j, h⟩
theorem by8_c {v : Int64} {i : Nat} (h : i < 8) : (((v.toUInt64 >>> ((sh8 i).toInt64.toUInt64 &&& Int64.toUInt64 63)).toInt64).toInt32) &&& 255 = by8 v i := by
  have s1 : ∀ i : Fin 8, ((sh8 i.1).toInt64.toUInt64 &&& Int64.toUInt64 63).toBitVec.toNat % 64 = 56 - 8 * i.1 := by decide
  have s2 : ∀ i : Fin 8, (((sh8 i.1).toInt64 &&& 63).toBitVec.smod 64).toNat = 56 - 8 * i.1 := by decide
  have s1 := s1 ⟨i, h⟩
  have s2 := s2 ⟨i, h⟩
  unfold by8
  rw [← Int32.toBitVec_inj]
  apply BitVec.eq_of_getLsbD_eq
  intro j hj
  have e255 : (255 : Int32).toBitVec = 255#32 := rfl
  rw [Int32.toBitVec_and, Int32.toBitVec_and, BitVec.getLsbD_and, BitVec.getLsbD_and, e255, m255 hj]
  by_cases h8 : j < 8
  · simp only [h8, decide_true, Bool.and_true]
    rw [Int64.toBitVec_toInt32, Int64.toBitVec_toInt32, BitVec.getLsbD_signExtend, BitVec.getLsbD_signExtend]
    simp only [show j < 64 by omega, if_true]
    congr 1
    rw [Int64.toBitVec_shiftRight, BitVec.sshiftRight_eq', BitVec.getLsbD_sshiftRight]
    show ((v.toUInt64 >>> ((sh8 i).toInt64.toUInt64 &&& Int64.toUInt64 63)).toBitVec).getLsbD j = _
    rw [UInt64.toBitVec_shiftRight, BitVec.ushiftRight_eq', BitVec.getLsbD_ushiftRight]
    have e1 : (((sh8 i).toInt64.toUInt64 &&& Int64.toUInt64 63).toBitVec % 64).toNat = 56 - 8 * i := by
      rw [BitVec.toNat_umod]; exact s1
    rw [e1, s2]
    show v.toBitVec.getLsbD _ = _
    simp only [show ¬ 64 ≤ j by omega, decide_false, Bool.not_false, Bool.true_and, show 56 - 8 * i + j < 64 by omega, if_true]
  · simp [h8]
theorem by8_n {v : Int64} {i : Nat} : ∃ n, n < 256 ∧ by8 v i = Int32.ofNat n := by
  refine ⟨(by8 v i).toBitVec.toNat, ?_, ?_⟩
  · unfold by8
    rw [Int32.toBitVec_and, BitVec.toNat_and]
    exact Nat.lt_of_le_of_lt Nat.and_le_right (by decide)
  · rw [← Int32.toBitVec_inj]
    apply BitVec.eq_of_toNat_eq
    rw [Int32.toBitVec_ofNat']
    simp
abbrev TP : Type := Nat × (Nat → Int32)
def fd1 (p : TP) (x : Int32) : TP := if (x = 10 ∨ (¬ x < 32 ∧ ¬ 126 < x)) ∧ p.1 < 1000 then (p.1 + 1, upd p.2 p.1 x) else p
def fd8 (v : Int64) (p : TP) (i : Nat) : TP := rf (fun p i => fd1 p (by8 v i)) p i
theorem fd1_le {p : TP} {x : Int32} (h : p.1 ≤ 1000) : (fd1 p x).1 ≤ 1000 := by
  unfold fd1; split
  · show p.1 + 1 ≤ 1000; omega
  · exact h
theorem fd8_le {p : TP} {v : Int64} (h : p.1 ≤ 1000) : ∀ i, (fd8 v p i).1 ≤ 1000
  | 0 => h
  | i + 1 => fd1_le (fd8_le h i)
theorem fd1_sgn {p : TP} {x : Int32} (hx : ∃ n, n < 256 ∧ x = Int32.ofNat n) (h : ∀ i, i < p.1 → sgn (p.2 i)) : ∀ i, i < (fd1 p x).1 → sgn ((fd1 p x).2 i) := by
  unfold fd1; split
  · rename_i hc
    intro i hi
    show sgn (upd p.2 p.1 x i)
    unfold upd
    split
    · obtain ⟨n, hn, rfl⟩ := hx
      unfold sgn
      rcases hc.1 with h | ⟨h1, h2⟩
      · exact .inl h
      · right
        rw [show (32 : Int32) = Int32.ofNat 32 from rfl, i_lt (by omega) (by omega)] at h1
        rw [show (126 : Int32) = Int32.ofNat 126 from rfl, i_lt (by omega) (by omega)] at h2
        unfold rg
        rw [i_toInt (by omega)]; omega
    · exact h i (by have : i < p.1 + 1 := hi; omega)
  · exact h
theorem fd8_sgn {p : TP} {v : Int64} (h : ∀ i, i < p.1 → sgn (p.2 i)) : ∀ i, ∀ k, k < (fd8 v p i).1 → sgn ((fd8 v p i).2 k)
  | 0 => h
  | i + 1 => fd1_sgn by8_n (fd8_sgn h i)
theorem nar_c {n : Nat} (h : n < 256) : vp_nar .char (((Int32.ofNat n).toUInt32 % 65536).toInt32) = Int32.ofNat n := by
  have : ∀ n : Fin 256, vp_nar .char (((Int32.ofNat n.1).toUInt32 % 65536).toInt32) = Int32.ofNat n.1 := by decide +kernel
  exact this ⟨n, h⟩
theorem TC_fd {p : TP} {n : Nat} (h : TC p.1 p.2 M) (hp : p.1 < 1000) (hf : n = 10 ∨ (¬ Int32.ofNat n < 32 ∧ ¬ 126 < Int32.ofNat n)) : TC (fd1 p (Int32.ofNat n)).1 (fd1 p (Int32.ofNat n)).2 (sI (sI M 2 p.1 (Int32.ofNat n)) 1 0 (Int32.ofNat p.1 + 1)) := by
  have hc : ((Int32.ofNat n) = 10 ∨ (¬ Int32.ofNat n < 32 ∧ ¬ 126 < Int32.ofNat n)) ∧ p.1 < 1000 := ⟨hf.imp (fun h => by rw [h]; rfl) id, hp⟩
  unfold fd1
  rw [if_pos hc]
  refine ⟨by rw [sI_eq, i_addl], fun i hi => ?_⟩
  show (sI (sI M 2 p.1 (Int32.ofNat n)) 1 0 _).1 2 i = upd p.2 p.1 (Int32.ofNat n) i
  rw [sI_ne (by omega)]
  have hi : i < p.1 + 1 := hi
  unfold upd
  by_cases y : i = p.1
  · subst y; rw [sI_eq, if_pos rfl]
  · rw [sI_ne (by omega), if_neg y]; exact h.2 i (by omega)
theorem TR_fd {p : TP} {n : Nat} (h : TRr p.1 p.2 M) (hp : p.1 < 1000) (hf : n = 10 ∨ (¬ Int32.ofNat n < 32 ∧ ¬ 126 < Int32.ofNat n)) : TRr (fd1 p (Int32.ofNat n)).1 (fd1 p (Int32.ofNat n)).2 (sI (sI M 254 p.1 (Int32.ofNat n)) 253 2 (Int32.ofNat p.1 + 1)) := by
  have hc : ((Int32.ofNat n) = 10 ∨ (¬ Int32.ofNat n < 32 ∧ ¬ 126 < Int32.ofNat n)) ∧ p.1 < 1000 := ⟨hf.imp (fun h => by rw [h]; rfl) id, hp⟩
  unfold fd1
  rw [if_pos hc]
  refine ⟨by rw [sI_eq, i_addl], fun i hi => ?_⟩
  show (sI (sI M 254 p.1 (Int32.ofNat n)) 253 2 _).1 254 i = upd p.2 p.1 (Int32.ofNat n) i
  rw [sI_ne (by omega)]
  have hi : i < p.1 + 1 := hi
  unfold upd
  by_cases y : i = p.1
  · subst y; rw [sI_eq, if_pos rfl]
  · rw [sI_ne (by omega), if_neg y]; exact h.2 i (by omega)
theorem fd1_no {p : TP} {x : Int32} (h : ¬ ((x = 10 ∨ (¬ x < 32 ∧ ¬ 126 < x)) ∧ p.1 < 1000)) : fd1 p x = p := by unfold fd1; rw [if_neg h]
theorem sp7 {p : TP} {v : Int64} (h : TC p.1 p.2 M) (hp : p.1 ≤ 1000) : Hm (evD (d + 1) 7 [vR 7 0 1, vJ v] M) (fun r M' => r = none ∧ TC (fd8 v p 8).1 (fd8 v p 8).2 M' ∧ Fr (fun c j => c = 2 ∨ (c = 1 ∧ j = 0)) M M') := by
  rw [e7, lp0_eq]
  refine lp_for (d := d) (x := 7) (pc := 3) 8 3 0 (by omega) (fun i lv M1 => (∃ o, lv = [some (vR 7 0 1), some (vJ v), none, some (vI (sh8 i)), o]) ∧ TC (fd8 v p i).1 (fd8 v p i).2 M1 ∧ Fr (fun c j => c = 2 ∨ (c = 1 ∧ j = 0)) M M1) ?_ ?_ 8 0 (by omega) 20000 _ _ (by omega) ⟨⟨none, rfl⟩, h, Fr.rf⟩
  · rintro i hi G lv M1 - ⟨⟨o, rfl⟩, hT, hf⟩ z
    obtain ⟨n, hn, en⟩ := by8_n (v := v) (i := i)
    have hle := fd8_le (v := v) hp i
    have es : fd8 v p (i + 1) = fd1 (fd8 v p i) (Int32.ofNat n) := by rw [← en]; rfl
    rw [es] at z
    have put : (n = 10 ∨ (¬ Int32.ofNat n < 32 ∧ ¬ 126 < Int32.ofNat n)) → Hm (lp d 7 (G + 2) 38 [some (vR 7 0 1), some (vJ v), none, some (vI (sh8 i)), some (vI (Int32.ofNat n))] M1) (fun r M' => r = none ∧ TC (fd8 v p 8).1 (fd8 v p 8).2 M' ∧ Fr (fun c j => c = 2 ∨ (c = 1 ∧ j = 0)) M M') := by
      intro hc
      by_cases hl : (fd8 v p i).1 < 1000
      · simp (disch := omega) only [e7_38, e7_72, hT.1, nar_c hn, (sh8_s hi).1, sI_ne, eq_true hl, i_nat, Nat.add_zero, Nat.not_lt_zero, i_neg, i_lt, i_le, i_eq, i_add, i_addl, i_addr, i_mulr, i_mull, i_subl, i_pred, i_ltl, i_ltr, i_eql, i_em1, cIn_s, cVd_s, cLo_s, ic_true, ic_false, ic_same, i10, eq_self, b2_0, b2_1, b2_and, b2_t, b2_f, ck']
        refine z _ _ _ (by omega) ⟨⟨_, rfl⟩, ?_, (hf.sI (by omega)).sI (by omega)⟩
        have := TC_fd hT hl hc
        rw [i_addl] at this
        exact this
      · simp (disch := omega) only [e7_38, e7_72, hT.1, (sh8_s hi).1, eq_false hl, i_nat, Nat.add_zero, Nat.not_lt_zero, i_neg, i_lt, i_le, i_eq, i_add, i_addl, i_addr, i_mulr, i_mull, i_subl, i_pred, i_ltl, i_ltr, i_eql, i_em1, cIn_s, cVd_s, cLo_s, ic_true, ic_false, ic_same, i10, eq_self, b2_0, b2_1, b2_and, b2_t, b2_f, ck']
        refine z _ _ _ (by omega) ⟨⟨_, rfl⟩, ?_, hf⟩
        rw [fd1_no (fun h => hl h.2)]; exact hT
    rw [e7_3, by8_c hi, en]
    by_cases c10 : n = 10
    · simp (disch := omega) only [(sh8_s hi).2, eq_true c10, i_nat, Nat.add_zero, Nat.not_lt_zero, i_neg, i_lt, i_le, i_eq, i_add, i_addl, i_addr, i_mulr, i_mull, i_subl, i_pred, i_ltl, i_ltr, i_eql, i_em1, cIn_s, cVd_s, cLo_s, ic_true, ic_false, ic_same, i10, eq_self, b2_0, b2_1, b2_and, b2_t, b2_f, ck']
      exact put (.inl c10)
    · by_cases c1 : Int32.ofNat n < 32
      · have c1' : n < 32 := by rw [show (32 : Int32) = Int32.ofNat 32 from rfl, i_lt (by omega) (by omega)] at c1; exact c1
        simp (disch := omega) only [(sh8_s hi).2, (sh8_s hi).1, eq_false c10, eq_true c1', e7_72, i_nat, Nat.add_zero, Nat.not_lt_zero, i_neg, i_lt, i_le, i_eq, i_add, i_addl, i_addr, i_mulr, i_mull, i_subl, i_pred, i_ltl, i_ltr, i_eql, i_em1, cIn_s, cVd_s, cLo_s, ic_true, ic_false, ic_same, i10, eq_self, b2_0, b2_1, b2_and, b2_t, b2_f, ck']
        refine z _ _ _ (by omega) ⟨⟨_, rfl⟩, ?_, hf⟩
        rw [fd1_no (fun h => h.1.elim (fun h => c10 (by rw [show (10 : Int32) = Int32.ofNat 10 from rfl, i_eq (by omega) (by omega)] at h; exact h)) (fun h => h.1 c1))]; exact hT
      · have c1' : ¬ n < 32 := by rw [show (32 : Int32) = Int32.ofNat 32 from rfl, i_lt (by omega) (by omega)] at c1; exact c1
        by_cases c2 : 126 < Int32.ofNat n
        · have c2' : 126 < n := by rw [show (126 : Int32) = Int32.ofNat 126 from rfl, i_lt (by omega) (by omega)] at c2; exact c2
          simp (disch := omega) only [(sh8_s hi).2, (sh8_s hi).1, eq_false c10, eq_false c1', eq_true c2', e7_72, i_nat, Nat.add_zero, Nat.not_lt_zero, i_neg, i_lt, i_le, i_eq, i_add, i_addl, i_addr, i_mulr, i_mull, i_subl, i_pred, i_ltl, i_ltr, i_eql, i_em1, cIn_s, cVd_s, cLo_s, ic_true, ic_false, ic_same, i10, eq_self, b2_0, b2_1, b2_and, b2_t, b2_f, ck']
          refine z _ _ _ (by omega) ⟨⟨_, rfl⟩, ?_, hf⟩
          rw [fd1_no (fun h => h.1.elim (fun h => c10 (by rw [show (10 : Int32) = Int32.ofNat 10 from rfl, i_eq (by omega) (by omega)] at h; exact h)) (fun h => h.2 c2))]; exact hT
        · have c2' : ¬ 126 < n := by rw [show (126 : Int32) = Int32.ofNat 126 from rfl, i_lt (by omega) (by omega)] at c2; exact c2
          simp (disch := omega) only [(sh8_s hi).2, eq_false c10, eq_false c1', eq_false c2', i_nat, Nat.add_zero, Nat.not_lt_zero, i_neg, i_lt, i_le, i_eq, i_add, i_addl, i_addr, i_mulr, i_mull, i_subl, i_pred, i_ltl, i_ltr, i_eql, i_em1, cIn_s, cVd_s, cLo_s, ic_true, ic_false, ic_same, i10, eq_self, b2_0, b2_1, b2_and, b2_t, b2_f, ck']
          exact put (.inr ⟨c1, c2⟩)
  · rintro G lv M1 - ⟨⟨o, rfl⟩, hT, hf⟩
    simp only [e7_3, sh8_8, ic_true]
    exact Hm_some ⟨rfl, hT, hf⟩
theorem sp193 {p : TP} {v : Int64} (h : TRr p.1 p.2 M) (hp : p.1 ≤ 1000) : Hm (evD (d + 1) 193 [vR 12 0 253, vJ v] M) (fun r M' => r = none ∧ TRr (fd8 v p 8).1 (fd8 v p 8).2 M' ∧ Fr (fun c j => c = 254 ∨ (c = 253 ∧ j = 2)) M M') := by
  rw [e193, lp0_eq]
  refine lp_for (d := d) (x := 193) (pc := 3) 8 1 0 (by omega) (fun i lv M1 => (∃ o, lv = [some (vR 12 0 253), some (vJ v), none, some (vI (sh8 i)), o]) ∧ TRr (fd8 v p i).1 (fd8 v p i).2 M1 ∧ Fr (fun c j => c = 254 ∨ (c = 253 ∧ j = 2)) M M1) ?_ ?_ 8 0 (by omega) 20000 _ _ (by omega) ⟨⟨none, rfl⟩, h, Fr.rf⟩
  · rintro i hi G lv M1 - ⟨⟨o, rfl⟩, hT, hf⟩ z
    obtain ⟨n, hn, en⟩ := by8_n (v := v) (i := i)
    have hle := fd8_le (v := v) hp i
    have es : fd8 v p (i + 1) = fd1 (fd8 v p i) (Int32.ofNat n) := by rw [← en]; rfl
    rw [es] at z
    have e8 : ((v >>> ((sh8 i).toInt64 &&& 63)).toInt32) &&& 255 = Int32.ofNat n := en
    rw [e193_3, e8]
    by_cases c10 : n = 10
    · by_cases hl : (fd8 v p i).1 < 1000
      · simp (disch := omega) only [hT.1, (sh8_s hi).1, (sh8_s hi).2, sI_ne, eq_true c10, eq_true hl, i_nat, Nat.add_zero, Nat.not_lt_zero, i_neg, i_lt, i_le, i_eq, i_add, i_addl, i_addr, i_mulr, i_mull, i_subl, i_pred, i_ltl, i_ltr, i_eql, i_em1, cIn_s, cVd_s, cLo_s, ic_true, ic_false, ic_same, i10, eq_self, b2_0, b2_1, b2_and, b2_t, b2_f, ck']
        refine z _ _ _ (by omega) ⟨⟨_, rfl⟩, ?_, (hf.sI (by omega)).sI (by omega)⟩
        have := TR_fd hT hl (.inl c10)
        rw [i_addl] at this
        exact this
      · simp (disch := omega) only [hT.1, (sh8_s hi).1, (sh8_s hi).2, eq_true c10, eq_false hl, i_nat, Nat.add_zero, Nat.not_lt_zero, i_neg, i_lt, i_le, i_eq, i_add, i_addl, i_addr, i_mulr, i_mull, i_subl, i_pred, i_ltl, i_ltr, i_eql, i_em1, cIn_s, cVd_s, cLo_s, ic_true, ic_false, ic_same, i10, eq_self, b2_0, b2_1, b2_and, b2_t, b2_f, ck']
        refine z _ _ _ (by omega) ⟨⟨_, rfl⟩, ?_, hf⟩
        rw [fd1_no (fun h => hl h.2)]; exact hT
    · by_cases c1 : Int32.ofNat n < 32
      · have c1' : n < 32 := by rw [show (32 : Int32) = Int32.ofNat 32 from rfl, i_lt (by omega) (by omega)] at c1; exact c1
        simp (disch := omega) only [(sh8_s hi).2, (sh8_s hi).1, eq_false c10, eq_true c1', i_nat, Nat.add_zero, Nat.not_lt_zero, i_neg, i_lt, i_le, i_eq, i_add, i_addl, i_addr, i_mulr, i_mull, i_subl, i_pred, i_ltl, i_ltr, i_eql, i_em1, cIn_s, cVd_s, cLo_s, ic_true, ic_false, ic_same, i10, eq_self, b2_0, b2_1, b2_and, b2_t, b2_f, ck']
        refine z _ _ _ (by omega) ⟨⟨_, rfl⟩, ?_, hf⟩
        rw [fd1_no (fun h => h.1.elim (fun h => c10 (by rw [show (10 : Int32) = Int32.ofNat 10 from rfl, i_eq (by omega) (by omega)] at h; exact h)) (fun h => h.1 c1))]; exact hT
      · have c1' : ¬ n < 32 := by rw [show (32 : Int32) = Int32.ofNat 32 from rfl, i_lt (by omega) (by omega)] at c1; exact c1
        by_cases c2 : 126 < Int32.ofNat n
        · have c2' : 126 < n := by rw [show (126 : Int32) = Int32.ofNat 126 from rfl, i_lt (by omega) (by omega)] at c2; exact c2
          simp (disch := omega) only [(sh8_s hi).2, (sh8_s hi).1, eq_false c10, eq_false c1', eq_true c2', i_nat, Nat.add_zero, Nat.not_lt_zero, i_neg, i_lt, i_le, i_eq, i_add, i_addl, i_addr, i_mulr, i_mull, i_subl, i_pred, i_ltl, i_ltr, i_eql, i_em1, cIn_s, cVd_s, cLo_s, ic_true, ic_false, ic_same, i10, eq_self, b2_0, b2_1, b2_and, b2_t, b2_f, ck']
          refine z _ _ _ (by omega) ⟨⟨_, rfl⟩, ?_, hf⟩
          rw [fd1_no (fun h => h.1.elim (fun h => c10 (by rw [show (10 : Int32) = Int32.ofNat 10 from rfl, i_eq (by omega) (by omega)] at h; exact h)) (fun h => h.2 c2))]; exact hT
        · have c2' : ¬ 126 < n := by rw [show (126 : Int32) = Int32.ofNat 126 from rfl, i_lt (by omega) (by omega)] at c2; exact c2
          by_cases hl : (fd8 v p i).1 < 1000
          · simp (disch := omega) only [hT.1, (sh8_s hi).1, (sh8_s hi).2, sI_ne, eq_false c10, eq_false c1', eq_false c2', eq_true hl, i_nat, Nat.add_zero, Nat.not_lt_zero, i_neg, i_lt, i_le, i_eq, i_add, i_addl, i_addr, i_mulr, i_mull, i_subl, i_pred, i_ltl, i_ltr, i_eql, i_em1, cIn_s, cVd_s, cLo_s, ic_true, ic_false, ic_same, i10, eq_self, b2_0, b2_1, b2_and, b2_t, b2_f, ck']
            refine z _ _ _ (by omega) ⟨⟨_, rfl⟩, ?_, (hf.sI (by omega)).sI (by omega)⟩
            have := TR_fd hT hl (.inr ⟨c1, c2⟩)
            rw [i_addl] at this
            exact this
          · simp (disch := omega) only [hT.1, (sh8_s hi).1, (sh8_s hi).2, eq_false c10, eq_false c1', eq_false c2', eq_false hl, i_nat, Nat.add_zero, Nat.not_lt_zero, i_neg, i_lt, i_le, i_eq, i_add, i_addl, i_addr, i_mulr, i_mull, i_subl, i_pred, i_ltl, i_ltr, i_eql, i_em1, cIn_s, cVd_s, cLo_s, ic_true, ic_false, ic_same, i10, eq_self, b2_0, b2_1, b2_and, b2_t, b2_f, ck']
            refine z _ _ _ (by omega) ⟨⟨_, rfl⟩, ?_, hf⟩
            rw [fd1_no (fun h => hl h.2)]; exact hT
  · rintro G lv M1 - ⟨⟨o, rfl⟩, hT, hf⟩
    simp only [e193_3, sh8_8, ic_true]
    exact Hm_some ⟨rfl, hT, hf⟩
section
variable {Y N : YT} {u L Tn : Nat} {P K : Nat → YT} {mk : Int32} {ln : Nat → Nat → Int32} {tp : Nat → Int32} {nm : Nat → Nat → List Nat}
/-- the tape alone has changed -/
theorem CI.tape {Tn' : Nat} {tp' : Nat → Int32} (h : CI Y N u P mk K L ln Tn tp nm M) (hu : u ≤ 16) (hL : L ≤ 40) (hT : TC Tn' tp' M') (hf : Fr (fun c j => c = 2 ∨ (c = 1 ∧ j = 0)) M M') : CI Y N u P mk K L ln Tn' tp' nm M' := by
  obtain ⟨h1, h2, ⟨u1, u2, u3, u4⟩, ⟨k1, k2, k3⟩, ⟨l1, l2⟩, -, n1, n2, n3⟩ := h
  refine ⟨h1.fr hf (fun c j hc => by unfold yc at *; omega), h2.fr hf (fun c j a1 a2 => by omega), ⟨(hf.i (by omega)).trans u1, fun i hi => ?_, fun i i' a1 a2 a3 => ?_, fun i hi => ?_⟩, ⟨(hf.i (by omega)).trans k1, fun m hm => (hf.r (by omega)).trans (k2 m hm), fun m hm hb => (k3 m hm hb).fr hf (fun c j a1 a2 => by omega)⟩, ⟨(hf.i (by omega)).trans l1, fun i hi => ?_⟩, hT, fun i hi => (hf.j (by omega)).trans (n1 i hi), fun i hi => (hf.j (by omega)).trans (n2 i hi), fun i hi => (hf.j (by omega)).trans (n3 i hi)⟩
  · rw [hf.r (by omega)]; exact u2 i hi
  · rw [hf.r (by omega), hf.r (by omega)]; exact u3 i i' a1 a2 a3
  · rw [hf.r (by omega)]
    obtain ⟨j, hj, e⟩ := u2 i (by omega)
    exact (u4 i hi).fr hf (fun c j a1 a2 => by omega)
  · rw [hf.i (by omega), hf.i (by omega), hf.i (by omega)]; exact l2 i hi
theorem RI.tape {Tn' : Nat} {tp' : Nat → Int32} (h : RI Y N u P mk K L ln Tn tp nm M) (hN : YN Y) (hL : L ≤ 40) (hT : TRr Tn' tp' M') (hf : Fr (fun c j => c = 254 ∨ (c = 253 ∧ (j = 0 ∨ j = 2))) M M') : RI Y N u P mk K L ln Tn' tp' nm M' := by
  have hA := hN.A6
  obtain ⟨h1, h2, ⟨u1, u2⟩, k, ⟨l1, l2⟩, -, ⟨kn, n0, n1, n2, n3⟩, w⟩ := h
  refine ⟨h1.fr hf (fun c j b1 b2' => by omega), h2.fr hA hf (fun j a1 a2 => by omega), ⟨(hf.i (by omega)).trans u1, fun i hi => (u2 i hi).fr hA hf (fun j a1 a2 => by omega)⟩, fun m hm => ⟨(hf.i (by omega)).trans (k m hm).1, fun hb => ((k m hm).2 hb).fr hA hf (fun j a1 a2 => by omega)⟩, ⟨(hf.i (by omega)).trans l1, fun i hi' => ?_⟩, hT, ⟨kn, n0, (hf.i (by omega)).trans n1, fun k' hk => ?_, fun q i hq hi' => ?_⟩, fun i hi' => (hf.j (by omega)).trans (w i hi')⟩
  · rw [hf.i (by omega), hf.i (by omega), hf.i (by omega)]; exact l2 i hi'
  · rw [hf.i (by omega), hf.j (by omega)]; exact n2 k' hk
  · obtain ⟨k', a1, a2, a3⟩ := n3 q i hq hi'
    exact ⟨k', a1, by rw [hf.i (by omega)]; exact a2, by rw [hf.j (by omega)]; exact a3⟩
end
theorem two_feed {a b c : Int64} : Two t t 6 192 [vR 11 0 0, vJ a, vJ b, vJ c] [vR 12 0 253, vJ a, vJ b, vJ c] := by
  refine Two_st ?_; rintro ⟨Y, N, u, P, mk, K, L, ln, Tn, tp, nm⟩ hp
  have hp : PI t Y N u P mk K L ln Tn tp nm := hp
  have hN := hp.1.1
  have hu := hp.2.2.1.1
  have hL := hp.2.2.2.2.1.1
  have l0 := hp.2.2.2.2.2.1.1
  have s0 := hp.2.2.2.2.2.1.2
  have l1 : (fd8 a (Tn, tp) 8).1 ≤ 1000 := fd8_le l0 8
  have l2 : (fd8 b (fd8 a (Tn, tp) 8) 8).1 ≤ 1000 := fd8_le l1 8
  have l3 : (fd8 c (fd8 b (fd8 a (Tn, tp) 8) 8) 8).1 ≤ 1000 := fd8_le l2 8
  have s3 := fd8_sgn (v := c) (fd8_sgn (v := b) (fd8_sgn (p := (Tn, tp)) (v := a) s0 8) 8) 8
  refine ⟨Int32.ofNat (fd8 c (fd8 b (fd8 a (Tn, tp) 8) 8) 8).1, (Y, N, u, P, mk, K, L, ln, (fd8 c (fd8 b (fd8 a (Tn, tp) 8) 8) 8).1, (fd8 c (fd8 b (fd8 a (Tn, tp) 8) 8) 8).2, nm), ⟨hp.1, hp.2.1, hp.2.2.1, hp.2.2.2.1, hp.2.2.2.2.1, ⟨l3, s3⟩, hp.2.2.2.2.2.2⟩, fun d M hc => ?_, fun d M hr => ?_⟩
  · have hc : CI Y N u P mk K L ln Tn tp nm M := hc
    rw [e6]
    refine Hm_cVv (sp7 (p := (Tn, tp)) hc.2.2.2.2.2.1 l0) (fun M1 h1 => ?_)
    refine Hm_cVv (sp7 h1.1 l1) (fun M2 h2 => ?_)
    refine Hm_cVv (sp7 h2.1 l2) (fun M3 h3 => ?_)
    have f : Fr (fun c j => c = 2 ∨ (c = 1 ∧ j = 0)) M M3 := (h1.2.tr h2.2).tr h3.2
    exact Hm_some ⟨by rw [h3.1.1], CI.tape hc hu hL h3.1 f, f.up (fun c j h => by unfold ClW; omega)⟩
  · have hr : RI Y N u P mk K L ln Tn tp nm M := hr
    have hr1 := hr.th hN
    rw [e192]
    refine Hm_cVv (sp193 (p := (Tn, tp)) hr1.2.2.2.2.2.1 l0) (fun M1 h1 => ?_)
    refine Hm_cVv (sp193 h1.1 l1) (fun M2 h2 => ?_)
    refine Hm_cVv (sp193 h2.1 l2) (fun M3 h3 => ?_)
    have f : Fr (fun c j => c = 254 ∨ (c = 253 ∧ (j = 0 ∨ j = 2))) M M3 := (Fr.rf.sI (by omega)).tr (((h1.2.tr h2.2).tr h3.2).up (fun c j h => by omega))
    exact Hm_some ⟨by rw [h3.1.1], RI.tape hr hN hL h3.1 f, f.up (fun c j h => by unfold ReW; omega)⟩
end FEED
