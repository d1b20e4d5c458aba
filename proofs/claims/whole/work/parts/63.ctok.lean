/-! TOKENS of the class -/
section CTOK
variable {tp : Nat → Int32} {Tn d p k : Nat} {M M' : Mem}
def SG (tp : Nat → Int32) (Tn : Nat) : Prop := Tn ≤ 1000 ∧ ∀ i, i < Tn → tp i = Int32.ofNat (ch tp i) ∧ ch tp i ≤ 126
theorem SG_of (h : Tn ≤ 1000) (hs : ∀ i, i < Tn → sgn (tp i)) : SG tp Tn := by
  refine ⟨h, fun i hi => ?_⟩
  have := hs i hi
  unfold sgn at this
  have hz : ∃ n, n ≤ 126 ∧ tp i = Int32.ofNat n := by
    rcases this with h | h
    · exact ⟨10, by omega, h⟩
    · unfold rg at h
      refine ⟨(tp i).toInt.toNat, by omega, ?_⟩
      rw [← Int32.toInt_inj, i_toInt (by omega)]
      omega
  obtain ⟨n, hn, e⟩ := hz
  unfold ch
  rw [e, i_nat (by omega)]
  exact ⟨rfl, hn⟩
def kd (s : Nat) : Nat := if s = 0 then 4 else if s = 4 then 0 else s
def TAp (tp : Nat → Int32) (Tn p : Nat) (M : Mem) : Prop := TC Tn tp M ∧ M.1 1 5 = Int32.ofNat (kd (so tp Tn p)) ∧ M.1 1 6 = Int32.ofNat p ∧ M.1 1 7 = Int32.ofNat (te tp Tn p) ∧ (so tp Tn p = 1 → M.2.1 1 8 = wc 32 (wd tp Tn p)) ∧ (so tp Tn p = 2 → M.1 1 2 = Int32.ofNat (nbv tp Tn p))
def TW (c j : Nat) : Prop := c = 1 ∧ (j = 2 ∨ 5 ≤ j)
theorem TC.tw (h : TC Tn tp M) (hf : Fr TW M M') : TC Tn tp M' := ⟨(hf.i (by unfold TW; omega)).trans h.1, fun i hi => (hf.i (by unfold TW; omega)).trans (h.2 i hi)⟩
theorem chI {i : Nat} (hs : SG tp Tn) (hT : TC Tn tp M) (hi : i < Tn) : M.1 2 i = Int32.ofNat (ch tp i) := (hT.2 i hi).trans (hs.2 i hi).1
theorem isBl_iff {c : Nat} : isBl c = true ↔ c = 10 ∨ c = 32 := by unfold isBl; simp
theorem isLt_iff {c : Nat} : isLt c = true ↔ 97 ≤ c ∧ c ≤ 122 := by unfold isLt; simp
theorem isDg_iff {c : Nat} : isDg c = true ↔ 48 ≤ c ∧ c ≤ 57 := by unfold isDg; simp
theorem ckn {n L : Nat} {R : Res} (h : n < L) (h2 : L ≤ 2147483648) : ic (Int32.ofNat n < 0 ∨ L ≤ n) none R = R := by
  refine ic_f ?_
  rintro (z | z)
  · exact i_neg (by omega) z
  · omega
/-- letters are taken -/
theorem sp12 (hs : SG tp Tn) (hT : TC Tn tp M) (hp : p < Tn) (hl : isLt (ch tp p) = true) (h6 : M.1 1 6 = Int32.ofNat p) (h7 : M.1 1 7 = Int32.ofNat p) : Hm (evD (d + 1) 12 [vR 7 0 1] M) (fun r M' => r = none ∧ M'.1 1 5 = Int32.ofNat (if 8 < te tp Tn p - p then 0 else 1) ∧ M'.1 1 6 = Int32.ofNat p ∧ M'.1 1 7 = Int32.ofNat (te tp Tn p) ∧ M'.2.1 1 8 = wc 32 (wd tp Tn p) ∧ Fr TW M M') := by
  have h1000 := hs.1
  have ht : te tp Tn p = tkr tp Tn isLt p := by unfold te; rw [if_pos hp, if_pos hl]
  have hge : p ≤ te tp Tn p := by rw [ht]; exact tkr_ge
  have hle : te tp Tn p ≤ Tn := te_le (by omega)
  rw [e12, lp0_eq]
  refine lp_for (d := d) (x := 12) (pc := 5) (te tp Tn p - p) 1 0 (by omega) (fun i lv M1 => lv = [some (vR 7 0 1)] ∧ M1.1 1 6 = Int32.ofNat p ∧ M1.1 1 7 = Int32.ofNat (p + i) ∧ M1.2.1 1 8 = wc 32 (lts tp p (p + i)) ∧ Fr TW M M1) ?_ ?_ (te tp Tn p - p) 0 (by omega) 20000 _ _ (by omega) ⟨rfl, h6, h7, ?_, Fr.rf.sJ (by unfold TW; omega)⟩
  · rintro i hi G lv M1 - ⟨rfl, q6, q7, q8, hf⟩ z
    have hin := tkr_in (tp := tp) (Tn := Tn) (P := isLt) (k := p) (i := p + i) (by omega) (by omega)
    have hT1 := hT.tw hf
    have hc := isLt_iff.mp hin.2
    have e2 : (Int32.ofNat (ch tp (p + i) - 97 + 1)).toInt64 = Int64.ofNat (ch tp (p + i) - 96) := by
      rw [← Int64.toInt_inj, l_ti (by omega), Int32.toInt_toInt64, i_toInt (by omega)]
      omega
    simp (disch := omega) only [e12_5, q7, hT1.1, chI hs hT1 hin.1, q8, e2, sJ_1, eq_true hin.1, eq_false (show ¬ ch tp (p + i) < 97 by omega), eq_false (show ¬ 122 < ch tp (p + i) by omega), i_nat, Nat.add_zero, Nat.not_lt_zero, i_neg, i_lt, i_le, i_eq, i_add, i_addl, i_addr, i_mulr, i_mull, i_subl, i_pred, i_ltl, i_ltr, i_eql, i_em1, cIn_s, cVd_s, cLo_s, ic_true, ic_false, ic_same, i10, eq_self, b2_0, b2_1, b2_and, b2_t, b2_f, ck']
    refine z _ _ _ (by omega) ⟨rfl, ?_, ?_, ?_, (hf.sJ (by unfold TW; omega)).sI (by unfold TW; omega)⟩
    · rw [sI_ne (by omega)]; exact q6
    · rw [sI_eq]; congr 1
    · show (sJ M1 1 8 _).2.1 1 8 = _
      rw [sJ_eq, show p + (i + 1) = (p + i) + 1 by omega, lts_s (by omega), wc_s]
  · rintro G lv M1 - ⟨rfl, q6, q7, q8, hf⟩
    have hT1 := hT.tw hf
    rw [show p + (te tp Tn p - p) = te tp Tn p by omega] at q7 q8
    have hend := tkr_end (tp := tp) (Tn := Tn) (P := isLt) _ p rfl
    rw [← ht] at hend
    have fin : Hm (ic (8 < Int32.ofNat (te tp Tn p) - Int32.ofNat p) (some (none, sI M1 1 5 0)) (some (none, sI M1 1 5 1))) (fun r M' => r = none ∧ M'.1 1 5 = Int32.ofNat (if 8 < te tp Tn p - p then 0 else 1) ∧ M'.1 1 6 = Int32.ofNat p ∧ M'.1 1 7 = Int32.ofNat (te tp Tn p) ∧ M'.2.1 1 8 = wc 32 (wd tp Tn p) ∧ Fr TW M M') := by
      rw [i_sub hge]
      by_cases h8 : 8 < te tp Tn p - p
      · simp (disch := omega) only [eq_true h8, i_nat, Nat.add_zero, Nat.not_lt_zero, i_neg, i_lt, i_le, i_eq, i_add, i_addl, i_addr, i_mulr, i_mull, i_subl, i_pred, i_ltl, i_ltr, i_eql, i_em1, cIn_s, cVd_s, cLo_s, ic_true, ic_false, ic_same, i10, eq_self, b2_0, b2_1, b2_and, b2_t, b2_f, ck', if_true]
        exact Hm_some ⟨rfl, sI_eq, by rw [sI_ne (by omega)]; exact q6, by rw [sI_ne (by omega)]; exact q7, q8, hf.sI (by unfold TW; omega)⟩
      · simp (disch := omega) only [eq_false h8, i_nat, Nat.add_zero, Nat.not_lt_zero, i_neg, i_lt, i_le, i_eq, i_add, i_addl, i_addr, i_mulr, i_mull, i_subl, i_pred, i_ltl, i_ltr, i_eql, i_em1, cIn_s, cVd_s, cLo_s, ic_true, ic_false, ic_same, i10, eq_self, b2_0, b2_1, b2_and, b2_t, b2_f, ck', if_false]
        exact Hm_some ⟨rfl, sI_eq, by rw [sI_ne (by omega)]; exact q6, by rw [sI_ne (by omega)]; exact q7, q8, hf.sI (by unfold TW; omega)⟩
    rw [e12_5, q6, q7, hT1.1, i_lt (by omega) (by omega)]
    by_cases hE : te tp Tn p < Tn
    · rw [ic_t hE, ck (show te tp Tn p < 1000 by omega) (by omega), i_nat (by omega), chI hs hT1 hE]
      have hn : ¬ isLt (ch tp (te tp Tn p)) = true := fun h => hend ⟨hE, h⟩
      rw [isLt_iff] at hn
      have h126 := (hs.2 _ hE).2
      by_cases c1 : ch tp (te tp Tn p) < 97
      · rw [ic_t (by rw [show (97 : Int32) = Int32.ofNat 97 from rfl, i_lt (by omega) (by omega)]; exact c1)]
        exact fin
      · rw [ic_f (by rw [show (97 : Int32) = Int32.ofNat 97 from rfl, i_lt (by omega) (by omega)]; exact c1), ckn (show te tp Tn p < 1000 by omega) (by omega), ic_t (by rw [show (122 : Int32) = Int32.ofNat 122 from rfl, i_lt (by omega) (by omega)]; omega)]
        exact fin
    · rw [ic_f hE]; exact fin
  · show (sJ M 1 8 0).2.1 1 8 = _
    rw [sJ_eq, Nat.add_zero, lts_0]; rfl
/-- digits are taken -/
theorem sp13 (hs : SG tp Tn) (hT : TC Tn tp M) (hp : p < Tn) (hnl : ¬ isLt (ch tp p) = true) (hl : isDg (ch tp p) = true) (h6 : M.1 1 6 = Int32.ofNat p) (h7 : M.1 1 7 = Int32.ofNat p) : Hm (evD (d + 1) 13 [vR 7 0 1] M) (fun r M' => r = none ∧ M'.1 1 5 = Int32.ofNat (if 4 < te tp Tn p - p then 0 else 2) ∧ M'.1 1 6 = Int32.ofNat p ∧ M'.1 1 7 = Int32.ofNat (te tp Tn p) ∧ M'.1 1 2 = Int32.ofNat (nbv tp Tn p) ∧ Fr TW M M') := by
  have h1000 := hs.1
  have ht : te tp Tn p = tkr tp Tn isDg p := by unfold te; rw [if_pos hp, if_neg hnl, if_pos hl]
  have hge : p ≤ te tp Tn p := by rw [ht]; exact tkr_ge
  have hle : te tp Tn p ≤ Tn := te_le (by omega)
  rw [e13, lp0_eq]
  refine lp_for (d := d) (x := 13) (pc := 5) (te tp Tn p - p) 1 0 (by omega) (fun i lv M1 => lv = [some (vR 7 0 1)] ∧ M1.1 1 6 = Int32.ofNat p ∧ M1.1 1 7 = Int32.ofNat (p + i) ∧ M1.1 1 2 = Int32.ofNat (dgs tp p (p + i)) ∧ Fr TW M M1) ?_ ?_ (te tp Tn p - p) 0 (by omega) 20000 _ _ (by omega) ⟨rfl, ?_, ?_, ?_, Fr.rf.sI (by unfold TW; omega)⟩
  · rintro i hi G lv M1 - ⟨rfl, q6, q7, q8, hf⟩ z
    have hin := tkr_in (tp := tp) (Tn := Tn) (P := isDg) (k := p) (i := p + i) (by omega) (by omega)
    have hT1 := hT.tw hf
    have hc := isDg_iff.mp hin.2
    have e1 : Int32.ofNat (ch tp (p + i)) - 48 = Int32.ofNat (ch tp (p + i) - 48) := i_sub (b := 48) hc.1
    rw [e13_5, q7, hT1.1, i_lt (by omega) (by omega), ic_t hin.1, ck (show p + i < 1000 by omega) (by omega), i_nat (by omega), chI hs hT1 hin.1, ic_f (by rw [show (48 : Int32) = Int32.ofNat 48 from rfl, i_lt (by omega) (by omega)]; omega), ckn (show p + i < 1000 by omega) (by omega), ic_f (by rw [show (57 : Int32) = Int32.ofNat 57 from rfl, i_lt (by omega) (by omega)]; omega), ckn (show p + i < 1000 by omega) (by omega), q8, e1, i_mull, i_add, sI_ne (by omega), q7, i_addl]
    refine z _ _ _ (by omega) ⟨rfl, ?_, ?_, ?_, (hf.sI (by unfold TW; omega)).sI (by unfold TW; omega)⟩
    · rw [sI_ne (by omega), sI_ne (by omega)]; exact q6
    · rw [sI_eq]; congr 1
    · rw [sI_ne (by omega), sI_eq, show p + (i + 1) = (p + i) + 1 by omega, dgs_s (by omega)]
  · rintro G lv M1 - ⟨rfl, q6, q7, q8, hf⟩
    have hT1 := hT.tw hf
    rw [show p + (te tp Tn p - p) = te tp Tn p by omega] at q7 q8
    have hend := tkr_end (tp := tp) (Tn := Tn) (P := isDg) _ p rfl
    rw [← ht] at hend
    have fin : Hm (ic (4 < Int32.ofNat (te tp Tn p) - Int32.ofNat p) (some (none, sI M1 1 5 0)) (some (none, sI M1 1 5 2))) (fun r M' => r = none ∧ M'.1 1 5 = Int32.ofNat (if 4 < te tp Tn p - p then 0 else 2) ∧ M'.1 1 6 = Int32.ofNat p ∧ M'.1 1 7 = Int32.ofNat (te tp Tn p) ∧ M'.1 1 2 = Int32.ofNat (nbv tp Tn p) ∧ Fr TW M M') := by
      rw [i_sub hge]
      by_cases h8 : 4 < te tp Tn p - p
      · simp (disch := omega) only [eq_true h8, i_nat, Nat.add_zero, Nat.not_lt_zero, i_neg, i_lt, i_le, i_eq, i_add, i_addl, i_addr, i_mulr, i_mull, i_subl, i_pred, i_ltl, i_ltr, i_eql, i_em1, cIn_s, cVd_s, cLo_s, ic_true, ic_false, ic_same, i10, eq_self, b2_0, b2_1, b2_and, b2_t, b2_f, ck', if_true]
        exact Hm_some ⟨rfl, sI_eq, by rw [sI_ne (by omega)]; exact q6, by rw [sI_ne (by omega)]; exact q7, by rw [sI_ne (by omega)]; exact q8, hf.sI (by unfold TW; omega)⟩
      · simp (disch := omega) only [eq_false h8, i_nat, Nat.add_zero, Nat.not_lt_zero, i_neg, i_lt, i_le, i_eq, i_add, i_addl, i_addr, i_mulr, i_mull, i_subl, i_pred, i_ltl, i_ltr, i_eql, i_em1, cIn_s, cVd_s, cLo_s, ic_true, ic_false, ic_same, i10, eq_self, b2_0, b2_1, b2_and, b2_t, b2_f, ck', if_false]
        exact Hm_some ⟨rfl, sI_eq, by rw [sI_ne (by omega)]; exact q6, by rw [sI_ne (by omega)]; exact q7, by rw [sI_ne (by omega)]; exact q8, hf.sI (by unfold TW; omega)⟩
    rw [e13_5, q6, q7, hT1.1, i_lt (by omega) (by omega)]
    by_cases hE : te tp Tn p < Tn
    · rw [ic_t hE, ck (show te tp Tn p < 1000 by omega) (by omega), i_nat (by omega), chI hs hT1 hE]
      have hn : ¬ isDg (ch tp (te tp Tn p)) = true := fun h => hend ⟨hE, h⟩
      rw [isDg_iff] at hn
      have h126 := (hs.2 _ hE).2
      by_cases c1 : ch tp (te tp Tn p) < 48
      · rw [ic_t (by rw [show (48 : Int32) = Int32.ofNat 48 from rfl, i_lt (by omega) (by omega)]; exact c1)]
        exact fin
      · rw [ic_f (by rw [show (48 : Int32) = Int32.ofNat 48 from rfl, i_lt (by omega) (by omega)]; exact c1), ckn (show te tp Tn p < 1000 by omega) (by omega), ic_t (by rw [show (57 : Int32) = Int32.ofNat 57 from rfl, i_lt (by omega) (by omega)]; omega)]
        exact fin
    · rw [ic_f hE]; exact fin
  · rw [sI_ne (by omega)]; exact h6
  · rw [sI_ne (by omega)]; exact h7
  · rw [sI_eq, Nat.add_zero, dgs_0]; rfl
end CTOK
