/-! JUDGED: the lines one by one -/
section JUDGED
variable {Y S N : YT} {t n d L : Nat} {ln : Nat → Nat → Int32} {p x : Int32} {a b : Int32} {M M' : Mem}
def tn (x : Int32) : Nat := x.toNatClampNeg
def fcan (Y S : YT) (x a b : Int32) : Bool := if x = 0 then mayB Y S (tn a) b else if x = 1 then mayC Y S (tn a) (tn b) else if x = 2 then mayP S (tn a) else if x = 3 then up S (tn a) else true
def fdo (Y S : YT) (x a b : Int32) : YT := if fcan Y S x a b then (if x = 0 then begS S (tn a) b else if x = 1 then carS Y S (tn a) (tn b) else if x = 2 then us S 3 (tn a) (S 3 (tn a) + 1) else if x = 3 then losS S (tn a) 1 else nitS Y S 0) else S
def lokj (Y : YT) (x a b : Int32) : Prop := (x = 0 ∧ ∃ i s, i < nA Y ∧ s < nB Y ∧ a = Int32.ofNat i ∧ b = Int32.ofNat s) ∨ (x = 1 ∧ ∃ c i, c < nC Y ∧ i < nA Y ∧ a = Int32.ofNat c ∧ b = Int32.ofNat i) ∨ (x = 2 ∧ ∃ i, i < nA Y ∧ a = Int32.ofNat i) ∨ (x = 3 ∧ ∃ i, i < nA Y ∧ a = Int32.ofNat i) ∨ x = 4
theorem lokj_of {i : Nat} (h : lnok Y ln i) : lokj Y (ln 0 i) (ln 1 i) (ln 2 i) := by
  rcases h with ⟨h, i', s, z⟩ | ⟨h, c, i', z⟩ | ⟨h | h, i', z⟩ | h
  · exact .inl ⟨h, i', s, z⟩
  · exact .inr (.inl ⟨h, c, i', z⟩)
  · exact .inr (.inr (.inl ⟨h, i', z⟩))
  · exact .inr (.inr (.inr (.inl ⟨h, i', z⟩)))
  · exact .inr (.inr (.inr (.inr h)))
theorem fdo_SI (hN : YN Y) (hI : SI Y n S) (hn : n < 1000000) (h : lokj Y x a b) : SI Y (n + 1) (fdo Y S x a b) := by
  have h6 := hN.A6
  have h6' := hN.C6
  unfold fdo
  by_cases hc : fcan Y S x a b = true
  · rw [if_pos hc]
    rcases h with ⟨rfl, i, s, hi, hs, rfl, rfl⟩ | ⟨rfl, c, i, hc', hi, rfl, rfl⟩ | ⟨rfl, i, hi, rfl⟩ | ⟨rfl, i, hi, rfl⟩ | rfl
    · have ei : tn (Int32.ofNat i) = i := i_nat (by omega)
      rw [if_pos rfl, ei]
      refine (SI_beg hI hN hi hs ?_).le (by omega)
      simp only [fcan, if_true, ei, mayB] at hc
      revert hc; cases bt (S 0 7) i <;> simp
    · have ei : tn (Int32.ofNat i) = i := i_nat (by omega)
      have ec : tn (Int32.ofNat c) = c := i_nat (by omega)
      rw [if_neg (by decide), if_pos rfl, ei, ec]
      exact (SI_car hI hN hi hc').le (by omega)
    · have ei : tn (Int32.ofNat i) = i := i_nat (by omega)
      rw [if_neg (by decide), if_neg (by decide), if_pos rfl, ei]
      have hc : mayP S (tn (Int32.ofNat i)) = true := hc
      rw [ei, mayP] at hc
      simp at hc
      exact (SI_prp hI hi hc.2).le (by omega)
    · have ei : tn (Int32.ofNat i) = i := i_nat (by omega)
      rw [if_neg (by decide), if_neg (by decide), if_neg (by decide), if_pos rfl, ei]
      have hc : up S (tn (Int32.ofNat i)) = true := hc
      rw [ei] at hc
      exact (SI_los hI hN hi hc (by unfold rg; decide)).le (by omega)
    · rw [if_neg (by decide), if_neg (by decide), if_neg (by decide), if_neg (by decide)]
      exact SI_nitS hI hN hn
  · rw [if_neg hc]; exact hI.le (by omega)
theorem sp139 {i s : Nat} (hY : YC Y M) (hN : YN Y) (hS : SC S 106 M) (hi : i < 6) : Hm (evD (d + 3) 139 [vR 8 0 105, vI (Int32.ofNat i), vI (Int32.ofNat s)] M) (fun r M' => r = some (vI (b2 (mayB Y S i (Int32.ofNat s)))) ∧ SC (if mayB Y S i (Int32.ofNat s) then begS S i (Int32.ofNat s) else S) 106 M' ∧ Fr (fun c _ => c = 22 ∨ c = 25 ∨ 106 ≤ c ∧ c ≤ 112) M M') := by
  by_cases h : mayB Y S i (Int32.ofNat s) = true
  · simp (disch := omega) only [e139, sp118 hY hN hS (show i < 32 by omega), h, i_nat, Nat.add_zero, Nat.not_lt_zero, i_neg, i_lt, i_le, i_eq, i_add, i_addl, i_addr, i_mulr, i_mull, i_subl, i_pred, i_ltl, i_ltr, i_eql, i_em1, cIn_s, cVd_s, cLo_s, ic_true, ic_false, ic_same, i10, eq_self, b2_0, b2_1, b2_and, b2_t, b2_f, ck']
    refine Hm_cVv (sp122 hS hi) (fun M1 h1 => Hm_some ⟨rfl, ?_, h1.2.up (fun c j h => by omega)⟩)
    rw [if_pos trivial]; exact h1.1
  · simp (disch := omega) only [e139, sp118 hY hN hS (show i < 32 by omega), nf h, i_nat, Nat.add_zero, Nat.not_lt_zero, i_neg, i_lt, i_le, i_eq, i_add, i_addl, i_addr, i_mulr, i_mull, i_subl, i_pred, i_ltl, i_ltr, i_eql, i_em1, cIn_s, cVd_s, cLo_s, ic_true, ic_false, ic_same, i10, eq_self, b2_0, b2_1, b2_and, b2_t, b2_f, ck']
    exact Hm_some ⟨rfl, by rw [if_neg (by decide)]; exact hS, Fr.rf⟩
theorem sp140 {c i : Nat} (hY : YC Y M) (hL : YL Y) (hS : SC S 106 M) (hc : c < 6) (hi : i < 6) : Hm (evD (d + 5) 140 [vR 8 0 105, vI (Int32.ofNat c), vI (Int32.ofNat i)] M) (fun r M' => r = some (vI (b2 (mayC Y S c i))) ∧ SC (if mayC Y S c i then carS Y S c i else S) 106 M' ∧ Fr (fun c _ => c = 22 ∨ c = 25 ∨ 106 ≤ c ∧ c ≤ 112) M M') := by
  by_cases h : mayC Y S c i = true
  · simp (disch := omega) only [e140, sp124 hY hS hc hi, h, i_nat, Nat.add_zero, Nat.not_lt_zero, i_neg, i_lt, i_le, i_eq, i_add, i_addl, i_addr, i_mulr, i_mull, i_subl, i_pred, i_ltl, i_ltr, i_eql, i_em1, cIn_s, cVd_s, cLo_s, ic_true, ic_false, ic_same, i10, eq_self, b2_0, b2_1, b2_and, b2_t, b2_f, ck']
    refine Hm_cVv (sp125 hY hL hS (by omega) hc hi) (fun M1 h1 => Hm_some ⟨rfl, ?_, h1.2.up (fun c j h => by omega)⟩)
    rw [if_pos trivial]; exact h1.1
  · simp (disch := omega) only [e140, sp124 hY hS hc hi, nf h, i_nat, Nat.add_zero, Nat.not_lt_zero, i_neg, i_lt, i_le, i_eq, i_add, i_addl, i_addr, i_mulr, i_mull, i_subl, i_pred, i_ltl, i_ltr, i_eql, i_em1, cIn_s, cVd_s, cLo_s, ic_true, ic_false, ic_same, i10, eq_self, b2_0, b2_1, b2_and, b2_t, b2_f, ck']
    exact Hm_some ⟨rfl, by rw [if_neg (by decide)]; exact hS, Fr.rf⟩
theorem i2i : (Int32.ofInt 0 = 0 ∧ Int32.ofInt 1 = 1 ∧ Int32.ofInt 2 = 2 ∧ Int32.ofInt 3 = 3) := by decide
theorem sp138 (hY : YC Y M) (hN : YN Y) (hL : YL Y) (hS : SC S 106 M) (hI : SI Y n S) (hn : n < 1000000) (h : lokj Y x a b) : Hm (evD (d + 8) 138 [vR 8 0 105, vI x, vI a, vI b] M) (fun r M' => r = some (vI (b2 (fcan Y S x a b))) ∧ SC (fdo Y S x a b) 106 M' ∧ Fr (fun c _ => c = 22 ∨ c = 25 ∨ 106 ≤ c ∧ c ≤ 112) M M') := by
  have h6 := hN.A6
  have h6' := hN.C6
  have ab : ∀ z : Bool, b2 z &&& 1 = b2 z := by decide
  rcases h with ⟨rfl, i, s, hi, hs, rfl, rfl⟩ | ⟨rfl, c, i, hc', hi, rfl, rfl⟩ | ⟨rfl, i, hi, rfl⟩ | ⟨rfl, i, hi, rfl⟩ | rfl
  · have ei : tn (Int32.ofNat i) = i := i_nat (by omega)
    simp only [e138, i2i, eq_self, ic_true]
    refine Hm_cIv (sp139 hY hN hS (show i < 6 by omega)) (fun M1 h1 => ?_)
    rw [ic_t (ab _)]
    refine Hm_some ⟨by simp only [fcan, if_true, ei], ?_, h1.2⟩
    have := h1.1
    simp only [fdo, fcan, if_true, ei]; exact this
  · have ei : tn (Int32.ofNat i) = i := i_nat (by omega)
    have ec : tn (Int32.ofNat c) = c := i_nat (by omega)
    simp only [e138, i2i, eq_self, ic_true, show ((1 : Int32) = 0) = False by decide, ic_false]
    refine Hm_cIv (sp140 hY hL hS (show c < 6 by omega) (show i < 6 by omega)) (fun M1 h1 => ?_)
    rw [ic_t (ab _)]
    refine Hm_some ⟨by simp only [fcan, if_true, ei, ec, show ((1 : Int32) = 0) = False by decide, if_false], ?_, h1.2⟩
    have := h1.1
    simp only [fdo, fcan, if_true, ei, ec, show ((1 : Int32) = 0) = False by decide, if_false]; exact this
  · have ei : tn (Int32.ofNat i) = i := i_nat (by omega)
    simp only [e138, i2i, eq_self, ic_true, show ((2 : Int32) = 0) = False by decide, show ((2 : Int32) = 1) = False by decide, ic_false]
    have e1 : fcan Y S 2 (Int32.ofNat i) b = mayP S i := by simp only [fcan, if_true, ei, show ((2 : Int32) = 0) = False by decide, show ((2 : Int32) = 1) = False by decide, if_false]
    have e2 : fdo Y S 2 (Int32.ofNat i) b = if mayP S i then us S 3 i (S 3 i + 1) else S := by simp only [fdo, e1, if_true, ei, show ((2 : Int32) = 0) = False by decide, show ((2 : Int32) = 1) = False by decide, if_false]
    rw [e1, e2]
    by_cases h : mayP S i = true
    · simp (disch := omega) only [sp128 hS (show i < 6 by omega), h, i_nat, Nat.add_zero, Nat.not_lt_zero, i_neg, i_lt, i_le, i_eq, i_add, i_addl, i_addr, i_mulr, i_mull, i_subl, i_pred, i_ltl, i_ltr, i_eql, i_em1, cIn_s, cVd_s, cLo_s, ic_true, ic_false, ic_same, i10, eq_self, b2_0, b2_1, b2_and, b2_t, b2_f, ck']
      have e3 : M.1 109 i = S 3 i := (hS.tr.2 i (by omega)).2.2.1
      rw [e3, if_pos trivial]
      exact Hm_some ⟨rfl, hS.s1 3 i _ (by omega), Fr.rf.sI (by omega)⟩
    · simp (disch := omega) only [sp128 hS (show i < 6 by omega), nf h, i_nat, Nat.add_zero, Nat.not_lt_zero, i_neg, i_lt, i_le, i_eq, i_add, i_addl, i_addr, i_mulr, i_mull, i_subl, i_pred, i_ltl, i_ltr, i_eql, i_em1, cIn_s, cVd_s, cLo_s, ic_true, ic_false, ic_same, i10, eq_self, b2_0, b2_1, b2_and, b2_t, b2_f, ck']
      exact Hm_some ⟨rfl, by rw [if_neg (by decide)]; exact hS, Fr.rf⟩
  · have ei : tn (Int32.ofNat i) = i := i_nat (by omega)
    simp only [e138, i2i, eq_self, ic_true, show ((3 : Int32) = 0) = False by decide, show ((3 : Int32) = 1) = False by decide, show ((3 : Int32) = 2) = False by decide, ic_false]
    have e1 : fcan Y S 3 (Int32.ofNat i) b = up S i := by simp only [fcan, if_true, ei, show ((3 : Int32) = 0) = False by decide, show ((3 : Int32) = 1) = False by decide, show ((3 : Int32) = 2) = False by decide, if_false]
    have e2 : fdo Y S 3 (Int32.ofNat i) b = if up S i then losS S i 1 else S := by simp only [fdo, e1, if_true, ei, show ((3 : Int32) = 0) = False by decide, show ((3 : Int32) = 1) = False by decide, show ((3 : Int32) = 2) = False by decide, if_false]
    rw [e1, e2]
    by_cases h : up S i = true
    · simp (disch := omega) only [sp97 hS (show i < 32 by omega), h, i_nat, Nat.add_zero, Nat.not_lt_zero, i_neg, i_lt, i_le, i_eq, i_add, i_addl, i_addr, i_mulr, i_mull, i_subl, i_pred, i_ltl, i_ltr, i_eql, i_em1, cIn_s, cVd_s, cLo_s, ic_true, ic_false, ic_same, i10, eq_self, b2_0, b2_1, b2_and, b2_t, b2_f, ck']
      refine Hm_cVv (sp130 hS (show i < 6 by omega)) (fun M1 h1 => Hm_some ⟨rfl, ?_, h1.2.up (fun c j h => by omega)⟩)
      rw [if_pos trivial]; exact h1.1
    · simp (disch := omega) only [sp97 hS (show i < 32 by omega), nf h, i_nat, Nat.add_zero, Nat.not_lt_zero, i_neg, i_lt, i_le, i_eq, i_add, i_addl, i_addr, i_mulr, i_mull, i_subl, i_pred, i_ltl, i_ltr, i_eql, i_em1, cIn_s, cVd_s, cLo_s, ic_true, ic_false, ic_same, i10, eq_self, b2_0, b2_1, b2_and, b2_t, b2_f, ck']
      exact Hm_some ⟨rfl, by rw [if_neg (by decide)]; exact hS, Fr.rf⟩
  · simp only [e138, i2i, eq_self, ic_true, show ((4 : Int32) = 0) = False by decide, show ((4 : Int32) = 1) = False by decide, show ((4 : Int32) = 2) = False by decide, show ((4 : Int32) = 3) = False by decide, ic_false]
    have e1 : fcan Y S 4 a b = true := by simp only [fcan, show ((4 : Int32) = 0) = False by decide, show ((4 : Int32) = 1) = False by decide, show ((4 : Int32) = 2) = False by decide, show ((4 : Int32) = 3) = False by decide, if_false]
    have e2 : fdo Y S 4 a b = nitS Y S 0 := by simp only [fdo, e1, if_true, show ((4 : Int32) = 0) = False by decide, show ((4 : Int32) = 1) = False by decide, show ((4 : Int32) = 2) = False by decide, show ((4 : Int32) = 3) = False by decide, if_false]
    rw [e1, e2]
    refine Hm_cIv (sp133 hY hN hL hS hI hn (by omega)) (fun M1 h1 => ?_)
    exact Hm_some ⟨rfl, h1.1, h1.2.up (fun c j h => by omega)⟩
/-- the state, the first line that can't be, the first night's line behind which none is in force -/
def jst (Y : YT) (ln : Nat → Nat → Int32) (p : YT × Int32 × Int32) (i : Nat) : YT × Int32 × Int32 :=
  (fdo Y p.1 (ln 0 i) (ln 1 i) (ln 2 i), if fcan Y p.1 (ln 0 i) (ln 1 i) (ln 2 i) = false ∧ p.2.1 = -1 then Int32.ofNat i else p.2.1, if p.2.2 = -1 ∧ ln 0 i = 4 ∧ force Y (fdo Y p.1 (ln 0 i) (ln 1 i) (ln 2 i)) = 0 then Int32.ofNat i else p.2.2)
def jud (Y : YT) (ln : Nat → Nat → Int32) : Nat → YT × Int32 × Int32 := rf (jst Y ln) (staS Y, -1, -1)
theorem jud_s {i : Nat} : jud Y ln (i + 1) = jst Y ln (jud Y ln i) i := rfl
theorem jud_SI (hN : YN Y) (hG : YG Y) (h : ∀ i, i < L → lnok Y ln i) (hL : L ≤ 40) : ∀ i, i ≤ L → SI Y i (jud Y ln i).1
  | 0, _ => SI_sta hN hG
  | i + 1, hi => by
    rw [jud_s]
    exact fdo_SI hN (jud_SI hN hG h hL i (by omega)) (by omega) (lokj_of (h i (by omega)))
theorem jud_w : ∀ i, i ≤ 40 → ((jud Y ln i).2.1 = -1 ∨ ∃ k, k < 40 ∧ (jud Y ln i).2.1 = Int32.ofNat k) ∧ ((jud Y ln i).2.2 = -1 ∨ ∃ k, k < 40 ∧ (jud Y ln i).2.2 = Int32.ofNat k)
  | 0, _ => ⟨.inl rfl, .inl rfl⟩
  | i + 1, hi => by
    have ih := jud_w i (by omega)
    rw [jud_s]
    refine ⟨?_, ?_⟩
    · show (if _ then _ else _) = _ ∨ _
      split
      · exact .inr ⟨i, by omega, by simp only [jst]; rw [if_pos (by assumption)]⟩
      · rcases ih.1 with h | ⟨k, hk, h⟩
        · exact .inl h
        · exact .inr ⟨k, hk, by simp only [jst]; rw [if_neg (by assumption)]; exact h⟩
    · show (if _ then _ else _) = _ ∨ _
      split
      · exact .inr ⟨i, by omega, by simp only [jst]; rw [if_pos (by assumption)]⟩
      · rcases ih.2 with h | ⟨k, hk, h⟩
        · exact .inl h
        · exact .inr ⟨k, hk, by simp only [jst]; rw [if_neg (by assumption)]; exact h⟩
def JW (c j : Nat) : Prop := c = 22 ∨ c = 25 ∨ (c = 105 ∧ j < 5) ∨ (106 ≤ c ∧ c ≤ 112)
theorem sp137 (hY : YC Y M) (hN : YN Y) (hL : YL Y) (hG : YG Y) (hl : LC L ln M) (hL40 : L ≤ 40) (h : ∀ i, i < L → lnok Y ln i) : Hm (evD (d + 10) 137 [vR 8 0 105, vR 5 0 52] M) (fun r M' => r = none ∧ M'.1 105 0 = (jud Y ln L).2.1 ∧ M'.1 105 1 = (jud Y ln L).2.2 ∧ M'.1 105 2 = wor Y (force Y (jud Y ln L).1) ∧ Fr JW M M') := by
  rw [e137]
  refine Hm_cVv (sp5 hY (by omega)) (fun M0 h0 => ?_)
  rw [lp0_eq]
  refine lp_for (d := d + 9) (x := 137) (pc := 19) L 3 0 (by omega) (fun i lv M1 => lv = [some (vR 8 0 105), some (vR 5 0 52), some (vI (Int32.ofNat i))] ∧ M1.1 105 0 = (jud Y ln i).2.1 ∧ M1.1 105 1 = (jud Y ln i).2.2 ∧ SC (jud Y ln i).1 106 M1 ∧ Fr JW M M1) ?_ ?_ L 0 (by omega) 20000 _ _ (by omega) ⟨rfl, ?_, ?_, ?_, ?_⟩
  · rintro i hi G lv M1 - ⟨rfl, w1, w2, hS, hf⟩ z
    have hl1 : M1.1 52 3 = Int32.ofNat L := (hf.i (by unfold JW; omega)).trans hl.1
    have hk : M1.1 53 i = ln 0 i ∧ M1.1 54 i = ln 1 i ∧ M1.1 55 i = ln 2 i := by
      rw [hf.i (by unfold JW; omega), hf.i (by unfold JW; omega), hf.i (by unfold JW; omega)]; exact hl.2 i hi
    have hY1 : YC Y M1 := hY.fr hf (fun c j hc => by unfold yc JW at *; omega)
    simp (disch := omega) only [e137_19, hl1, hk, eq_true hi, i_nat, Nat.add_zero, Nat.not_lt_zero, i_neg, i_lt, i_le, i_eq, i_add, i_addl, i_addr, i_mulr, i_mull, i_subl, i_pred, i_ltl, i_ltr, i_eql, i_em1, cIn_s, cVd_s, cLo_s, ic_true, ic_false, ic_same, i10, eq_self, b2_0, b2_1, b2_and, b2_t, b2_f, ck']
    refine Hm_cIv (sp138 hY1 hN hL hS (jud_SI hN hG h hL40 i (by omega)) (by omega) (lokj_of (h i hi))) (fun M2 h2 => ?_)
    have q1 : M2.1 105 0 = (jud Y ln i).2.1 := (h2.2.i (by omega)).trans w1
    have q2 : M2.1 105 1 = (jud Y ln i).2.2 := (h2.2.i (by omega)).trans w2
    have f2 : Fr JW M M2 := hf.tr (h2.2.up (fun c j h => by unfold JW; omega))
    -- behind the first choice
    have tail : ∀ M3, M3.1 105 0 = (jud Y ln (i + 1)).2.1 → M3.1 105 1 = (jud Y ln i).2.2 → SC (jud Y ln (i + 1)).1 106 M3 → Fr JW M M3 → Hm (lp (d + 9) 137 (G + 2) 65 [some (vR 8 0 105), some (vR 5 0 52), some (vI (Int32.ofNat i))] M3) (fun r M' => r = none ∧ M'.1 105 0 = (jud Y ln L).2.1 ∧ M'.1 105 1 = (jud Y ln L).2.2 ∧ M'.1 105 2 = wor Y (force Y (jud Y ln L).1) ∧ Fr JW M M') := by
      intro M3 r1 r2 hS3 f3
      have hk3 : M3.1 53 i = ln 0 i := (f3.i (by unfold JW; omega)).trans (hl.2 i hi).1
      have hY3 : YC Y M3 := hY.fr f3 (fun c j hc => by unfold yc JW at *; omega)
      by_cases c4 : ln 0 i = 4
      · by_cases c5 : (jud Y ln i).2.2 = -1
        · have hfo := sp110 (d := d + 4) hY3 hN hS3
          by_cases c6 : force Y (jud Y ln (i + 1)).1 = 0
          · simp (disch := omega) only [e137_65, e137_98, hk3, r2, c5, hfo, eq_true c4, eq_true c6, i_nat, Nat.add_zero, Nat.not_lt_zero, i_neg, i_lt, i_le, i_eq, i_add, i_addl, i_addr, i_mulr, i_mull, i_subl, i_pred, i_ltl, i_ltr, i_eql, i_em1, cIn_s, cVd_s, cLo_s, ic_true, ic_false, ic_same, i10, eq_self, b2_0, b2_1, b2_and, b2_t, b2_f, ck']
            refine z _ _ _ (by omega) ⟨rfl, by rw [sI_ne (by omega)]; exact r1, ?_, hS3.fr (W := fun c j => c = 105 ∧ j = 1) (Fr.rf.sI (by omega)) (fun c j a1 a2 => by omega), f3.sI (by unfold JW; omega)⟩
            rw [sI_eq, jud_s]
            simp only [jst]
            rw [if_pos ⟨c5, c4, c6⟩]
          · simp (disch := omega) only [e137_65, e137_98, hk3, r2, c5, hfo, eq_true c4, eq_false c6, i_nat, Nat.add_zero, Nat.not_lt_zero, i_neg, i_lt, i_le, i_eq, i_add, i_addl, i_addr, i_mulr, i_mull, i_subl, i_pred, i_ltl, i_ltr, i_eql, i_em1, cIn_s, cVd_s, cLo_s, ic_true, ic_false, ic_same, i10, eq_self, b2_0, b2_1, b2_and, b2_t, b2_f, ck']
            refine z _ _ _ (by omega) ⟨rfl, r1, ?_, hS3, f3⟩
            rw [r2, jud_s]
            simp only [jst]
            rw [if_neg (fun h => c6 h.2.2)]
        · simp (disch := omega) only [e137_65, e137_98, hk3, r2, eq_true c4, eq_false c5, i_nat, Nat.add_zero, Nat.not_lt_zero, i_neg, i_lt, i_le, i_eq, i_add, i_addl, i_addr, i_mulr, i_mull, i_subl, i_pred, i_ltl, i_ltr, i_eql, i_em1, cIn_s, cVd_s, cLo_s, ic_true, ic_false, ic_same, i10, eq_self, b2_0, b2_1, b2_and, b2_t, b2_f, ck']
          refine z _ _ _ (by omega) ⟨rfl, r1, ?_, hS3, f3⟩
          rw [r2, jud_s]
          simp only [jst]
          rw [if_neg (fun h => c5 h.1)]
      · simp (disch := omega) only [e137_65, e137_98, hk3, r2, eq_false c4, i_nat, Nat.add_zero, Nat.not_lt_zero, i_neg, i_lt, i_le, i_eq, i_add, i_addl, i_addr, i_mulr, i_mull, i_subl, i_pred, i_ltl, i_ltr, i_eql, i_em1, cIn_s, cVd_s, cLo_s, ic_true, ic_false, ic_same, i10, eq_self, b2_0, b2_1, b2_and, b2_t, b2_f, ck']
        refine z _ _ _ (by omega) ⟨rfl, r1, ?_, hS3, f3⟩
        rw [r2, jud_s]
        simp only [jst]
        rw [if_neg (fun h => c4 h.2.1)]
    by_cases c1 : fcan Y (jud Y ln i).1 (ln 0 i) (ln 1 i) (ln 2 i) = true
    · simp (disch := omega) only [c1, i_nat, Nat.add_zero, Nat.not_lt_zero, i_neg, i_lt, i_le, i_eq, i_add, i_addl, i_addr, i_mulr, i_mull, i_subl, i_pred, i_ltl, i_ltr, i_eql, i_em1, cIn_s, cVd_s, cLo_s, ic_true, ic_false, ic_same, i10, eq_self, b2_0, b2_1, b2_and, b2_t, b2_f, ck']
      refine tail M2 ?_ q2 h2.1 f2
      rw [q1, jud_s]; simp only [jst]
      rw [if_neg (fun h => by rw [c1] at h; exact absurd h.1 (by decide))]
    · by_cases c2 : (jud Y ln i).2.1 = -1
      · simp (disch := omega) only [nf c1, q1, eq_true c2, i_nat, Nat.add_zero, Nat.not_lt_zero, i_neg, i_lt, i_le, i_eq, i_add, i_addl, i_addr, i_mulr, i_mull, i_subl, i_pred, i_ltl, i_ltr, i_eql, i_em1, cIn_s, cVd_s, cLo_s, ic_true, ic_false, ic_same, i10, eq_self, b2_0, b2_1, b2_and, b2_t, b2_f, ck']
        refine tail _ ?_ (by rw [sI_ne (by omega)]; exact q2) (h2.1.fr (W := fun c j => c = 105 ∧ j = 0) (Fr.rf.sI (by omega)) (fun c j a1 a2 => by omega)) (f2.sI (by unfold JW; omega))
        rw [sI_eq, jud_s]; simp only [jst]
        rw [if_pos ⟨nf c1, c2⟩]
      · simp (disch := omega) only [nf c1, q1, eq_false c2, i_nat, Nat.add_zero, Nat.not_lt_zero, i_neg, i_lt, i_le, i_eq, i_add, i_addl, i_addr, i_mulr, i_mull, i_subl, i_pred, i_ltl, i_ltr, i_eql, i_em1, cIn_s, cVd_s, cLo_s, ic_true, ic_false, ic_same, i10, eq_self, b2_0, b2_1, b2_and, b2_t, b2_f, ck']
        refine tail M2 ?_ q2 h2.1 f2
        rw [q1, jud_s]; simp only [jst]
        rw [if_neg (fun h => c2 h.2)]
  · rintro G lv M1 - ⟨rfl, w1, w2, hS, hf⟩
    have hl1 : M1.1 52 3 = Int32.ofNat L := (hf.i (by unfold JW; omega)).trans hl.1
    have hY1 : YC Y M1 := hY.fr hf (fun c j hc => by unfold yc JW at *; omega)
    simp (disch := omega) only [e137_19, hl1, Nat.lt_irrefl, sp113 hY1 hN hS, i_nat, Nat.add_zero, Nat.not_lt_zero, i_neg, i_lt, i_le, i_eq, i_add, i_addl, i_addr, i_mulr, i_mull, i_subl, i_pred, i_ltl, i_ltr, i_eql, i_em1, cIn_s, cVd_s, cLo_s, ic_true, ic_false, ic_same, i10, eq_self, b2_0, b2_1, b2_and, b2_t, b2_f, ck']
    exact Hm_some ⟨rfl, by rw [sI_ne (by omega)]; exact w1, by rw [sI_ne (by omega)]; exact w2, sI_eq, hf.sI (by unfold JW; omega)⟩
  · rw [sI_ne (by omega), sI_eq]; rfl
  · rw [sI_eq]; rfl
  · exact h0.1.fr (W := fun c j => c = 105) ((Fr.rf.sI (by omega)).sI (by omega)) (fun c j a1 a2 => by omega)
  · exact ((h0.2.up (fun c j h => by unfold JW; omega)).sI (by unfold JW; omega)).sI (by unfold JW; omega)
end JUDGED
