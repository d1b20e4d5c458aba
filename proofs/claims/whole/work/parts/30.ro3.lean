/-! falls, thin -/
section RO3
variable {Y N S : YT} {t a s n c b d : Nat} {M : Mem} {p q : Int32} {tall props : Int32}
theorem W69 {b : Nat} {M' : Mem} (hb : 1029 ≤ b) (h : Fr (fun c j => c = 269 ∧ b ≤ j ∧ j < b + 49) M M') : Fr ScW M M' := h.up (fun c j k => by unfold ScW; omega)
theorem W679 {b : Nat} {M' : Mem} (hb : 1029 ≤ b) (h : Fr (fun c j => c = 267 ∨ c = 268 ∨ (c = 269 ∧ b ≤ j ∧ j < b + 49)) M M') : Fr ScW M M' := h.up (fun c j k => by unfold ScW; omega)
theorem md3_0 : md3 0 = 0 := rfl
theorem sp283 (hY : IY Y M) (hN : IN Y t N M) (ha : a < nA Y) (hs : s < nB Y) : Hm (evD (d + 4) 283 [vR 12 0 253, vI (Int32.ofNat a), vI (Int32.ofNat s), vI tall] M) (fun r M' => r = some (vI (Int32.ofNat (fall Y a s 0 (nnt N) tall 0 40))) ∧ Fr (fun c _ => c = 267 ∨ c = 268) M M') := by
  have h6 := hY.n.A6
  have ht := hN.t
  have hnb := hN.i.nb
  rw [e283]; simp only [lp0_eq]
  refine lp_for (d := d + 3) (x := 283) (pc := 6) 40 1 0 (by omega) (fun i lv M' => ∃ u, lv = [some (vR 12 0 253), some (vI (Int32.ofNat a)), some (vI (Int32.ofNat s)), some (vI tall), some (vI u), some (vI (Int32.ofNat (i + 1)))] ∧ fall Y a s 0 (nnt N) tall 0 40 = fall Y a s 0 (nnt N) u i (40 - i) ∧ Fr (fun c _ => c = 267 ∨ c = 268) M M') ?_ ?_ 40 0 (by omega) 20000 _ M (by omega) ⟨_, rfl, rfl, Fr.rf⟩
  · rintro i hi G lv M' - ⟨u, rfl, hq, hf⟩ z
    have hY' : IY Y M' := hY.fr hf (fun c j hc => by unfold yc at *; omega)
    have hN' : IN Y t N M' := hN.fr h6 hf (fun c j hc => by omega)
    simp (disch := omega) only [e283_6b, i_nat, Nat.add_zero, Nat.not_lt_zero, i_neg, i_lt, i_le, i_eq, i_add, i_addl, i_addr, i_mulr, i_mull, i_subl, i_pred, i_ltl, i_ltr, i_eql, i_em1, cIn_s, cVd_s, cLo_s, ic_true, ic_false, ic_same, i10, eq_self, b2_0, b2_1, b2_and, b2_t, b2_f, ck', hN'.r.n, hN'.i.n, eq_false (show ¬ 40 < i + 1 by omega), show nnt N + (i + 1) - 1 = nnt N + i by omega]
    refine Hm_cIv (sp242 hY'.r hY'.n hY'.l ha hs (by omega)) (fun M1 hf1 => ?_)
    rw [md3_0, Int32.add_zero, mlt_0]
    have hs1 : fall Y a s 0 (nnt N) u i (40 - i) = if 0 < u - melP Y a s u 0 (warm Y (nnt N + i)) then fall Y a s 0 (nnt N) (u - melP Y a s u 0 (warm Y (nnt N + i))) (i + 1) (40 - (i + 1)) else i + 1 := by
      obtain ⟨e, he⟩ : ∃ e, 40 - i = e + 1 := ⟨40 - i - 1, by omega⟩
      rw [he, show 40 - (i + 1) = e by omega]; rfl
    rw [hs1] at hq
    refine Hm_ic (fun h => ?_) (fun h => ?_)
    · rw [if_pos h] at hq
      exact z _ _ _ (by omega) ⟨_, by simp only [i_addl], hq, hf.tr hf1⟩
    · rw [if_neg h] at hq
      exact Hm_some ⟨by rw [hq], hf.tr hf1⟩
  · rintro G lv M' - ⟨u, rfl, hq, hf⟩
    simp (disch := omega) only [e283_6b, i_nat, Nat.add_zero, Nat.not_lt_zero, i_neg, i_lt, i_le, i_eq, i_add, i_addl, i_addr, i_mulr, i_mull, i_subl, i_pred, i_ltl, i_ltr, i_eql, i_em1, cIn_s, cVd_s, cLo_s, ic_true, ic_false, ic_same, i10, eq_self, b2_0, b2_1, b2_and, b2_t, b2_f, ck', eq_true (show 40 < 40 + 1 by omega)]
    exact Hm_some ⟨by rw [hq]; rfl, hf⟩
theorem fall_hor : ∀ (k k' : Nat) (tall : Int32) (i : Nat), k ≤ k' → (i + k < fall Y a s props n tall i k ↔ i + k < fall Y a s props n tall i k')
  | 0, 0, tall, i, _ => Iff.rfl
  | 0, k' + 1, tall, i, _ => by
    have : ∀ (k' : Nat) (tall : Int32) (i : Nat), i < fall Y a s props n tall i k' := by
      intro k'
      induction k' with
      | zero => intro tall i; show i < i + 1; omega
      | succ k' ih =>
        intro tall i
        unfold fall
        split
        · exact Nat.lt_trans (Nat.lt_succ_self i) (ih _ (i + 1))
        · omega
    exact ⟨fun _ => this _ _ _, fun _ => this _ _ _⟩
  | k + 1, k' + 1, tall, i, h => by
    have ih := fall_hor k k' (tall - melP Y a s tall props (warm Y (n + i))) (i + 1) (by omega)
    rw [show i + 1 + k = i + (k + 1) by omega] at ih
    simp only [fall]
    split
    · exact ih
    · exact Iff.rfl
theorem ro_falls (hn : YN Y) (hi : SI Y t N) (ht : t < 10000) : RO 146 274 [vR 11 0 0, vI p] [vR 12 0 253, vI p] Y t N := by
  have h6 := hn.A6
  by_cases hp : isIn p (nA Y) = true
  · obtain ⟨a, ha, rfl⟩ := isIn_ex (show nA Y < 2147483648 by omega) hp
    cases hu : up N a
    · exact ⟨-1, fun d M hY hN => Hm_p (by simp (disch := omega) only [e146, sp94 hY.c hY.n, isIn_of (show nA Y < 2147483648 by omega) ha, i_nat, Nat.add_zero, Nat.not_lt_zero, i_neg, i_lt, i_le, i_eq, i_add, i_addl, i_addr, i_mulr, i_mull, i_subl, i_pred, i_ltl, i_ltr, i_eql, i_em1, cIn_s, cVd_s, cLo_s, ic_true, ic_false, ic_same, i10, eq_self, b2_0, b2_1, b2_and, b2_t, b2_f, ck', sp97 hN.c, hu]) Fr.rf, fun d M hY hN => Hm_p (by simp (disch := omega) only [e274, sp238 (B := 0) (b := 0) rfl hY.th.r hY.th.n (hN.th h6).r (hN.th h6).i (show 0 ≤ 1078 by omega) ha, hu, i_nat, Nat.add_zero, Nat.not_lt_zero, i_neg, i_lt, i_le, i_eq, i_add, i_addl, i_addr, i_mulr, i_mull, i_subl, i_pred, i_ltl, i_ltr, i_eql, i_em1, cIn_s, cVd_s, cLo_s, ic_true, ic_false, ic_same, i10, eq_self, b2_0, b2_1, b2_and, b2_t, b2_f, ck']) th0⟩
    · obtain ⟨g1, g2, g3⟩ := fall_gt hn hi ha hu 40 0 (by omega) hu
      rw [show nS Y N 0 1 a = N 1 a from rfl] at g1 g2 g3
      generalize hF : fall Y a (spt N a) (N 3 a) (nnt N) (N 1 a) 0 40 = F at *
      refine ⟨if 40 < F then -1 else Int32.ofNat F, fun d M hY hN => ?_, fun d M hY hN => ?_⟩
      · simp (disch := omega) only [e146, sp94 hY.c hY.n, isIn_of (show nA Y < 2147483648 by omega) ha, i_nat, Nat.add_zero, Nat.not_lt_zero, i_neg, i_lt, i_le, i_eq, i_add, i_addl, i_addr, i_mulr, i_mull, i_subl, i_pred, i_ltl, i_ltr, i_eql, i_em1, cIn_s, cVd_s, cLo_s, ic_true, ic_false, ic_same, i10, eq_self, b2_0, b2_1, b2_and, b2_t, b2_f, ck', sp97 hN.c, hu, Bool.true_eq_false, hN.c.n]
        refine Hm_cIv (sp147 (c := 40) hY.c hY.n hY.l hN.c hN.i (by omega) ha hu (by omega)) (fun M1 hf => ?_)
        rw [hF]
        simp (disch := omega) only [i_nat, Nat.add_zero, Nat.not_lt_zero, i_neg, i_lt, i_le, i_eq, i_add, i_addl, i_addr, i_mulr, i_mull, i_subl, i_pred, i_ltl, i_ltr, i_eql, i_em1, ic_ite]
        exact Hm_some ⟨rfl, W22 hf⟩
      · have hY' := hY.th
        have hN' := hN.th h6
        simp (disch := omega) only [e274, sp238 (B := 0) (b := 0) rfl hY'.r hY'.n hN'.r hN'.i (show 0 ≤ 1078 by omega) ha, hu, i_nat, Nat.add_zero, Nat.not_lt_zero, i_neg, i_lt, i_le, i_eq, i_add, i_addl, i_addr, i_mulr, i_mull, i_subl, i_pred, i_ltl, i_ltr, i_eql, i_em1, cIn_s, cVd_s, cLo_s, ic_true, ic_false, ic_same, i10, eq_self, b2_0, b2_1, b2_and, b2_t, b2_f, ck']
        refine Hm_cVv (sp259S (B := 0) (b := 0) (B' := 1029) (b' := 1029) rfl rfl hY'.n hN'.r (by omega) (by omega) (by omega)) (fun M1 h1 => ?_)
        obtain ⟨s1, f1⟩ := h1
        simp only [lp0_eq]
        refine lp_for (d := d + 39) (x := 274) (pc := 26) 40 1 0 (by omega) (fun i lv M2 => lv = [some (vR 12 0 253), some (vI (Int32.ofNat a)), some (vI (Int32.ofNat (i + 1)))] ∧ SR Y (nS Y N i) 1029 M2 ∧ up (nS Y N i) a = true ∧ Fr ScW M M2) ?_ ?_ 40 0 (by omega) 20000 _ M1 (by omega) ⟨rfl, s1, hu, th0.tr (W69 (by omega) f1)⟩
        · rintro i hi' G lv M2 - ⟨rfl, s2, u2, f2⟩ z
          have hY2 := hY.sc f2
          have hI2 := nS_SI hn hi i (by omega)
          simp (disch := omega) only [e274_26, i_nat, Nat.add_zero, Nat.not_lt_zero, i_neg, i_lt, i_le, i_eq, i_add, i_addl, i_addr, i_mulr, i_mull, i_subl, i_pred, i_ltl, i_ltr, i_eql, i_em1, cIn_s, cVd_s, cLo_s, ic_true, ic_false, ic_same, i10, eq_self, b2_0, b2_1, b2_and, b2_t, b2_f, ck', eq_false (show ¬ 40 < i + 1 by omega)]
          refine Hm_cIv (sp269 (B := 1029) (b := 1029) (m := 0) rfl hY2.r hY2.n hY2.l s2 hI2 (by omega) (by omega)) (fun M3 h3 => ?_)
          obtain ⟨s3, f3⟩ := h3
          rw [md3_0, show nitS Y (nS Y N i) 0 = nS Y N (i + 1) from rfl] at s3
          have f3' := f2.tr (W679 (by omega) f3)
          have hY3 := hY.sc f3'
          have hI3 := nS_SI hn hi (i + 1) (by omega)
          have gi := g1 i (by omega)
          have gi1 := g1 (i + 1) (by omega)
          simp only [Nat.zero_add] at gi gi1
          simp only [sp238 (B := 1029) (b := 1029) rfl hY3.r hY3.n s3 hI3 (show 1029 ≤ 1078 by omega) ha, cIn_s, b2_0]
          cases hu3 : up (nS Y N (i + 1)) a
          · simp only [ic_true]
            have e : F = i + 1 := by
              rw [hu3] at gi1
              have := gi.mp u2
              have h2 : ¬ i + 1 < F := fun z => by have := gi1.mpr z; cases this
              omega
            refine Hm_some ⟨?_, f3'⟩
            rw [if_neg (by omega), e]
          · simp only [Bool.true_eq_false, ic_false]
            exact z _ _ _ (by omega) ⟨rfl, s3, hu3, f3'⟩
        · rintro G lv M2 - ⟨rfl, s2, u2, f2⟩
          have := (g1 40 (by omega)).mp u2
          simp (disch := omega) only [e274_26, i_nat, Nat.add_zero, Nat.not_lt_zero, i_neg, i_lt, i_le, i_eq, i_add, i_addl, i_addr, i_mulr, i_mull, i_subl, i_pred, i_ltl, i_ltr, i_eql, i_em1, cIn_s, cVd_s, cLo_s, ic_true, ic_false, ic_same, i10, eq_self, b2_0, b2_1, b2_and, b2_t, b2_f, ck', eq_true (show 40 < 40 + 1 by omega)]
          exact Hm_some ⟨by rw [if_pos (by omega)], f2⟩
  · have hp' : isIn p (nA Y) = false := by simpa using hp
    exact ⟨-1, fun d M hY hN => Hm_p (by simp only [e146, sp94 hY.c hY.n, hp', cIn_s, cVd_s, cLo_s, ic_true, ic_false, ic_same, i10, eq_self, b2_0, b2_1, b2_and, b2_t, b2_f]) Fr.rf, fun d M hY hN => Hm_p (by simp only [e274, sp238n hY.th.r hY.th.n hp', cIn_s, cVd_s, cLo_s, ic_true, ic_false, ic_same, i10, eq_self, b2_0, b2_1, b2_and, b2_t, b2_f]) th0⟩
/-- the first thickness, from f on, that outlasts so many nights -/
def thn (Y : YT) (a s nn n : Nat) (f : Nat) : Nat → Int32
  | 0 => -1
  | k + 1 => if n < fall Y a s 0 nn (Int32.ofNat f) 0 40 then Int32.ofNat f else thn Y a s nn n (f + 1) k
theorem thn_s {nn f i : Nat} (h : i < 40) : thn Y a s nn n f (40 - i) = if n < fall Y a s 0 nn (Int32.ofNat f) 0 40 then Int32.ofNat f else thn Y a s nn n (f + 1) (40 - (i + 1)) := by
  obtain ⟨e, he⟩ : ∃ e, 40 - i = e + 1 := ⟨40 - i - 1, by omega⟩
  rw [he, show 40 - (i + 1) = e by omega]; rfl
theorem fall_le : ∀ (k : Nat) (tall : Int32) (i : Nat), fall Y a s props n tall i k ≤ i + k + 1 := by
  intro k
  induction k with
  | zero => intro tall i; exact Nat.le_refl _
  | succ k ih =>
    intro tall i
    unfold fall
    split
    · have := ih (tall - melP Y a s tall props (warm Y (n + i))) (i + 1); omega
    · omega
theorem thin_c (hY : IY Y M) (hN : IN Y t N M) (ha : a < nA Y) (hs : s < nB Y) (n30 : n ≤ 30) : Hm (lp (d + 39) 168 20000 32 [some (vR 11 0 0), some (vI (Int32.ofNat a)), some (vI (Int32.ofNat s)), some (vI (Int32.ofNat n)), some (vI 1)] M) (fun r M' => r = some (vI (thn Y a s (nnt N) n 1 40)) ∧ Fr ScW M M') := by
  have h6 := hY.n.A6
  have hB := hY.n.B6
  have ht := hN.t
  have hnb := hN.i.nb
  refine lp_for (d := d + 39) (x := 168) (pc := 32) 40 1 0 (by omega) (fun i lv M2 => lv = [some (vR 11 0 0), some (vI (Int32.ofNat a)), some (vI (Int32.ofNat s)), some (vI (Int32.ofNat n)), some (vI (Int32.ofNat (i + 1)))] ∧ thn Y a s (nnt N) n 1 40 = thn Y a s (nnt N) n (i + 1) (40 - i) ∧ Fr ScW M M2) ?_ ?_ 40 0 (by omega) 20000 _ M (by omega) ⟨rfl, rfl, Fr.rf⟩
  · rintro i hi' G lv M2 - ⟨rfl, hg, f2⟩ z
    have hY2 := hY.sc f2
    have hN2 := hN.sc h6 f2
    have fh := fall_hor (Y := Y) (a := a) (s := s) (props := 0) (n := nnt N) n 40 (Int32.ofNat (i + 1)) 0 (by omega)
    rw [Nat.zero_add] at fh
    rw [thn_s hi'] at hg
    simp (disch := omega) only [e168_32, i_nat, Nat.add_zero, Nat.not_lt_zero, i_neg, i_lt, i_le, i_eq, i_add, i_addl, i_addr, i_mulr, i_mull, i_subl, i_pred, i_ltl, i_ltr, i_eql, i_em1, cIn_s, cVd_s, cLo_s, ic_true, ic_false, ic_same, i10, eq_self, b2_0, b2_1, b2_and, b2_t, b2_f, ck', eq_false (show ¬ 40 < i + 1 by omega), hN2.c.n, hN2.i.n]
    refine Hm_cIv (sp148 hY2.c hY2.n hY2.l (by omega) (by omega) (by omega) (by omega)) (fun M3 f3 => ?_)
    have hle := fall_le (Y := Y) (a := a) (s := s) (props := 0) (n := nnt N) n (Int32.ofNat (i + 1)) 0
    simp (disch := omega) only [i_nat, Nat.add_zero, Nat.not_lt_zero, i_neg, i_lt, i_le, i_eq, i_add, i_addl, i_addr, i_mulr, i_mull, i_subl, i_pred, i_ltl, i_ltr, i_eql, i_em1, fh]
    refine Hm_ic (fun h => ?_) (fun h => ?_)
    · rw [if_pos h] at hg
      exact Hm_some ⟨by rw [hg], f2.tr (W22 f3)⟩
    · rw [if_neg h] at hg
      exact z _ _ _ (by omega) ⟨rfl, hg, f2.tr (W22 f3)⟩
  · rintro G lv M2 - ⟨rfl, hg, f2⟩
    simp (disch := omega) only [e168_32, i_nat, Nat.add_zero, Nat.not_lt_zero, i_neg, i_lt, i_le, i_eq, i_add, i_addl, i_addr, i_mulr, i_mull, i_subl, i_pred, i_ltl, i_ltr, i_eql, i_em1, cIn_s, cVd_s, cLo_s, ic_true, ic_false, ic_same, i10, eq_self, b2_0, b2_1, b2_and, b2_t, b2_f, ck', eq_true (show 40 < 40 + 1 by omega)]
    exact Hm_some ⟨by rw [hg]; rfl, f2⟩
theorem thin_r (hY : IY Y M) (hN : IN Y t N M) (ha : a < nA Y) (hs : s < nB Y) (n30 : n ≤ 30) : Hm (lp (d + 39) 285 20000 36 [some (vR 12 0 253), some (vI (Int32.ofNat a)), some (vI (Int32.ofNat s)), some (vI (Int32.ofNat n)), some (vI 1)] M) (fun r M' => r = some (vI (thn Y a s (nnt N) n 1 40)) ∧ Fr ScW M M') := by
  have h6 := hY.n.A6
  have hB := hY.n.B6
  have ht := hN.t
  have hnb := hN.i.nb
  refine lp_for (d := d + 39) (x := 285) (pc := 36) 40 1 0 (by omega) (fun i lv M2 => lv = [some (vR 12 0 253), some (vI (Int32.ofNat a)), some (vI (Int32.ofNat s)), some (vI (Int32.ofNat n)), some (vI (Int32.ofNat (i + 1)))] ∧ thn Y a s (nnt N) n 1 40 = thn Y a s (nnt N) n (i + 1) (40 - i) ∧ Fr ScW M M2) ?_ ?_ 40 0 (by omega) 20000 _ M (by omega) ⟨rfl, rfl, Fr.rf⟩
  · rintro i hi' G lv M2 - ⟨rfl, hg, f2⟩ z
    have hY2 := hY.sc f2
    have hN2 := hN.sc h6 f2
    rw [thn_s hi'] at hg
    simp (disch := omega) only [e285_36, i_nat, Nat.add_zero, Nat.not_lt_zero, i_neg, i_lt, i_le, i_eq, i_add, i_addl, i_addr, i_mulr, i_mull, i_subl, i_pred, i_ltl, i_ltr, i_eql, i_em1, cIn_s, cVd_s, cLo_s, ic_true, ic_false, ic_same, i10, eq_self, b2_0, b2_1, b2_and, b2_t, b2_f, ck', eq_false (show ¬ 40 < i + 1 by omega)]
    refine Hm_cIv (sp283 hY2 hN2 ha hs) (fun M3 f3 => ?_)
    have hle := fall_le (Y := Y) (a := a) (s := s) (props := 0) (n := nnt N) 40 (Int32.ofNat (i + 1)) 0
    simp (disch := omega) only [i_nat, Nat.add_zero, Nat.not_lt_zero, i_neg, i_lt, i_le, i_eq, i_add, i_addl, i_addr, i_mulr, i_mull, i_subl, i_pred, i_ltl, i_ltr, i_eql, i_em1]
    refine Hm_ic (fun h => ?_) (fun h => ?_)
    · rw [if_pos h] at hg
      exact Hm_some ⟨by rw [hg], f2.tr (W67 f3)⟩
    · rw [if_neg h] at hg
      exact z _ _ _ (by omega) ⟨rfl, hg, f2.tr (W67 f3)⟩
  · rintro G lv M2 - ⟨rfl, hg, f2⟩
    simp (disch := omega) only [e285_36, i_nat, Nat.add_zero, Nat.not_lt_zero, i_neg, i_lt, i_le, i_eq, i_add, i_addl, i_addr, i_mulr, i_mull, i_subl, i_pred, i_ltl, i_ltr, i_eql, i_em1, cIn_s, cVd_s, cLo_s, ic_true, ic_false, ic_same, i10, eq_self, b2_0, b2_1, b2_and, b2_t, b2_f, ck', eq_true (show 40 < 40 + 1 by omega)]
    exact Hm_some ⟨by rw [hg]; rfl, f2⟩
theorem ro_thin {p1 p2 : Int32} (hn : YN Y) : RO 168 285 [vR 11 0 0, vI p, vI p1, vI p2] [vR 12 0 253, vI p, vI p1, vI p2] Y t N := by
  have h6 := hn.A6
  have hB := hn.B6
  by_cases hp : isIn p (nA Y) = true
  · obtain ⟨a, ha, rfl⟩ := isIn_ex (show nA Y < 2147483648 by omega) hp
    by_cases hs : isIn p1 (nB Y) = true
    · obtain ⟨s, hs', rfl⟩ := isIn_ex (show nB Y < 2147483648 by omega) hs
      by_cases h1 : p2 < 1
      · have hw : wi p2 1 30 = false := by unfold wi; simp [h1]
        exact ⟨-1, fun d M hY hN => Hm_p (by simp only [e168, sp94 hY.c hY.n, sp117 hY.c hY.n, hp, hs, cIn_s, cVd_s, cLo_s, ic_true, ic_false, ic_same, i10, eq_self, b2_0, b2_1, b2_and, b2_t, b2_f, ic_t h1]) Fr.rf, fun d M hY hN => Hm_p (by simp only [e285, sp237 hY.th.r hY.th.n, sp254 hY.th.r hY.th.n, hp, hs, sp222, hw, cIn_s, cVd_s, cLo_s, ic_true, ic_false, ic_same, i10, eq_self, b2_0, b2_1, b2_and, b2_t, b2_f]) th0⟩
      · by_cases h2 : 30 < p2
        · have hw : wi p2 1 30 = false := by unfold wi; simp [h2]
          exact ⟨-1, fun d M hY hN => Hm_p (by simp only [e168, sp94 hY.c hY.n, sp117 hY.c hY.n, hp, hs, cIn_s, cVd_s, cLo_s, ic_true, ic_false, ic_same, i10, eq_self, b2_0, b2_1, b2_and, b2_t, b2_f, ic_f h1, ic_t h2]) Fr.rf, fun d M hY hN => Hm_p (by simp only [e285, sp237 hY.th.r hY.th.n, sp254 hY.th.r hY.th.n, hp, hs, sp222, hw, cIn_s, cVd_s, cLo_s, ic_true, ic_false, ic_same, i10, eq_self, b2_0, b2_1, b2_and, b2_t, b2_f]) th0⟩
        · have hw : wi p2 1 30 = true := by unfold wi; simp [h1, h2]
          obtain ⟨n, n1, n30, rfl⟩ := wi_ex1 (l := 1) (m := 30) (by omega) (by omega) hw
          refine ⟨thn Y a s (nnt N) n 1 40, fun d M hY hN => ?_, fun d M hY hN => ?_⟩
          · simp only [e168, sp94 hY.c hY.n, sp117 hY.c hY.n, hp, hs, cIn_s, cVd_s, cLo_s, ic_true, ic_false, ic_same, i10, eq_self, b2_0, b2_1, b2_and, b2_t, b2_f, ic_f h1, ic_f h2, lp0_eq]
            exact thin_c hY hN ha hs' n30
          · simp only [e285, sp237 hY.th.r hY.th.n, sp254 hY.th.r hY.th.n, hp, hs, sp222, hw, cIn_s, cVd_s, cLo_s, ic_true, ic_false, ic_same, i10, eq_self, b2_0, b2_1, b2_and, b2_t, b2_f, lp0_eq]
            exact Hm_mono (thin_r hY.th (hN.th h6) ha hs' n30) (fun r M' h => ⟨h.1, th0.tr h.2⟩)
    · have hs' : isIn p1 (nB Y) = false := by simpa using hs
      exact ⟨-1, fun d M hY hN => Hm_p (by simp only [e168, sp94 hY.c hY.n, sp117 hY.c hY.n, hp, hs', cIn_s, cVd_s, cLo_s, ic_true, ic_false, ic_same, i10, eq_self, b2_0, b2_1, b2_and, b2_t, b2_f]) Fr.rf, fun d M hY hN => Hm_p (by simp only [e285, sp237 hY.th.r hY.th.n, sp254 hY.th.r hY.th.n, hp, hs', cIn_s, cVd_s, cLo_s, ic_true, ic_false, ic_same, i10, eq_self, b2_0, b2_1, b2_and, b2_t, b2_f]) th0⟩
  · have hp' : isIn p (nA Y) = false := by simpa using hp
    exact ⟨-1, fun d M hY hN => Hm_p (by simp only [e168, sp94 hY.c hY.n, hp', cIn_s, cVd_s, cLo_s, ic_true, ic_false, ic_same, i10, eq_self, b2_0, b2_1, b2_and, b2_t, b2_f]) Fr.rf, fun d M hY hN => Hm_p (by simp only [e285, sp237 hY.th.r hY.th.n, hp', cIn_s, cVd_s, cLo_s, ic_true, ic_false, ic_same, i10, eq_self, b2_0, b2_1, b2_and, b2_t, b2_f]) th0⟩
end RO3
