/-! propped -/
section RO6
variable {Y N S : YT} {t a s n c b d e : Nat} {M : Mem} {p q x f set props : Int32}
def kep (Y S : YT) (e : Nat) (props : Int32) (n : Nat) : Nat := if inF Y S e && decide (n < fall Y e (spt S e) props (nnt S) (S 1 e) 0 n) then (Y 16 e).toNatClampNeg else 0
theorem kep_bd (hG : YG Y) (he : e < nA Y) : kep Y S e props n ≤ 99 := by
  unfold kep; split
  · exact rg_le (hG.1 e he).2.2
  · omega
theorem nS_up (hN : YN Y) (hI : SI Y b S) (he : e < nA Y) (hb : b + n < 1000000) : up (nS Y S n) e = (up S e && decide (n < fall Y e (spt S e) (S 3 e) (nnt S) (S 1 e) 0 n)) := by
  cases hu : up S e
  · have := nS_down hN hI he n 0 (by omega) hu
    rw [Nat.zero_add] at this
    rw [this]; rfl
  · have := (fall_gt hN hI he hu n 0 (by omega) hu).1 n (Nat.le_refl _)
    rw [Nat.zero_add, show nS Y S 0 1 e = S 1 e from rfl] at this
    rw [Bool.true_and, Bool.eq_iff_iff, decide_eq_true_eq]; exact this
theorem nS_inF (hN : YN Y) (hI : SI Y b S) (he : e < nA Y) (hb : b + n < 1000000) : inF Y (nS Y S n) e = (inF Y S e && decide (n < fall Y e (spt S e) (S 3 e) (nnt S) (S 1 e) 0 n)) := by
  unfold inF isD
  rw [nS_up hN hI he hb, (nS_same hN hI he n hb).1]
  cases up S e <;> cases decide (n < fall Y e (spt S e) (S 3 e) (nnt S) (S 1 e) 0 n) <;> simp
theorem nS_wor (hN : YN Y) (hI : SI Y b S) (hb : b + n < 1000000) : worN Y (force Y (nS Y S n)) = sm (fun e => kep Y S e (S 3 e) n) (nA Y) := by
  have h6 := hN.A6
  refine sm_cong _ (fun e he => ?_)
  rw [bt_force hN (by omega), nS_inF hN hI he hb]
  simp [he, kep]
theorem sm_one {f g : Nat → Nat} : ∀ n, a < n → (∀ e, e < n → e ≠ a → f e = g e) → sm f n + g a = sm g n + f a
  | 0, h, _ => by omega
  | n + 1, h, hg => by
    simp only [sm]
    by_cases z : a = n
    · subst z
      rw [sm_cong a (fun e he => hg e (by omega) (by omega))]; omega
    · have ih := sm_one n (by omega) (fun e he h2 => hg e (by omega) h2)
      rw [hg n (by omega) (Ne.symm z)]; omega
theorem prp_kep : kep Y (us S 3 a x) e props n = kep Y S e props n := by
  unfold kep inF up isD spt nnt
  simp (disch := omega) only [us_ne]
theorem prp_wor (hN : YN Y) (hI : SI Y b S) (ha : a < nA Y) (h3 : S 3 a < 3) (hb : b + n < 1000000) : worN Y (force Y (nS Y (us S 3 a (S 3 a + 1)) n)) + kep Y S a (S 3 a) n = worN Y (force Y (nS Y S n)) + kep Y S a (S 3 a + 1) n := by
  rw [nS_wor hN hI hb, nS_wor hN (SI_prp hI ha h3) hb]
  have := sm_one (f := fun e => kep Y (us S 3 a (S 3 a + 1)) e (us S 3 a (S 3 a + 1) 3 e) n) (g := fun e => kep Y S e (S 3 e) n) (a := a) (nA Y) ha (fun e _ hne => by rw [us_ne (.inr hne), prp_kep])
  rw [us_eq, prp_kep] at this
  exact this
/-- the best to prop: how much it saves, and which -/
def prS (Y S : YT) (n : Nat) (g : Nat × Int32) (a : Nat) : Nat × Int32 := if mayP S a && decide (g.1 + kep Y S a (S 3 a) n < kep Y S a (S 3 a + 1) n) then (kep Y S a (S 3 a + 1) n - kep Y S a (S 3 a) n, Int32.ofNat a) else g
def prN (Y S : YT) (n : Nat) : Nat → Nat × Int32 := rf (prS Y S n) (0, -1)
theorem prN_bd (hG : YG Y) : ∀ i, i ≤ nA Y → (prN Y S n i).1 ≤ 99
  | 0, _ => by show 0 ≤ 99; omega
  | i + 1, h => by
    have ih := prN_bd hG i (by omega)
    show (prS Y S n (prN Y S n i) i).1 ≤ 99
    unfold prS
    split
    · have := kep_bd (S := S) (e := i) (props := S 3 i + 1) (n := n) hG (by omega)
      show kep Y S i (S 3 i + 1) n - _ ≤ 99; omega
    · exact ih
theorem sp175 (hY : IY Y M) (hN : IN Y t N M) (ha : a < nA Y) (hn : n ≤ 30) : Hm (evD (d + 8) 175 [vR 3 0 69, vI (Int32.ofNat a), vI props, vI (Int32.ofNat n)] M) (fun r M' => r = some (vI (Int32.ofNat (kep Y N a props n))) ∧ Fr (fun c _ => c = 22) M M') := by
  have h6 := hY.n.A6
  have ht := hN.t
  have hg := (hY.g.1 a ha).2.2
  simp (disch := omega) only [e175, sp96 hY.c hN.c, i_nat, Nat.add_zero, Nat.not_lt_zero, i_neg, i_lt, i_le, i_eq, i_add, i_addl, i_addr, i_mulr, i_mull, i_subl, i_pred, i_ltl, i_ltr, i_eql, i_em1, cIn_s, cVd_s, cLo_s, ic_true, ic_false, ic_same, i10, eq_self, b2_0, b2_1, b2_and, b2_t, b2_f, ck']
  cases hf : inF Y N a
  · simp only [ic_true]
    exact Hm_some ⟨by simp only [kep, hf, Bool.false_and, Bool.false_eq_true, if_false]; rfl, Fr.rf⟩
  · have hu : up N a = true := by unfold inF at hf; revert hf; cases up N a <;> simp
    simp only [Bool.true_eq_false, ic_false]
    refine Hm_cIv (sp147 hY.c hY.n hY.l hN.c hN.i (by omega) ha hu (by omega)) (fun M1 h1 => ?_)
    have hl := fall_le (Y := Y) (a := a) (s := spt N a) (props := props) (n := nnt N) n (N 1 a) 0
    have hY1 : IY Y M1 := hY.fr h1 (fun c j hc => by unfold yc at *; omega)
    simp (disch := omega) only [i_nat, Nat.add_zero, Nat.not_lt_zero, i_neg, i_lt, i_le, i_eq, i_add, i_addl, i_addr, i_mulr, i_mull, i_subl, i_pred, i_ltl, i_ltr, i_eql, i_em1, cIn_s, cVd_s, cLo_s, ic_true, ic_false, ic_same, i10, eq_self, b2_0, b2_1, b2_and, b2_t, b2_f, ck', hY1.c]
    refine Hm_ic (fun h => ?_) (fun h => ?_)
    · exact Hm_some ⟨by simp only [kep, hf, h, decide_true, Bool.and_self, if_true]; rw [← rg_nat hg], h1⟩
    · exact Hm_some ⟨by simp only [kep, hf, h, decide_false, Bool.and_false, Bool.false_eq_true, if_false]; rfl, h1⟩
theorem sp174 (hY : IY Y M) (hN : IN Y t N M) (hn : n ≤ 30) : Hm (evD (d + 9) 174 [vR 3 0 69, vI (Int32.ofNat n)] M) (fun r M' => r = some (vI (prN Y N n (nA Y)).2) ∧ Fr ScW M M') := by
  have h6 := hY.n.A6
  rw [e174]; simp only [lp0_eq]
  refine lp_for (d := d + 8) (x := 174) (pc := 7) (nA Y) 1 0 (by omega) (fun i lv M' => ∃ o, lv = [some (vR 3 0 69), some (vI (Int32.ofNat n)), some (vI (Int32.ofNat (prN Y N n i).1)), some (vI (prN Y N n i).2), some (vI (Int32.ofNat i)), o] ∧ Fr ScW M M') ?_ ?_ (nA Y) 0 (by omega) 20000 _ M (by omega) ⟨_, rfl, Fr.rf⟩
  · rintro i hi G lv M' - ⟨o, rfl, hf⟩ z
    have hY' := hY.sc hf
    have hN' := hN.sc h6 hf
    have bd := prN_bd (S := N) (n := n) hY.g i (by omega)
    have e1 : prN Y N n (i + 1) = prS Y N n (prN Y N n i) i := rfl
    rw [e1] at z
    generalize prN Y N n i = g at *
    simp (disch := omega) only [e174_7, i_nat, Nat.add_zero, Nat.not_lt_zero, i_neg, i_lt, i_le, i_eq, i_add, i_addl, i_addr, i_mulr, i_mull, i_subl, i_pred, i_ltl, i_ltr, i_eql, i_em1, cIn_s, cVd_s, cLo_s, ic_true, ic_false, ic_same, i10, eq_self, b2_0, b2_1, b2_and, b2_t, b2_f, ck', hY'.c, hY'.n.A, hi, sp128 hN'.c]
    cases hm : mayP N i
    · simp only [cIn_s, cVd_s, cLo_s, ic_true, ic_false, ic_same]
      exact z _ _ _ (by omega) ⟨o, by simp [prS, hm], hf⟩
    · simp (disch := omega) only [cIn_s, cVd_s, cLo_s, ic_true, ic_false, ic_same, Bool.true_eq_false, hN'.c.n]
      refine Hm_cIv (sp175 hY' hN' hi hn) (fun M1 h1 => ?_)
      have hf1 := hf.tr (W22 h1)
      have hY1 := hY.sc hf1
      have hN1 := hN.sc h6 hf1
      simp (disch := omega) only [i_nat, Nat.add_zero, Nat.not_lt_zero, i_neg, i_lt, i_le, i_eq, i_add, i_addl, i_addr, i_mulr, i_mull, i_subl, i_pred, i_ltl, i_ltr, i_eql, i_em1, cIn_s, cVd_s, cLo_s, ic_true, ic_false, ic_same, i10, eq_self, b2_0, b2_1, b2_and, b2_t, b2_f, ck', hN1.c.n]
      refine Hm_cIv (sp175 hY1 hN1 hi hn) (fun M2 h2 => ?_)
      have hf2 := hf1.tr (W22 h2)
      have k1 := kep_bd (S := N) (e := i) (props := N 3 i + 1) (n := n) hY.g hi
      have k0 := kep_bd (S := N) (e := i) (props := N 3 i) (n := n) hY.g hi
      have lt : (Int32.ofNat g.1 < Int32.ofNat (kep Y N i (N 3 i + 1) n) - Int32.ofNat (kep Y N i (N 3 i) n)) ↔ g.1 + kep Y N i (N 3 i) n < kep Y N i (N 3 i + 1) n := by
        rw [t_lt, t_sub (by rw [i_toInt (by omega), i_toInt (by omega)]; omega) (by rw [i_toInt (by omega), i_toInt (by omega)]; omega), i_toInt (by omega), i_toInt (by omega), i_toInt (by omega)]; omega
      rw [show (Int32.ofNat g.1 < Int32.ofNat (kep Y N i (N 3 i + 1) n) - Int32.ofNat (kep Y N i (N 3 i) n)) = (g.1 + kep Y N i (N 3 i) n < kep Y N i (N 3 i + 1) n) from propext lt]
      refine Hm_ic (fun h => ?_) (fun h => ?_)
      · rw [i_sub (by omega)]
        exact z _ _ _ (by omega) ⟨_, by simp only [prS, hm, h, decide_true, Bool.and_self, if_true]; rfl, hf2⟩
      · exact z _ _ _ (by omega) ⟨_, by simp only [prS, hm, h, decide_false, Bool.and_false, Bool.false_eq_true, if_false]; rfl, hf2⟩
  · rintro G lv M' - ⟨o, rfl, hf⟩
    have hY' := hY.sc hf
    simp (disch := omega) only [e174_7, i_nat, Nat.add_zero, Nat.not_lt_zero, i_neg, i_lt, i_le, i_eq, i_add, i_addl, i_addr, i_mulr, i_mull, i_subl, i_pred, i_ltl, i_ltr, i_eql, i_em1, cIn_s, cVd_s, cLo_s, ic_true, ic_false, ic_same, i10, eq_self, b2_0, b2_1, b2_and, b2_t, b2_f, ck', hY'.c, hY'.n.A, Nat.lt_irrefl]
    exact Hm_some ⟨rfl, hf⟩
/-- the reference's nights on its trial state -/
theorem sp289n (hY : IY Y M) (hS : SR Y S 1029 M) (hI : SI Y b S) (hb : b < 20000) (hn : n ≤ 30) (o1 : Option AV) : Hm (lp (d + 8) 289 20000 28 [some (vR 12 0 253), o1, some (vI (Int32.ofNat n)), some (vI 0)] M) (fun r M' => r = some (vI (Int32.ofNat (worN Y (force Y (nS Y S n))))) ∧ Fr ScW M M') := by
  refine lp_for (d := d + 8) (x := 289) (pc := 28) n 1 0 (by omega) (fun i lv M' => lv = [some (vR 12 0 253), o1, some (vI (Int32.ofNat n)), some (vI (Int32.ofNat i))] ∧ SR Y (nS Y S i) 1029 M' ∧ Fr ScW M M') ?_ ?_ n 0 (by omega) 20000 _ M (by omega) ⟨rfl, hS, Fr.rf⟩
  · rintro i hi G lv M' - ⟨rfl, hs, hf⟩ z
    have hY' := hY.sc hf
    simp (disch := omega) only [e289_28, i_nat, Nat.add_zero, Nat.not_lt_zero, i_neg, i_lt, i_le, i_eq, i_add, i_addl, i_addr, i_mulr, i_mull, i_subl, i_pred, i_ltl, i_ltr, i_eql, i_em1, cIn_s, cVd_s, cLo_s, ic_true, ic_false, ic_same, i10, eq_self, b2_0, b2_1, b2_and, b2_t, b2_f, ck', hi]
    refine Hm_cIv (sp269 (B := 1029) (b := 1029) (m := 0) rfl hY'.r hY'.n hY'.l hs (nS_SI hY.n hI i (by omega)) (by omega) (by omega)) (fun M1 h1 => ?_)
    exact z _ _ _ (by omega) ⟨rfl, h1.1, hf.tr (W679 (by omega) h1.2)⟩
  · rintro G lv M' - ⟨rfl, hs, hf⟩
    have hY' := hY.sc hf
    simp (disch := omega) only [e289_28, i_nat, Nat.add_zero, Nat.not_lt_zero, i_neg, i_lt, i_le, i_eq, i_add, i_addl, i_addr, i_mulr, i_mull, i_subl, i_pred, i_ltl, i_ltr, i_eql, i_em1, cIn_s, cVd_s, cLo_s, ic_true, ic_false, ic_same, i10, eq_self, b2_0, b2_1, b2_and, b2_t, b2_f, ck', Nat.lt_irrefl, sp250 (B := 1029) (b := 1029) rfl hY'.r hY'.n hs (nS_SI hY.n hI n (by omega)) (show 1029 ≤ 1078 by omega), sp252 hY'.r hY'.n, wor_N hY.g]
    exact Hm_some ⟨rfl, hf⟩
theorem sp289a (hY : IY Y M) (hN : IN Y t N M) (hn : n ≤ 30) : Hm (evD (d + 9) 289 [vR 12 0 253, vI (-1), vI (Int32.ofNat n)] M) (fun r M' => r = some (vI (Int32.ofNat (worN Y (force Y (nS Y N n))))) ∧ Fr ScW M M') := by
  have ht := hN.t
  rw [e289]
  refine Hm_cVv (sp259S (B := 0) (b := 0) (B' := 1029) (b' := 1029) rfl rfl hY.n hN.r (by omega) (by omega) (by omega)) (fun M1 h1 => ?_)
  have hf := W69 (by omega) h1.2
  simp only [show ((-1 : Int32) < 0) = True by decide, ic_true, lp0_eq]
  exact Hm_mono (sp289n (hY.sc hf) h1.1 hN.i (by omega) hn _) (fun r M' h => ⟨h.1, hf.tr h.2⟩)
theorem sp289b (hY : IY Y M) (hN : IN Y t N M) (hn : n ≤ 30) (ha : a < nA Y) (hp : N 3 a < 3) : Hm (evD (d + 9) 289 [vR 12 0 253, vI (Int32.ofNat a), vI (Int32.ofNat n)] M) (fun r M' => r = some (vI (Int32.ofNat (worN Y (force Y (nS Y (us N 3 a (N 3 a + 1)) n))))) ∧ Fr ScW M M') := by
  have h6 := hY.n.A6
  have ht := hN.t
  rw [e289]
  refine Hm_cVv (sp259S (B := 0) (b := 0) (B' := 1029) (b' := 1029) rfl rfl hY.n hN.r (by omega) (by omega) (by omega)) (fun M1 h1 => ?_)
  have hf := W69 (by omega) h1.2
  have k := (h1.1.2.1 a ha).2.2.2.1
  simp only [show 1029 + 25 + a = 1054 + a by omega] at k
  have s2 := SR_prp (v := N 3 a + 1) hY.n h1.1 ha
  simp only [show 1029 + 25 + a = 1054 + a by omega] at s2
  simp (disch := omega) only [i_nat, Nat.add_zero, Nat.not_lt_zero, i_neg, i_lt, i_le, i_eq, i_add, i_addl, i_addr, i_mulr, i_mull, i_subl, i_pred, i_ltl, i_ltr, i_eql, i_em1, cIn_s, cVd_s, cLo_s, ic_true, ic_false, ic_same, i10, eq_self, b2_0, b2_1, b2_and, b2_t, b2_f, ck', lp0_eq, k]
  have hf2 : Fr ScW M (sI M1 269 (1054 + a) (N 3 a + 1)) := hf.sI (by unfold ScW; omega)
  exact Hm_mono (sp289n (hY.sc hf2) s2 (SI_prp hN.i ha hp) (by omega) hn _) (fun r M' h => ⟨h.1, hf2.tr h.2⟩)
theorem ro_propped (hn : YN Y) (hG : YG Y) (hi : SI Y t N) (ht : t < 10000) : RO 173 288 [vR 11 0 0, vI p] [vR 12 0 253, vI p] Y t N := by
  have h6 := hn.A6
  by_cases h1 : p < 1
  · have hw : wi p 1 30 = false := by unfold wi; simp [h1]
    exact ⟨-1, fun d M hY hN => Hm_p (by simp only [e173, ic_t h1]) Fr.rf, fun d M hY hN => Hm_p (by simp only [e288, sp222, hw, cIn_s, cVd_s, cLo_s, ic_true, ic_false, ic_same, i10, eq_self, b2_0, b2_1, b2_and, b2_t, b2_f]) th0⟩
  · by_cases h2 : 30 < p
    · have hw : wi p 1 30 = false := by unfold wi; simp [h2]
      exact ⟨-1, fun d M hY hN => Hm_p (by simp only [e173, ic_f h1, ic_t h2]) Fr.rf, fun d M hY hN => Hm_p (by simp only [e288, sp222, hw, cIn_s, cVd_s, cLo_s, ic_true, ic_false, ic_same, i10, eq_self, b2_0, b2_1, b2_and, b2_t, b2_f]) th0⟩
    · have hw : wi p 1 30 = true := by unfold wi; simp [h1, h2]
      obtain ⟨n, n1, n30, rfl⟩ := wi_ex1 (l := 1) (m := 30) (by omega) (by omega) hw
      refine ⟨(prN Y N n (nA Y)).2, fun d M hY hN => ?_, fun d M hY hN => ?_⟩
      · simp only [e173, ic_f h1, ic_f h2]
        exact Hm_cIv (sp174 hY hN n30) (fun M1 h => Hm_some ⟨rfl, h⟩)
      · have hY' := hY.th
        have hN' := hN.th h6
        simp only [e288, sp222, hw, cIn_s, b2_t, i10, ic_false]
        refine Hm_cIv (sp289a hY' hN' n30) (fun M1 f1 => ?_)
        simp only [lp0_eq]
        have hb := worN_bd (set := force Y (nS Y N n)) hn hG
        refine lp_for (d := d + 39) (x := 288) (pc := 29) (nA Y) 1 0 (by omega) (fun i lv M' => ∃ o, lv = [some (vR 12 0 253), some (vI (Int32.ofNat n)), some (vI (prN Y N n i).2), some (vI (Int32.ofNat (worN Y (force Y (nS Y N n)) + (prN Y N n i).1))), some (vI (Int32.ofNat i)), o] ∧ Fr ScW M M') ?_ ?_ (nA Y) 0 (by omega) 20000 _ M1 (by omega) ⟨_, rfl, th0.tr f1⟩
        · rintro i hi' G lv M2 - ⟨o, rfl, hf⟩ z
          have hY2 := hY.sc hf
          have hN2 := hN.sc h6 hf
          have bd := prN_bd (S := N) (n := n) hG i (by omega)
          have e1 : prN Y N n (i + 1) = prS Y N n (prN Y N n i) i := rfl
          rw [e1] at z
          generalize prN Y N n i = g at *
          simp (disch := omega) only [e288_29, i_nat, Nat.add_zero, Nat.not_lt_zero, i_neg, i_lt, i_le, i_eq, i_add, i_addl, i_addr, i_mulr, i_mull, i_subl, i_pred, i_ltl, i_ltr, i_eql, i_em1, cIn_s, cVd_s, cLo_s, ic_true, ic_false, ic_same, i10, eq_self, b2_0, b2_1, b2_and, b2_t, b2_f, ck', sp197 hY2.r hY2.n, hi', sp265 (B := 0) (b := 0) rfl hY2.r hY2.n hN2.r hN2.i (show 0 ≤ 1078 by omega) hi']
          cases hm : mayP N i
          · have hlt : (Int32.ofNat (worN Y (force Y (nS Y N n)) + g.1) < -1) = False := by
              rw [t_lt, i_toInt (by omega), t_m1]; simp; omega
            simp only [cIn_s, cVd_s, cLo_s, ic_true, ic_false, ic_same, hlt]
            exact z _ _ _ (by omega) ⟨_, by simp [prS, hm]; rfl, hf⟩
          · have h3 : N 3 i < 3 := by unfold mayP at hm; simp at hm; exact hm.2
            have hw2 := prp_wor (n := n) hn hi hi' h3 (by omega)
            have hb2 := worN_bd (set := force Y (nS Y (us N 3 i (N 3 i + 1)) n)) hn hG
            have k1 := kep_bd (S := N) (e := i) (props := N 3 i + 1) (n := n) hG hi'
            have k0 := kep_bd (S := N) (e := i) (props := N 3 i) (n := n) hG hi'
            simp only [cIn_s, cVd_s, cLo_s, ic_true, ic_false, ic_same, Bool.true_eq_false]
            refine Hm_cIv (sp289b hY2 hN2 n30 hi' h3) (fun M3 f3 => ?_)
            simp (disch := omega) only [i_nat, Nat.add_zero, Nat.not_lt_zero, i_neg, i_lt, i_le, i_eq, i_add, i_addl, i_addr, i_mulr, i_mull, i_subl, i_pred, i_ltl, i_ltr, i_eql, i_em1]
            have hf3 := hf.tr f3
            by_cases h : worN Y (force Y (nS Y N n)) + g.1 < worN Y (force Y (nS Y (us N 3 i (N 3 i + 1)) n))
            · have h' : g.1 + kep Y N i (N 3 i) n < kep Y N i (N 3 i + 1) n := by omega
              simp only [h, ic_true]
              refine z _ _ _ (by omega) ⟨some (vI (Int32.ofNat (worN Y (force Y (nS Y (us N 3 i (N 3 i + 1)) n))))), ?_, hf3⟩
              simp only [prS, hm, h', decide_true, Bool.and_self, if_true]
              rw [show worN Y (force Y (nS Y N n)) + (kep Y N i (N 3 i + 1) n - kep Y N i (N 3 i) n) = worN Y (force Y (nS Y (us N 3 i (N 3 i + 1)) n)) by omega]
            · have h' : ¬ g.1 + kep Y N i (N 3 i) n < kep Y N i (N 3 i + 1) n := by omega
              simp only [h, ic_false]
              exact z _ _ _ (by omega) ⟨_, by simp only [prS, hm, h', decide_false, Bool.and_false, Bool.false_eq_true, if_false]; rfl, hf3⟩
        · rintro G lv M2 - ⟨o, rfl, hf⟩
          have hY2 := hY.sc hf
          simp (disch := omega) only [e288_29, i_nat, Nat.add_zero, Nat.not_lt_zero, i_neg, i_lt, i_le, i_eq, i_add, i_addl, i_addr, i_mulr, i_mull, i_subl, i_pred, i_ltl, i_ltr, i_eql, i_em1, cIn_s, cVd_s, cLo_s, ic_true, ic_false, ic_same, i10, eq_self, b2_0, b2_1, b2_and, b2_t, b2_f, ck', sp197 hY2.r hY2.n, Nat.lt_irrefl]
          exact Hm_some ⟨rfl, hf⟩
end RO6
