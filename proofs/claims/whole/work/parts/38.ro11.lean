/-! sets and look alike -/
section RO11
variable {Y N S : YT} {t a s n c b d e u k : Nat} {M : Mem} {p q x f set props deg : Int32}
theorem bt_andF (he : e < 32) : ∀ n, bt (andF Y N x n) e = (bt x e && decide (∀ k, k < n → fit Y N k = true → bt (Int32.ofNat k) e = true))
  | 0 => by simp [andF, rf]
  | n + 1 => by
    have ih := bt_andF he n
    have e1 : andF Y N x (n + 1) = if fit Y N n then andF Y N x n &&& Int32.ofNat n else andF Y N x n := rfl
    rw [e1]
    have e2 : decide (∀ k, k < n + 1 → fit Y N k = true → bt (Int32.ofNat k) e = true) = (decide (∀ k, k < n → fit Y N k = true → bt (Int32.ofNat k) e = true) && (!fit Y N n || bt (Int32.ofNat n) e)) := by
      rw [Bool.eq_iff_iff]
      simp only [decide_eq_true_eq, Bool.and_eq_true, Bool.or_eq_true, Bool.not_eq_true']
      refine ⟨fun h => ⟨fun k hk => h k (by omega), ?_⟩, fun h k hk hf => ?_⟩
      · cases q : fit Y N n
        · exact .inl rfl
        · exact .inr (h n (by omega) q)
      · by_cases y : k = n
        · subst y; rcases h.2 with z | z
          · rw [hf] at z; cases z
          · exact z
        · exact h.1 k (by omega) hf
    rw [e2]
    cases fit Y N n
    · simp only [Bool.false_eq_true, if_false, ih, Bool.not_false, Bool.true_or, Bool.and_true]
    · simp only [if_true, bt_and, ih, Bool.not_true, Bool.false_or, Bool.and_assoc]
theorem cnt_ex : ∀ n, cntF Y N n = 0 ∨ ∃ k, k < n ∧ fit Y N k = true
  | 0 => .inl rfl
  | n + 1 => by
    have e : cntF Y N (n + 1) = if fit Y N n then cntF Y N n + 1 else cntF Y N n := rfl
    cases hf : fit Y N n
    · rcases cnt_ex n with h | ⟨k, hk, h⟩
      · left; rw [e, hf]; exact h
      · exact .inr ⟨k, by omega, h⟩
    · exact .inr ⟨n, by omega, hf⟩
theorem and_eq (hn : YN Y) (h : cntF Y N (2 ^ nC Y) ≠ 0) : andF Y N 63 64 = andF Y N (Int32.ofNat (2 ^ nC Y - 1)) (2 ^ nC Y) := by
  have hC := hn.C6
  have h64 := pow64 hC
  have e64 : andF Y N 63 64 = andF Y N 63 (2 ^ nC Y) := fit_64 (f := fun x k => x &&& Int32.ofNat k) hn
  rw [e64]
  refine bt_ext (fun e he => ?_)
  rw [bt_andF he, bt_andF he]
  rcases cnt_ex (Y := Y) (N := N) (2 ^ nC Y) with z | ⟨k, hk, hf⟩
  · exact absurd z h
  · rw [show (63 : Int32) = Int32.ofNat (2 ^ 6 - 1) from rfl, bt_nat (by omega), bt_nat (by omega), Nat.testBit_two_pow_sub_one, Nat.testBit_two_pow_sub_one]
    by_cases h1 : e < nC Y
    · simp [h1, show e < 6 by omega]
    · have : decide (∀ k, k < 2 ^ nC Y → fit Y N k = true → bt (Int32.ofNat k) e = true) = false := by
        simp only [decide_eq_false_iff_not]
        intro q
        have := q k hk hf
        rw [bt_nat (by omega)] at this
        have h2 := Nat.testBit_lt_two_pow (x := k) (i := e) (Nat.lt_of_lt_of_le hk (Nat.pow_le_pow_right (by omega) (by omega)))
        rw [h2] at this; cases this
      rw [this]; simp
theorem W67s {M' : Mem} (hY : IY Y M) (h : Fr (fun c _ => c = 267 ∨ c = 268) M M') : IY Y M' := hY.sc (W67 h)
theorem ro_sets (hn : YN Y) : RO 177 291 [vR 11 0 0, vI p] [vR 12 0 253, vI p] Y t N := by
  have h6 := hn.A6
  have hC := hn.C6
  have h64 := pow64 hC
  have hc64 : cntF Y N 64 = cntF Y N (2 ^ nC Y) := fit_64 (f := fun x _ => x + 1) hn
  have ho64 : orF Y N 64 = orF Y N (2 ^ nC Y) := fit_64 (f := fun x k => x ||| Int32.ofNat k) hn
  have hcl := cnt_le (Y := Y) (N := N) (2 ^ nC Y)
  by_cases h0 : p < 0
  · have hw : wi p 0 2 = false := by unfold wi; simp [h0]
    exact ⟨-1, fun d M hY hN => Hm_p (by simp only [e177, ic_t h0]) Fr.rf, fun d M hY hN => Hm_p (by simp only [e291, sp222, hw, cIn_s, cVd_s, cLo_s, ic_true, ic_false, ic_same, i10, eq_self, b2_0, b2_1, b2_and, b2_t, b2_f]) th0⟩
  · by_cases h2 : 2 < p
    · have hw : wi p 0 2 = false := by unfold wi; simp [h2]
      exact ⟨-1, fun d M hY hN => Hm_p (by simp only [e177, ic_f h0, ic_t h2]) Fr.rf, fun d M hY hN => Hm_p (by simp only [e291, sp222, hw, cIn_s, cVd_s, cLo_s, ic_true, ic_false, ic_same, i10, eq_self, b2_0, b2_1, b2_and, b2_t, b2_f]) th0⟩
    · have hw : wi p 0 2 = true := by unfold wi; simp [h0, h2]
      refine ⟨if p = 0 then Int32.ofNat (cntF Y N (2 ^ nC Y)) else if cntF Y N (2 ^ nC Y) = 0 then -1 else if p = 1 then andF Y N (Int32.ofNat (2 ^ nC Y - 1)) (2 ^ nC Y) else orF Y N (2 ^ nC Y), fun d M hY hN => ?_, fun d M hY hN => ?_⟩
      · simp only [e177, ic_f h0, ic_f h2]
        refine Hm_cVv (sp178 hY hN) (fun M1 h1 => ?_)
        obtain ⟨-, F1, f1⟩ := h1
        have hs := F1.1
        rw [cnt_A, hc64] at hs
        simp (disch := omega) only [hs, sp182 F1, sp183 F1, cIn_s, i_nat, Nat.add_zero, Nat.not_lt_zero, i_neg, i_lt, i_le, i_eq, i_add, i_addl, i_addr, i_mulr, i_mull, i_subl, i_pred, i_ltl, i_ltr, i_eql, i_em1]
        refine Hm_ic (fun z => ?_) (fun z => Hm_ic (fun z2 => ?_) (fun z2 => Hm_ic (fun z3 => ?_) (fun z3 => ?_)))
        · exact Hm_some ⟨by rw [if_pos z], f1⟩
        · exact Hm_some ⟨by rw [if_neg z, if_pos z2], f1⟩
        · exact Hm_some ⟨by rw [if_neg z, if_neg z2, if_pos z3, and_eq hn z2], f1⟩
        · exact Hm_some ⟨by rw [if_neg z, if_neg z2, if_neg z3, ho64], f1⟩
      · have hY' := hY.th
        have hN' := hN.th h6
        simp only [e291, sp222, hw, cIn_s, b2_t, i10, ic_false, sp248 hY'.r hY'.n, lp0_eq, sh_pow hC]
        have h1p : 1 ≤ 2 ^ nC Y := Nat.one_le_two_pow
        have e1 : Int32.ofNat (2 ^ nC Y) - 1 = Int32.ofNat (2 ^ nC Y - 1) := i_sub h1p
        rw [e1]
        refine lp_for (d := d + 39) (x := 291) (pc := 33) (2 ^ nC Y) 1 0 (by omega) (fun i lv M' => lv = [some (vR 12 0 253), some (vI p), some (vI (Int32.ofNat (cntF Y N i))), some (vI (andF Y N (Int32.ofNat (2 ^ nC Y - 1)) i)), some (vI (orF Y N i)), some (vI (Int32.ofNat i))] ∧ Fr ScW M M') ?_ ?_ (2 ^ nC Y) 0 (by omega) 20000 _ _ (by omega) ⟨rfl, th0⟩
        · rintro i hi G lv M' - ⟨rfl, hf⟩ z
          have hY1 := hY.sc hf
          have hN1 := hN.sc h6 hf
          have ec : cntF Y N (i + 1) = if fit Y N i then cntF Y N i + 1 else cntF Y N i := rfl
          have ea : andF Y N (Int32.ofNat (2 ^ nC Y - 1)) (i + 1) = if fit Y N i then andF Y N (Int32.ofNat (2 ^ nC Y - 1)) i &&& Int32.ofNat i else andF Y N (Int32.ofNat (2 ^ nC Y - 1)) i := rfl
          have eo : orF Y N (i + 1) = if fit Y N i then orF Y N i ||| Int32.ofNat i else orF Y N i := rfl
          rw [ec, ea, eo] at z
          simp (disch := omega) only [e291_33, sp248 hY1.r hY1.n, i_nat, Nat.add_zero, Nat.not_lt_zero, i_neg, i_lt, i_le, i_eq, i_add, i_addl, i_addr, i_mulr, i_mull, i_subl, i_pred, i_ltl, i_ltr, i_eql, i_em1, cIn_s, cVd_s, cLo_s, ic_true, ic_false, ic_same, i10, eq_self, b2_0, b2_1, b2_and, b2_t, b2_f, ck', sh_pow hC, hi]
          refine Hm_cIv (sp292 hY1 hN1) (fun M2 f2 => ?_)
          have hf2 := hf.tr (W67 f2)
          simp only [b2_0]
          cases hfi : fit Y N i
          · simp only [ic_true]
            exact z _ _ _ (by omega) ⟨by simp [hfi], hf2⟩
          · simp only [Bool.true_eq_false, ic_false]
            exact z _ _ _ (by omega) ⟨by simp [hfi], hf2⟩
        · rintro G lv M' - ⟨rfl, hf⟩
          have hY1 := hY.sc hf
          simp (disch := omega) only [e291_33, sp248 hY1.r hY1.n, i_nat, Nat.add_zero, Nat.not_lt_zero, i_neg, i_lt, i_le, i_eq, i_add, i_addl, i_addr, i_mulr, i_mull, i_subl, i_pred, i_ltl, i_ltr, i_eql, i_em1, cIn_s, cVd_s, cLo_s, ic_true, ic_false, ic_same, i10, eq_self, b2_0, b2_1, b2_and, b2_t, b2_f, ck', sh_pow hC, Nat.lt_irrefl]
          refine Hm_ic (fun z => ?_) (fun z => Hm_ic (fun z2 => ?_) (fun z2 => Hm_ic (fun z3 => ?_) (fun z3 => ?_)))
          · exact Hm_some ⟨by rw [if_pos z], hf⟩
          · exact Hm_some ⟨by rw [if_neg z, if_pos z2], hf⟩
          · exact Hm_some ⟨by rw [if_neg z, if_neg z2, if_pos z3], hf⟩
          · exact Hm_some ⟨by rw [if_neg z, if_neg z2, if_neg z3], hf⟩
/-- how often each height comes, and the most -/
def alkS (Y N : YT) (a : Nat) (g : (Nat → Nat) × Nat) (k : Nat) : (Nat → Nat) × Nat := (un g.1 (ftB Y N a (Int32.ofNat k)) (g.1 (ftB Y N a (Int32.ofNat k)) + 1), max g.2 (g.1 (ftB Y N a (Int32.ofNat k)) + 1))
def galk (Y N : YT) (a n : Nat) : (Nat → Nat) × Nat := rf (fun g k => if fit Y N k then alkS Y N a g k else g) (fun _ => 0, 0) n
theorem alkS_bd {g : (Nat → Nat) × Nat} (h1 : ∀ v, g.1 v ≤ n) (h2 : g.2 ≤ n) : (∀ v, (alkS Y N a g k).1 v ≤ n + 1) ∧ (alkS Y N a g k).2 ≤ n + 1 := by
  unfold alkS
  refine ⟨fun v => ?_, ?_⟩
  · dsimp only; unfold un; split
    · have := h1 (ftB Y N a (Int32.ofNat k)); omega
    · have := h1 v; omega
  · have := h1 (ftB Y N a (Int32.ofNat k)); dsimp only; omega
theorem imaxN {i j : Nat} (hi : i < 100000) (hj : j < 100000) : imax (Int32.ofNat i) (Int32.ofNat j) = Int32.ofNat (max i j) := by
  rw [t_eq, t_max, i_toInt (by omega), i_toInt (by omega), i_toInt (by omega)]; omega
theorem sp186 (hY : IY Y M) (hN : IN Y t N M) (hF : For Y N (nA Y) M) (hG : FitM Y N 64 M) (ha : a < nA Y) : Hm (evD (d + 4) 186 [vR 0 0 100, vI (Int32.ofNat a)] M) (fun r M' => r = some (vI (Int32.ofNat (galk Y N a (2 ^ nC Y)).2)) ∧ Fr (fun c _ => c = 104) M M') := by
  have h6 := hY.n.A6
  have hle := fitA_le (Y := Y) (N := N) 64
  simp (disch := omega) only [e186, sp2, cVd_s, lp0_eq]
  refine lp_for (d := d + 3) (x := 186) (pc := 12) (fitA Y N 64).1 1 0 (by omega) (fun i lv M' => ∃ o, lv = [some (vR 0 0 100), some (vI (Int32.ofNat a)), some (vI (Int32.ofNat (rf (fun g i => alkS Y N a g ((fitA Y N 64).2 i)) (fun _ => 0, 0) i).2)), some (vI (Int32.ofNat i)), o] ∧ (∀ v, v < 21 → M'.1 104 v = Int32.ofNat ((rf (fun g i => alkS Y N a g ((fitA Y N 64).2 i)) (fun _ => 0, 0) i).1 v)) ∧ (∀ v, (rf (fun g i => alkS Y N a g ((fitA Y N 64).2 i)) (fun _ => 0, 0) i).1 v ≤ i) ∧ (rf (fun g i => alkS Y N a g ((fitA Y N 64).2 i)) (fun _ => 0, 0) i).2 ≤ i ∧ Fr (fun c _ => c = 104) M M') ?_ ?_ (fitA Y N 64).1 0 (by omega) 20000 _ _ (by omega) ⟨_, rfl, fun v hv => by rw [flI_eq hv]; rfl, fun v => Nat.le_refl _, Nat.le_refl _, Fr.rf.flI (fun j _ => rfl)⟩
  · rintro i hi G lv M' - ⟨o, rfl, hal, b1, b2', hf⟩ z
    have hF' : For Y N (nA Y) M' := fun e he => by rw [hf.i (by omega), hf.i (by omega)]; exact hF e he
    have s1 : M'.1 100 0 = Int32.ofNat (fitA Y N 64).1 := (hf.i (by omega)).trans hG.1
    have r1 : M'.1 101 i = Int32.ofNat ((fitA Y N 64).2 i) := (hf.i (by omega)).trans (hG.2 i hi)
    have eS : rf (fun g i => alkS Y N a g ((fitA Y N 64).2 i)) (fun _ => 0, 0) (i + 1) = alkS Y N a (rf (fun g i => alkS Y N a g ((fitA Y N 64).2 i)) (fun _ => 0, 0) i) ((fitA Y N 64).2 i) := rfl
    rw [eS] at z
    generalize rf (fun g i => alkS Y N a g ((fitA Y N 64).2 i)) (fun _ => 0, 0) i = g at *
    generalize (fitA Y N 64).2 i = kk at *
    have hv := (ftB_eq (set := Int32.ofNat kk) hY.n hN.i ha).2
    have hb := b1 (ftB Y N a (Int32.ofNat kk))
    have ha1 := hal (ftB Y N a (Int32.ofNat kk)) (by omega)
    have bd := alkS_bd (Y := Y) (N := N) (a := a) (k := kk) b1 b2'
    simp (disch := omega) only [e186_12, i_nat, Nat.add_zero, Nat.not_lt_zero, i_neg, i_lt, i_le, i_eq, i_add, i_addl, i_addr, i_mulr, i_mull, i_subl, i_pred, i_ltl, i_ltr, i_eql, i_em1, cIn_s, cVd_s, cLo_s, ic_true, ic_false, ic_same, i10, eq_self, b2_0, b2_1, b2_and, b2_t, b2_f, ck', s1, hi, r1, sp181 hY.n hN.i hF' ha, sI_eq, sI_eq', sI_ne, sJ_1, sR_1, ha1, sp21, imaxN]
    refine z _ _ _ (by omega) ⟨_, rfl, fun v hv2 => ?_, bd.1, bd.2, hf.sI rfl⟩
    unfold alkS un
    dsimp only
    by_cases y : v = ftB Y N a (Int32.ofNat kk)
    · subst y; rw [sI_eq, if_pos rfl]
    · rw [sI_ne (.inr y), if_neg y]; exact hal v hv2
  · rintro G lv M' - ⟨o, rfl, hal, b1, b2', hf⟩
    have s1 : M'.1 100 0 = Int32.ofNat (fitA Y N 64).1 := (hf.i (by omega)).trans hG.1
    simp (disch := omega) only [e186_12, i_nat, Nat.add_zero, Nat.not_lt_zero, i_neg, i_lt, i_le, i_eq, i_add, i_addl, i_addr, i_mulr, i_mull, i_subl, i_pred, i_ltl, i_ltr, i_eql, i_em1, cIn_s, cVd_s, cLo_s, ic_true, ic_false, ic_same, i10, eq_self, b2_0, b2_1, b2_and, b2_t, b2_f, ck', s1, Nat.lt_irrefl]
    refine Hm_some ⟨?_, hf⟩
    rw [fitA_fold (f := fun g k => alkS Y N a g k)]
    have := fit_64 (f := fun g k => alkS Y N a g k) (x0 := ((fun _ => 0, 0) : (Nat → Nat) × Nat)) (N := N) hY.n
    rw [this]; rfl
theorem sp296 (hY : IY Y M) (hN : IN Y t N M) (ha : a < nA Y) : Hm (evD (d + 10) 296 [vR 12 0 253, vI (Int32.ofNat a)] M) (fun r M' => r = some (vI (Int32.ofNat (galk Y N a (2 ^ nC Y)).2)) ∧ Fr ScW M M') := by
  have h6 := hY.n.A6
  have hC := hY.n.C6
  have h64 := pow64 hC
  rw [e296]; simp only [lp0_eq]
  refine lp_for (d := d + 9) (x := 296) (pc := 2) 21 1 200 (by omega) (fun i lv M' => ∃ o3 o4, lv = [some (vR 12 0 253), some (vI (Int32.ofNat a)), some (vI (Int32.ofNat i)), o3, o4] ∧ (∀ v, v < i → M'.1 277 v = 0) ∧ Fr ScW M M') ?_ ?_ 21 0 (by omega) 20000 _ M (by omega) ⟨_, _, rfl, fun v hv => by omega, Fr.rf⟩
  · rintro i hi G lv M' - ⟨o3, o4, rfl, h0, hf⟩ z
    simp (disch := omega) only [e296_2, i_nat, Nat.add_zero, Nat.not_lt_zero, i_neg, i_lt, i_le, i_eq, i_add, i_addl, i_addr, i_mulr, i_mull, i_subl, i_pred, i_ltl, i_ltr, i_eql, i_em1, cIn_s, cVd_s, cLo_s, ic_true, ic_false, ic_same, i10, eq_self, b2_0, b2_1, b2_and, b2_t, b2_f, ck', eq_false (show ¬ 20 < i by omega)]
    refine z _ _ _ (by omega) ⟨_, _, rfl, fun v hv => ?_, hf.sI (by unfold ScW; omega)⟩
    by_cases y : v = i
    · subst y; rw [sI_eq]
    · rw [sI_ne (.inr y)]; exact h0 v (by omega)
  · rintro G lv M' hG ⟨o3, o4, rfl, h0, hf⟩
    simp (disch := omega) only [e296_2, i_nat, Nat.add_zero, Nat.not_lt_zero, i_neg, i_lt, i_le, i_eq, i_add, i_addl, i_addr, i_mulr, i_mull, i_subl, i_pred, i_ltl, i_ltr, i_eql, i_em1, cIn_s, cVd_s, cLo_s, ic_true, ic_false, ic_same, i10, eq_self, b2_0, b2_1, b2_and, b2_t, b2_f, ck', eq_true (show 20 < 21 by omega)]
    refine lp_for (d := d + 9) (x := 296) (pc := 25) (2 ^ nC Y) 1 0 (by omega) (fun i lv M' => ∃ o, lv = [some (vR 12 0 253), some (vI (Int32.ofNat a)), some (vI (Int32.ofNat (galk Y N a i).2)), some (vI (Int32.ofNat i)), o] ∧ (∀ v, v < 21 → M'.1 277 v = Int32.ofNat ((galk Y N a i).1 v)) ∧ (∀ v, (galk Y N a i).1 v ≤ i) ∧ (galk Y N a i).2 ≤ i ∧ Fr ScW M M') ?_ ?_ (2 ^ nC Y) 0 (by omega) _ _ _ (by omega) ⟨_, rfl, fun v hv => h0 v hv, fun v => Nat.le_refl _, Nat.le_refl _, hf⟩
    · rintro i hi G2 lv M2 - ⟨o, rfl, hal, b1, b2', f2⟩ z
      have hY2 := hY.sc f2
      have hN2 := hN.sc h6 f2
      have eS : galk Y N a (i + 1) = if fit Y N i then alkS Y N a (galk Y N a i) i else galk Y N a i := rfl
      rw [eS] at z
      generalize galk Y N a i = g at *
      simp (disch := omega) only [e296_25, sp248 hY2.r hY2.n, i_nat, Nat.add_zero, Nat.not_lt_zero, i_neg, i_lt, i_le, i_eq, i_add, i_addl, i_addr, i_mulr, i_mull, i_subl, i_pred, i_ltl, i_ltr, i_eql, i_em1, cIn_s, cVd_s, cLo_s, ic_true, ic_false, ic_same, i10, eq_self, b2_0, b2_1, b2_and, b2_t, b2_f, ck', sh_pow hC, hi]
      refine Hm_cIv (sp292 hY2 hN2) (fun M3 f3 => ?_)
      have hf3 := f2.tr (W67 f3)
      have hY3 := hY.sc hf3
      have hN3 := hN.sc h6 hf3
      simp only [b2_0]
      cases hfi : fit Y N i
      · simp only [hfi, Bool.false_eq_true, if_false] at z
        simp only [ic_true]
        exact z _ _ _ (by omega) ⟨o, rfl, fun v hv => by rw [f3.i (by omega)]; exact hal v hv, fun v => Nat.le_succ_of_le (b1 v), Nat.le_succ_of_le b2', hf3⟩
      · simp only [hfi, if_true] at z
        simp only [Bool.true_eq_false, ic_false]
        refine Hm_cIv (sp294 hY3 hN3 ha) (fun M4 f4 => ?_)
        have hf4 := hf3.tr (W67 f4)
        have hv := (ftB_eq (set := Int32.ofNat i) hY.n hN.i ha).2
        have hb := b1 (ftB Y N a (Int32.ofNat i))
        have hal4 : ∀ v, v < 21 → M4.1 277 v = Int32.ofNat (g.1 v) := fun v hv => by rw [f4.i (by omega), f3.i (by omega)]; exact hal v hv
        have ha1 := hal4 (ftB Y N a (Int32.ofNat i)) (by omega)
        have bd := alkS_bd (Y := Y) (N := N) (a := a) (k := i) b1 b2'
        simp (disch := omega) only [i_nat, Nat.add_zero, Nat.not_lt_zero, i_neg, i_lt, i_le, i_eq, i_add, i_addl, i_addr, i_mulr, i_mull, i_subl, i_pred, i_ltl, i_ltr, i_eql, i_em1, cIn_s, cVd_s, cLo_s, ic_true, ic_false, ic_same, i10, eq_self, b2_0, b2_1, b2_and, b2_t, b2_f, ck', sI_eq, sI_eq', sI_ne, sJ_1, sR_1, ha1]
        have fin : ∀ v, v < 21 → (sI M4 277 (ftB Y N a (Int32.ofNat i)) (Int32.ofNat (g.1 (ftB Y N a (Int32.ofNat i)) + 1))).1 277 v = Int32.ofNat ((alkS Y N a g i).1 v) := fun v hv2 => by
          unfold alkS un
          dsimp only
          by_cases y : v = ftB Y N a (Int32.ofNat i)
          · subst y; rw [sI_eq, if_pos rfl]
          · rw [sI_ne (.inr y), if_neg y]; exact hal4 v hv2
        have em : (alkS Y N a g i).2 = max g.2 (g.1 (ftB Y N a (Int32.ofNat i)) + 1) := rfl
        refine Hm_ic (fun h => ?_) (fun h => ?_)
        · exact z _ _ _ (by omega) ⟨_, by rw [em, show max g.2 (g.1 (ftB Y N a (Int32.ofNat i)) + 1) = g.1 (ftB Y N a (Int32.ofNat i)) + 1 by omega], fin, bd.1, bd.2, hf4.sI (by unfold ScW; omega)⟩
        · exact z _ _ _ (by omega) ⟨_, by rw [em, show max g.2 (g.1 (ftB Y N a (Int32.ofNat i)) + 1) = g.2 by omega], fin, bd.1, bd.2, hf4.sI (by unfold ScW; omega)⟩
    · rintro G2 lv M2 - ⟨o, rfl, hal, b1, b2', f2⟩
      have hY2 := hY.sc f2
      simp (disch := omega) only [e296_25, sp248 hY2.r hY2.n, i_nat, Nat.add_zero, Nat.not_lt_zero, i_neg, i_lt, i_le, i_eq, i_add, i_addl, i_addr, i_mulr, i_mull, i_subl, i_pred, i_ltl, i_ltr, i_eql, i_em1, cIn_s, cVd_s, cLo_s, ic_true, ic_false, ic_same, i10, eq_self, b2_0, b2_1, b2_and, b2_t, b2_f, ck', sh_pow hC, Nat.lt_irrefl]
      exact Hm_some ⟨rfl, f2⟩
/-- which to look at -/
def lokS (Y N : YT) (g : Nat × Int32) (a : Nat) : Nat × Int32 := if up N a && decide (N 6 a = -1) then (if (galk Y N a (2 ^ nC Y)).2 < g.1 then ((galk Y N a (2 ^ nC Y)).2, Int32.ofNat a) else g) else g
def lok (Y N : YT) : Nat → Nat × Int32 := rf (lokS Y N) (cntF Y N (2 ^ nC Y), -1)
theorem galk_bd : ∀ n, (∀ v, (galk Y N a n).1 v ≤ n) ∧ (galk Y N a n).2 ≤ n
  | 0 => ⟨fun v => Nat.le_refl _, Nat.le_refl _⟩
  | n + 1 => by
    have ih := galk_bd n
    have eS : galk Y N a (n + 1) = if fit Y N n then alkS Y N a (galk Y N a n) n else galk Y N a n := rfl
    rw [eS]
    split
    · exact alkS_bd ih.1 ih.2
    · exact ⟨fun v => Nat.le_succ_of_le (ih.1 v), Nat.le_succ_of_le ih.2⟩
theorem lok_bd (hn : YN Y) : ∀ n, (lok Y N n).1 ≤ 64
  | 0 => by show cntF Y N (2 ^ nC Y) ≤ 64; have := cnt_le (Y := Y) (N := N) (2 ^ nC Y); have := pow64 hn.C6; omega
  | n + 1 => by
    have ih := lok_bd hn n
    have := (galk_bd (Y := Y) (N := N) (a := n) (2 ^ nC Y)).2
    have := pow64 hn.C6
    show (lokS Y N (lok Y N n) n).1 ≤ 64
    unfold lokS
    split
    · split
      · show (galk Y N n (2 ^ nC Y)).2 ≤ 64; omega
      · exact ih
    · exact ih
theorem ro_look (hn : YN Y) : RO 184 295 [vR 11 0 0] [vR 12 0 253] Y t N := by
  have h6 := hn.A6
  have hC := hn.C6
  have h64 := pow64 hC
  have hc64 : cntF Y N 64 = cntF Y N (2 ^ nC Y) := fit_64 (f := fun x _ => x + 1) hn
  have hcl := cnt_le (Y := Y) (N := N) (2 ^ nC Y)
  refine ⟨(lok Y N (nA Y)).2, fun d M hY hN => ?_, fun d M hY hN => ?_⟩
  · simp only [e184, e185]
    refine Hm_cIv (v := (lok Y N (nA Y)).2) (P := fun M' => Fr ScW M M') (Hm_cVv (sp178 hY hN) (fun M1 h1 => ?_)) (fun M1 h => Hm_some ⟨rfl, h⟩)
    obtain ⟨F1, G1, f1⟩ := h1
    have hs := G1.1
    rw [cnt_A, hc64] at hs
    simp only [hs, lp0_eq]
    refine lp_for (d := d + 38) (x := 185) (pc := 13) (nA Y) 1 0 (by omega) (fun i lv M' => ∃ o, lv = [some (vR 0 0 100), some (vI (Int32.ofNat (lok Y N i).1)), some (vI (lok Y N i).2), some (vI (Int32.ofNat i)), o] ∧ Fr (fun c _ => c = 104) M1 M') ?_ ?_ (nA Y) 0 (by omega) 20000 _ M1 (by omega) ⟨_, rfl, Fr.rf⟩
    · rintro i hi G lv M2 - ⟨o, rfl, f2⟩ z
      have f2' : Fr ScW M M2 := f1.tr (f2.up (fun c j h => by unfold ScW; omega))
      have hY2 := hY.sc f2'
      have hN2 := hN.sc h6 f2'
      have F2 : For Y N (nA Y) M2 := fun e he => by rw [f2.i (by omega), f2.i (by omega)]; exact F1 e he
      have G2 : FitM Y N 64 M2 := ⟨(f2.i (by omega)).trans G1.1, fun j hj => (f2.i (by omega)).trans (G1.2 j hj)⟩
      have bd := lok_bd (N := N) hn i
      have gb := (galk_bd (Y := Y) (N := N) (a := i) (2 ^ nC Y)).2
      have eS : lok Y N (i + 1) = lokS Y N (lok Y N i) i := rfl
      rw [eS] at z
      generalize lok Y N i = g at *
      simp (disch := omega) only [e185_13, i_nat, Nat.add_zero, Nat.not_lt_zero, i_neg, i_lt, i_le, i_eq, i_add, i_addl, i_addr, i_mulr, i_mull, i_subl, i_pred, i_ltl, i_ltr, i_eql, i_em1, cIn_s, cVd_s, cLo_s, ic_true, ic_false, ic_same, i10, eq_self, b2_0, b2_1, b2_and, b2_t, b2_f, ck', hY2.c, hY2.n.A, hi, sp97 hN2.c, hN2.c.n]
      cases hu : up N i
      · simp only [ic_true]
        exact z _ _ _ (by omega) ⟨o, by simp [lokS, hu], f2⟩
      · simp only [Bool.true_eq_false, ic_false]
        refine Hm_ic (fun h => ?_) (fun h => ?_)
        · refine Hm_cIv (sp186 hY2 hN2 F2 G2 hi) (fun M3 f3 => ?_)
          simp (disch := omega) only [i_nat, Nat.add_zero, Nat.not_lt_zero, i_neg, i_lt, i_le, i_eq, i_add, i_addl, i_addr, i_mulr, i_mull, i_subl, i_pred, i_ltl, i_ltr, i_eql, i_em1]
          refine Hm_ic (fun h2 => ?_) (fun h2 => ?_)
          · exact z _ _ _ (by omega) ⟨_, by simp only [lokS, hu, h, decide_true, Bool.and_self, if_true, h2]; rfl, f2.tr f3⟩
          · exact z _ _ _ (by omega) ⟨_, by simp only [lokS, hu, h, decide_true, Bool.and_self, if_true, h2, if_false]; rfl, f2.tr f3⟩
        · exact z _ _ _ (by omega) ⟨o, by simp [lokS, hu, h], f2⟩
    · rintro G lv M2 - ⟨o, rfl, f2⟩
      have f2' : Fr ScW M M2 := f1.tr (f2.up (fun c j h => by unfold ScW; omega))
      have hY2 := hY.sc f2'
      simp (disch := omega) only [e185_13, i_nat, Nat.add_zero, Nat.not_lt_zero, i_neg, i_lt, i_le, i_eq, i_add, i_addl, i_addr, i_mulr, i_mull, i_subl, i_pred, i_ltl, i_ltr, i_eql, i_em1, cIn_s, cVd_s, cLo_s, ic_true, ic_false, ic_same, i10, eq_self, b2_0, b2_1, b2_and, b2_t, b2_f, ck', hY2.c, hY2.n.A, Nat.lt_irrefl]
      exact Hm_some ⟨rfl, f2'⟩
  · simp only [e295, lp0_eq]
    refine lp_for (d := d + 39) (x := 295) (pc := 9) (2 ^ nC Y) 1 100 (by omega) (fun i lv M' => ∃ o3 o4, lv = [some (vR 12 0 253), some (vI (Int32.ofNat (cntF Y N i))), some (vI (Int32.ofNat i)), o3, o4] ∧ Fr ScW M M') ?_ ?_ (2 ^ nC Y) 0 (by omega) 20000 _ _ (by omega) ⟨_, _, rfl, th0⟩
    · rintro i hi G lv M2 - ⟨o3, o4, rfl, f2⟩ z
      have hY2 := hY.sc f2
      have hN2 := hN.sc h6 f2
      have ec : cntF Y N (i + 1) = if fit Y N i then cntF Y N i + 1 else cntF Y N i := rfl
      rw [ec] at z
      simp (disch := omega) only [e295_9, sp248 hY2.r hY2.n, i_nat, Nat.add_zero, Nat.not_lt_zero, i_neg, i_lt, i_le, i_eq, i_add, i_addl, i_addr, i_mulr, i_mull, i_subl, i_pred, i_ltl, i_ltr, i_eql, i_em1, cIn_s, cVd_s, cLo_s, ic_true, ic_false, ic_same, i10, eq_self, b2_0, b2_1, b2_and, b2_t, b2_f, ck', sh_pow hC, hi]
      refine Hm_cIv (sp292 hY2 hN2) (fun M3 f3 => ?_)
      simp only [b2_0, Int32.add_zero]
      cases hfi : fit Y N i
      · simp only [ic_true]
        exact z _ _ _ (by omega) ⟨_, _, by simp [hfi]; exact ⟨rfl, rfl⟩, f2.tr (W67 f3)⟩
      · simp only [Bool.true_eq_false, ic_false]
        exact z _ _ _ (by omega) ⟨_, _, by simp [hfi]; exact ⟨rfl, rfl⟩, f2.tr (W67 f3)⟩
    · rintro G lv M2 hG ⟨o3, o4, rfl, f2⟩
      have hY2 := hY.sc f2
      simp (disch := omega) only [e295_9, sp248 hY2.r hY2.n, i_nat, Nat.add_zero, Nat.not_lt_zero, i_neg, i_lt, i_le, i_eq, i_add, i_addl, i_addr, i_mulr, i_mull, i_subl, i_pred, i_ltl, i_ltr, i_eql, i_em1, cIn_s, cVd_s, cLo_s, ic_true, ic_false, ic_same, i10, eq_self, b2_0, b2_1, b2_and, b2_t, b2_f, ck', sh_pow hC, Nat.lt_irrefl]
      refine lp_for (d := d + 39) (x := 295) (pc := 45) (nA Y) 1 0 (by omega) (fun i lv M' => ∃ o, lv = [some (vR 12 0 253), some (vI (Int32.ofNat (lok Y N i).1)), some (vI (lok Y N i).2), some (vI (Int32.ofNat i)), o] ∧ Fr ScW M M') ?_ ?_ (nA Y) 0 (by omega) _ _ M2 (by omega) ⟨_, rfl, f2⟩
      · rintro i hi G lv M3 - ⟨o, rfl, f3⟩ z
        have hY3 := hY.sc f3
        have hN3 := hN.sc h6 f3
        have bd := lok_bd (N := N) hn i
        have gb := (galk_bd (Y := Y) (N := N) (a := i) (2 ^ nC Y)).2
        have eS : lok Y N (i + 1) = lokS Y N (lok Y N i) i := rfl
        rw [eS] at z
        generalize lok Y N i = g at *
        have kt := (hN3.r.n.2.1 i hi).2.2.2.2
        have hT := (hN.i.a hi).2.2.2.2.2.2
        simp (disch := omega) only [e295_45, i_nat, Nat.add_zero, Nat.not_lt_zero, i_neg, i_lt, i_le, i_eq, i_add, i_addl, i_addr, i_mulr, i_mull, i_subl, i_pred, i_ltl, i_ltr, i_eql, i_em1, cIn_s, cVd_s, cLo_s, ic_true, ic_false, ic_same, i10, eq_self, b2_0, b2_1, b2_and, b2_t, b2_f, ck', sp197 hY3.r hY3.n, hi, sp238 (B := 0) (b := 0) rfl hY3.r hY3.n hN3.r hN3.i (show 0 ≤ 1078 by omega) hi, kt, Nat.lt_irrefl]
        cases hu : up N i
        · simp only [ic_true]
          exact z _ _ _ (by omega) ⟨_, by simp [lokS, hu]; rfl, f3⟩
        · simp only [Bool.true_eq_false, ic_false]
          refine Hm_ic (fun h => ?_) (fun h => ?_)
          · have e6 : N 6 i = -1 := by
              rcases hT with q | q
              · exact q
              · unfold rg at q; rw [t_lt, t_0] at h; omega
            refine Hm_cIv (sp296 hY3 hN3 hi) (fun M4 f4 => ?_)
            simp (disch := omega) only [i_nat, Nat.add_zero, Nat.not_lt_zero, i_neg, i_lt, i_le, i_eq, i_add, i_addl, i_addr, i_mulr, i_mull, i_subl, i_pred, i_ltl, i_ltr, i_eql, i_em1]
            by_cases h2 : (galk Y N i (2 ^ nC Y)).2 < g.1
            · simp only [h2, ic_true]
              exact z _ _ _ (by omega) ⟨_, by simp only [lokS, hu, e6, decide_true, Bool.and_self, if_true, h2]; rfl, f3.tr f4⟩
            · simp only [h2, ic_false]
              exact z _ _ _ (by omega) ⟨_, by simp only [lokS, hu, e6, decide_true, Bool.and_self, if_true, h2, if_false]; rfl, f3.tr f4⟩
          · have e6 : ¬ N 6 i = -1 := fun q => by rw [q] at h; exact h (by decide)
            exact z _ _ _ (by omega) ⟨_, by simp [lokS, hu, e6]; rfl, f3⟩
      · rintro G lv M3 - ⟨o, rfl, f3⟩
        have hY3 := hY.sc f3
        simp (disch := omega) only [e295_45, i_nat, Nat.add_zero, Nat.not_lt_zero, i_neg, i_lt, i_le, i_eq, i_add, i_addl, i_addr, i_mulr, i_mull, i_subl, i_pred, i_ltl, i_ltr, i_eql, i_em1, cIn_s, cVd_s, cLo_s, ic_true, ic_false, ic_same, i10, eq_self, b2_0, b2_1, b2_and, b2_t, b2_f, ck', sp197 hY3.r hY3.n, Nat.lt_irrefl]
        exact Hm_some ⟨rfl, f3⟩
end RO11
