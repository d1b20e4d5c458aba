/-! BY HAND: begin, carve, prop, torch, night, undo, mark, tell, count -/
section HAND
variable {t : Nat} {p q : Int32} {M M' : Mem}
theorem nopC {q : PP} {R : Res} {v : Int32} (e : R = some (some (vI v), M)) (h : CIt q M) : Hm R (fun r M' => r = some (vI v) ∧ CIt q M' ∧ Fr ClW M M') := Hm_eq e ⟨rfl, h, Fr.rf⟩
theorem nopR {q : PP} {R : Res} {v : Int32} (hN : YN q.1) (e : R = some (some (vI v), sI M 253 0 0)) (h : RIt q M) : Hm R (fun r M' => r = some (vI v) ∧ RIt q M' ∧ Fr ReW M M') := Hm_eq e ⟨rfl, RI.th h hN, Fr.rf.sI (by unfold ReW; omega)⟩
theorem nf {b : Bool} (h : ¬ b = true) : b = false := by cases b <;> simp_all
section
variable {Y N N' : YT} {u L Tn : Nat} {P K : Nat → YT} {mk : Int32} {ln : Nat → Nat → Int32} {tp : Nat → Int32} {nm : Nat → Nat → List Nat} {t' : Nat}
theorem PI.keep (h : PI t Y N u P mk K L ln Tn tp nm) (hS : SI Y t' N') (ht : t ≤ t') (ht' : t' < 10000) : PI t' Y N' (kU u) (kP N u P) mk K L ln Tn tp nm := by
  have h' := h.le ht ht'
  exact ⟨h.1, ⟨hS, ht'⟩, ⟨kU_le, fun i hi => (kP_SI h.2.2.1.1 h.2.1.1 h.2.2.1.2 i hi).le ht⟩, h'.2.2.2⟩
end
theorem two_begin : Two t t 116 253 [vR 11 0 0, vI p, vI q] [vR 12 0 253, vI p, vI q] := by
  refine Two_st ?_; rintro ⟨Y, N, u, P, mk, K, L, ln, Tn, tp, nm⟩ hp
  have hp : PI t Y N u P mk K L ln Tn tp nm := hp
  have hN := hp.1.1
  have hI := hp.2.1.1
  have h6 := hN.A6
  have h6' := hN.B6
  have hu := hp.2.2.1.1
  have hL := hp.2.2.2.2.1.1
  by_cases h1 : isIn p (nA Y) = true
  · obtain ⟨a, ha, rfl⟩ := isIn_ex (show nA Y < 2147483648 by omega) h1
    by_cases h2 : isIn q (nB Y) = true
    · obtain ⟨s, hs, rfl⟩ := isIn_ex (show nB Y < 2147483648 by omega) h2
      by_cases h3 : mayB Y N a (Int32.ofNat s) = true
      · have hg : bt (N 0 7) a = false := by unfold mayB at h3; revert h3; cases bt (N 0 7) a <;> simp
        refine ⟨1, (Y, begS N a (Int32.ofNat s), kU u, kP N u P, mk, K, L, ln, Tn, tp, nm), hp.keep (SI_beg hI hN ha hs hg) (Nat.le_refl t) hp.2.1.2, fun d M hc => ?_, fun d M hr => ?_⟩
        · have hc : CI Y N u P mk K L ln Tn tp nm M := hc
          simp (disch := omega) only [e116, sp94 hc.1 hN, sp117 hc.1 hN, sp118 hc.1 hN hc.2.1 (show a < 32 by omega), h1, h2, h3, i_nat, Nat.add_zero, Nat.not_lt_zero, i_neg, i_lt, i_le, i_eq, i_add, i_addl, i_addr, i_mulr, i_mull, i_subl, i_pred, i_ltl, i_ltr, i_eql, i_em1, cIn_s, cVd_s, cLo_s, ic_true, ic_false, ic_same, i10, eq_self, b2_0, b2_1, b2_and, b2_t, b2_f, ck']
          refine Hm_cVv (sp120 hu hc.2.2.1 hc.2.1) (fun M1 h => ?_)
          have c1 := hc.keep hL h.1 h.2
          refine Hm_cVv (sp122 c1.2.1 (show a < 6 by omega)) (fun M2 h2 => ?_)
          exact Hm_some ⟨rfl, c1.now kU_le h2.1 (h2.2.up (fun c j h => by omega)), (h.2.up (fun c j h => by unfold ClW; omega)).tr (h2.2.up (fun c j h => by unfold ClW; omega))⟩
        · have hr : RI Y N u P mk K L ln Tn tp nm M := hr
          have hr1 := hr.th hN
          simp (disch := omega) only [e253, sp237 hr1.1 hN, sp254 hr1.1 hN, sp256 (B := 0) (b := 0) rfl hr1.1 hN hr1.2.1 hI (by omega) ha (show s < 1000 by omega), h1, h2, h3, i_nat, Nat.add_zero, Nat.not_lt_zero, i_neg, i_lt, i_le, i_eq, i_add, i_addl, i_addr, i_mulr, i_mull, i_subl, i_pred, i_ltl, i_ltr, i_eql, i_em1, cIn_s, cVd_s, cLo_s, ic_true, ic_false, ic_same, i10, eq_self, b2_0, b2_1, b2_and, b2_t, b2_f, ck']
          refine Hm_cVv (sp258 hN hu hr1.2.2.1 hr1.2.1) (fun M1 h => ?_)
          have c1 := hr1.keep hN hL h.1 h.2
          refine Hm_cVv (sp260 (B := 0) (b := 0) rfl hN c1.2.1 hI (by omega) ha hg) (fun M2 h2 => ?_)
          exact Hm_some ⟨rfl, c1.now hN h2.1 (h2.2.up (fun c j h => by omega)), ((Fr.rf.sI (by unfold ReW; omega)).tr (h.2.up (fun c j h => by unfold ReW; omega))).tr (h2.2.up (fun c j h => by unfold ReW; omega))⟩
      · refine ⟨0, (Y, N, u, P, mk, K, L, ln, Tn, tp, nm), hp, fun d M hc => nopC ?_ hc, fun d M hr => nopR hN ?_ hr⟩
        · have hc : CI Y N u P mk K L ln Tn tp nm M := hc
          simp (disch := omega) only [e116, sp94 hc.1 hN, sp117 hc.1 hN, sp118 hc.1 hN hc.2.1 (show a < 32 by omega), h1, h2, nf h3, i_nat, Nat.add_zero, Nat.not_lt_zero, i_neg, i_lt, i_le, i_eq, i_add, i_addl, i_addr, i_mulr, i_mull, i_subl, i_pred, i_ltl, i_ltr, i_eql, i_em1, cIn_s, cVd_s, cLo_s, ic_true, ic_false, ic_same, i10, eq_self, b2_0, b2_1, b2_and, b2_t, b2_f, ck']
        · have hr1 := RI.th hr hN
          simp (disch := omega) only [e253, sp237 hr1.1 hN, sp254 hr1.1 hN, sp256 (B := 0) (b := 0) rfl hr1.1 hN hr1.2.1 hI (by omega) ha (show s < 1000 by omega), h1, h2, nf h3, i_nat, Nat.add_zero, Nat.not_lt_zero, i_neg, i_lt, i_le, i_eq, i_add, i_addl, i_addr, i_mulr, i_mull, i_subl, i_pred, i_ltl, i_ltr, i_eql, i_em1, cIn_s, cVd_s, cLo_s, ic_true, ic_false, ic_same, i10, eq_self, b2_0, b2_1, b2_and, b2_t, b2_f, ck']
    · refine ⟨0, (Y, N, u, P, mk, K, L, ln, Tn, tp, nm), hp, fun d M hc => nopC ?_ hc, fun d M hr => nopR hN ?_ hr⟩
      · have hc : CI Y N u P mk K L ln Tn tp nm M := hc
        simp (disch := omega) only [e116, sp94 hc.1 hN, sp117 hc.1 hN, h1, nf h2, i_nat, Nat.add_zero, Nat.not_lt_zero, i_neg, i_lt, i_le, i_eq, i_add, i_addl, i_addr, i_mulr, i_mull, i_subl, i_pred, i_ltl, i_ltr, i_eql, i_em1, cIn_s, cVd_s, cLo_s, ic_true, ic_false, ic_same, i10, eq_self, b2_0, b2_1, b2_and, b2_t, b2_f, ck']
      · have hr1 := RI.th hr hN
        simp (disch := omega) only [e253, sp237 hr1.1 hN, sp254 hr1.1 hN, h1, nf h2, i_nat, Nat.add_zero, Nat.not_lt_zero, i_neg, i_lt, i_le, i_eq, i_add, i_addl, i_addr, i_mulr, i_mull, i_subl, i_pred, i_ltl, i_ltr, i_eql, i_em1, cIn_s, cVd_s, cLo_s, ic_true, ic_false, ic_same, i10, eq_self, b2_0, b2_1, b2_and, b2_t, b2_f, ck']
  · refine ⟨0, (Y, N, u, P, mk, K, L, ln, Tn, tp, nm), hp, fun d M hc => nopC ?_ hc, fun d M hr => nopR hN ?_ hr⟩
    · have hc : CI Y N u P mk K L ln Tn tp nm M := hc
      simp (disch := omega) only [e116, sp94 hc.1 hN, nf h1, i_nat, Nat.add_zero, Nat.not_lt_zero, i_neg, i_lt, i_le, i_eq, i_add, i_addl, i_addr, i_mulr, i_mull, i_subl, i_pred, i_ltl, i_ltr, i_eql, i_em1, cIn_s, cVd_s, cLo_s, ic_true, ic_false, ic_same, i10, eq_self, b2_0, b2_1, b2_and, b2_t, b2_f, ck']
    · have hr1 := RI.th hr hN
      simp (disch := omega) only [e253, sp237 hr1.1 hN, nf h1, i_nat, Nat.add_zero, Nat.not_lt_zero, i_neg, i_lt, i_le, i_eq, i_add, i_addl, i_addr, i_mulr, i_mull, i_subl, i_pred, i_ltl, i_ltr, i_eql, i_em1, cIn_s, cVd_s, cLo_s, ic_true, ic_false, ic_same, i10, eq_self, b2_0, b2_1, b2_and, b2_t, b2_f, ck']
theorem two_carve : Two t t 123 261 [vR 11 0 0, vI p, vI q] [vR 12 0 253, vI p, vI q] := by
  refine Two_st ?_; rintro ⟨Y, N, u, P, mk, K, L, ln, Tn, tp, nm⟩ hp
  have hp : PI t Y N u P mk K L ln Tn tp nm := hp
  have hN := hp.1.1
  have hI := hp.2.1.1
  have h6 := hN.A6
  have h6' := hN.C6
  have hu := hp.2.2.1.1
  have hL := hp.2.2.2.2.1.1
  by_cases h1 : isIn p (nC Y) = true
  · obtain ⟨s, hs, rfl⟩ := isIn_ex (show nC Y < 2147483648 by omega) h1
    by_cases h2 : isIn q (nA Y) = true
    · obtain ⟨a, ha, rfl⟩ := isIn_ex (show nA Y < 2147483648 by omega) h2
      by_cases h3 : mayC Y N s a = true
      · refine ⟨chp Y s (N 1 a) (N 2 a), (Y, carS Y N s a, kU u, kP N u P, mk, K, L, ln, Tn, tp, nm), hp.keep (SI_car hI hN ha hs) (Nat.le_refl t) hp.2.1.2, fun d M hc => ?_, fun d M hr => ?_⟩
        · have hc : CI Y N u P mk K L ln Tn tp nm M := hc
          simp (disch := omega) only [e123, sp94 hc.1 hN, sp108 hc.1 hN, sp124 hc.1 hc.2.1 (show s < 6 by omega) (show a < 6 by omega), h1, h2, h3, i_nat, Nat.add_zero, Nat.not_lt_zero, i_neg, i_lt, i_le, i_eq, i_add, i_addl, i_addr, i_mulr, i_mull, i_subl, i_pred, i_ltl, i_ltr, i_eql, i_em1, cIn_s, cVd_s, cLo_s, ic_true, ic_false, ic_same, i10, eq_self, b2_0, b2_1, b2_and, b2_t, b2_f, ck']
          refine Hm_cVv (sp120 hu hc.2.2.1 hc.2.1) (fun M1 h => ?_)
          have c1 := hc.keep hL h.1 h.2
          refine Hm_cVv (sp125 c1.1 hp.1.2.1 c1.2.1 (by omega) (show s < 6 by omega) (show a < 6 by omega)) (fun M2 h2 => ?_)
          have e2 : M2.1 62 a = chp Y s (N 1 a) (N 2 a) := by
            have := (h2.1.n.2 a (by omega)).2.1
            rw [this]; unfold carS; rw [us_ne (by omega), us_eq]
          refine Hm_some ⟨by rw [e2], c1.now kU_le h2.1 (h2.2.up (fun c j h => by omega)), (h.2.up (fun c j h => by unfold ClW; omega)).tr (h2.2.up (fun c j h => by unfold ClW; omega))⟩
        · have hr : RI Y N u P mk K L ln Tn tp nm M := hr
          have hr1 := hr.th hN
          simp (disch := omega) only [e261, sp237 hr1.1 hN, sp247 hr1.1 hN, sp262 (B := 0) (b := 0) rfl hr1.1 hN hr1.2.1 hI (by omega) (show s < 6 by omega) ha, h1, h2, h3, i_nat, Nat.add_zero, Nat.not_lt_zero, i_neg, i_lt, i_le, i_eq, i_add, i_addl, i_addr, i_mulr, i_mull, i_subl, i_pred, i_ltl, i_ltr, i_eql, i_em1, cIn_s, cVd_s, cLo_s, ic_true, ic_false, ic_same, i10, eq_self, b2_0, b2_1, b2_and, b2_t, b2_f, ck']
          refine Hm_cVv (sp258 hN hu hr1.2.2.1 hr1.2.1) (fun M1 h => ?_)
          have c1 := hr1.keep hN hL h.1 h.2
          refine Hm_cIv (sp263 (B := 0) (b := 0) rfl c1.1 hN hp.1.2.1 c1.2.1 (by omega) hs ha) (fun M2 h2 => ?_)
          exact Hm_some ⟨rfl, c1.now hN h2.1 (h2.2.up (fun c j h => by omega)), ((Fr.rf.sI (by unfold ReW; omega)).tr (h.2.up (fun c j h => by unfold ReW; omega))).tr (h2.2.up (fun c j h => by unfold ReW; omega))⟩
      · refine ⟨-1, (Y, N, u, P, mk, K, L, ln, Tn, tp, nm), hp, fun d M hc => nopC ?_ hc, fun d M hr => nopR hN ?_ hr⟩
        · have hc : CI Y N u P mk K L ln Tn tp nm M := hc
          simp (disch := omega) only [e123, sp94 hc.1 hN, sp108 hc.1 hN, sp124 hc.1 hc.2.1 (show s < 6 by omega) (show a < 6 by omega), h1, h2, nf h3, i_nat, Nat.add_zero, Nat.not_lt_zero, i_neg, i_lt, i_le, i_eq, i_add, i_addl, i_addr, i_mulr, i_mull, i_subl, i_pred, i_ltl, i_ltr, i_eql, i_em1, cIn_s, cVd_s, cLo_s, ic_true, ic_false, ic_same, i10, eq_self, b2_0, b2_1, b2_and, b2_t, b2_f, ck']
        · have hr1 := RI.th hr hN
          simp (disch := omega) only [e261, sp237 hr1.1 hN, sp247 hr1.1 hN, sp262 (B := 0) (b := 0) rfl hr1.1 hN hr1.2.1 hI (by omega) (show s < 6 by omega) ha, h1, h2, nf h3, i_nat, Nat.add_zero, Nat.not_lt_zero, i_neg, i_lt, i_le, i_eq, i_add, i_addl, i_addr, i_mulr, i_mull, i_subl, i_pred, i_ltl, i_ltr, i_eql, i_em1, cIn_s, cVd_s, cLo_s, ic_true, ic_false, ic_same, i10, eq_self, b2_0, b2_1, b2_and, b2_t, b2_f, ck']
    · refine ⟨-1, (Y, N, u, P, mk, K, L, ln, Tn, tp, nm), hp, fun d M hc => nopC ?_ hc, fun d M hr => nopR hN ?_ hr⟩
      · have hc : CI Y N u P mk K L ln Tn tp nm M := hc
        simp (disch := omega) only [e123, sp94 hc.1 hN, sp108 hc.1 hN, h1, nf h2, i_nat, Nat.add_zero, Nat.not_lt_zero, i_neg, i_lt, i_le, i_eq, i_add, i_addl, i_addr, i_mulr, i_mull, i_subl, i_pred, i_ltl, i_ltr, i_eql, i_em1, cIn_s, cVd_s, cLo_s, ic_true, ic_false, ic_same, i10, eq_self, b2_0, b2_1, b2_and, b2_t, b2_f, ck']
      · have hr1 := RI.th hr hN
        simp (disch := omega) only [e261, sp237 hr1.1 hN, sp247 hr1.1 hN, h1, nf h2, i_nat, Nat.add_zero, Nat.not_lt_zero, i_neg, i_lt, i_le, i_eq, i_add, i_addl, i_addr, i_mulr, i_mull, i_subl, i_pred, i_ltl, i_ltr, i_eql, i_em1, cIn_s, cVd_s, cLo_s, ic_true, ic_false, ic_same, i10, eq_self, b2_0, b2_1, b2_and, b2_t, b2_f, ck']
  · refine ⟨-1, (Y, N, u, P, mk, K, L, ln, Tn, tp, nm), hp, fun d M hc => nopC ?_ hc, fun d M hr => nopR hN ?_ hr⟩
    · have hc : CI Y N u P mk K L ln Tn tp nm M := hc
      simp (disch := omega) only [e123, sp108 hc.1 hN, nf h1, i_nat, Nat.add_zero, Nat.not_lt_zero, i_neg, i_lt, i_le, i_eq, i_add, i_addl, i_addr, i_mulr, i_mull, i_subl, i_pred, i_ltl, i_ltr, i_eql, i_em1, cIn_s, cVd_s, cLo_s, ic_true, ic_false, ic_same, i10, eq_self, b2_0, b2_1, b2_and, b2_t, b2_f, ck']
    · have hr1 := RI.th hr hN
      simp (disch := omega) only [e261, sp247 hr1.1 hN, nf h1, i_nat, Nat.add_zero, Nat.not_lt_zero, i_neg, i_lt, i_le, i_eq, i_add, i_addl, i_addr, i_mulr, i_mull, i_subl, i_pred, i_ltl, i_ltr, i_eql, i_em1, cIn_s, cVd_s, cLo_s, ic_true, ic_false, ic_same, i10, eq_self, b2_0, b2_1, b2_and, b2_t, b2_f, ck']
theorem two_prop : Two t t 127 264 [vR 11 0 0, vI p] [vR 12 0 253, vI p] := by
  refine Two_st ?_; rintro ⟨Y, N, u, P, mk, K, L, ln, Tn, tp, nm⟩ hp
  have hp : PI t Y N u P mk K L ln Tn tp nm := hp
  have hN := hp.1.1
  have hI := hp.2.1.1
  have h6 := hN.A6
  have hu := hp.2.2.1.1
  have hL := hp.2.2.2.2.1.1
  by_cases h1 : isIn p (nA Y) = true
  · obtain ⟨a, ha, rfl⟩ := isIn_ex (show nA Y < 2147483648 by omega) h1
    by_cases h3 : mayP N a = true
    · have hg : N 3 a < 3 := by unfold mayP at h3; simp at h3; exact h3.2
      refine ⟨N 3 a + 1, (Y, us N 3 a (N 3 a + 1), kU u, kP N u P, mk, K, L, ln, Tn, tp, nm), hp.keep (SI_prp hI ha hg) (Nat.le_refl t) hp.2.1.2, fun d M hc => ?_, fun d M hr => ?_⟩
      · have hc : CI Y N u P mk K L ln Tn tp nm M := hc
        simp (disch := omega) only [e127, sp94 hc.1 hN, sp128 hc.2.1 (show a < 6 by omega), h1, h3, i_nat, Nat.add_zero, Nat.not_lt_zero, i_neg, i_lt, i_le, i_eq, i_add, i_addl, i_addr, i_mulr, i_mull, i_subl, i_pred, i_ltl, i_ltr, i_eql, i_em1, cIn_s, cVd_s, cLo_s, ic_true, ic_false, ic_same, i10, eq_self, b2_0, b2_1, b2_and, b2_t, b2_f, ck']
        refine Hm_cVv (sp120 hu hc.2.2.1 hc.2.1) (fun M1 h => ?_)
        have c1 := hc.keep hL h.1 h.2
        have e3 : M1.1 63 a = N 3 a := (c1.2.1.n.2 a (by omega)).2.2.1
        simp only [sI_eq, e3]
        exact Hm_some ⟨rfl, c1.now kU_le (c1.2.1.s1 3 a _ (by omega)) (Fr.rf.sI (by omega)), (h.2.up (fun c j h => by unfold ClW; omega)).sI (by unfold ClW; omega)⟩
      · have hr : RI Y N u P mk K L ln Tn tp nm M := hr
        have hr1 := hr.th hN
        simp (disch := omega) only [e264, sp265 (B := 0) (b := 0) rfl hr1.1 hN hr1.2.1 hI (by omega) ha, h1, h3, i_nat, Nat.add_zero, Nat.not_lt_zero, i_neg, i_lt, i_le, i_eq, i_add, i_addl, i_addr, i_mulr, i_mull, i_subl, i_pred, i_ltl, i_ltr, i_eql, i_em1, cIn_s, cVd_s, cLo_s, ic_true, ic_false, ic_same, i10, eq_self, b2_0, b2_1, b2_and, b2_t, b2_f, ck']
        refine Hm_cVv (sp258 hN hu hr1.2.2.1 hr1.2.1) (fun M1 h => ?_)
        have c1 := hr1.keep hN hL h.1 h.2
        have e3 : M1.1 269 (25 + a) = N 3 a := (c1.2.1.n.2.1 a ha).2.2.2.1
        simp only [sI_eq, e3]
        have z := SR_prp (v := N 3 a + 1) hN c1.2.1 ha
        rw [Nat.zero_add] at z
        exact Hm_some ⟨rfl, c1.now hN z (Fr.rf.sI (by omega)), ((Fr.rf.sI (by unfold ReW; omega)).tr (h.2.up (fun c j h => by unfold ReW; omega))).sI (by unfold ReW; omega)⟩
    · refine ⟨-1, (Y, N, u, P, mk, K, L, ln, Tn, tp, nm), hp, fun d M hc => nopC ?_ hc, fun d M hr => nopR hN ?_ hr⟩
      · have hc : CI Y N u P mk K L ln Tn tp nm M := hc
        simp (disch := omega) only [e127, sp94 hc.1 hN, sp128 hc.2.1 (show a < 6 by omega), h1, nf h3, i_nat, Nat.add_zero, Nat.not_lt_zero, i_neg, i_lt, i_le, i_eq, i_add, i_addl, i_addr, i_mulr, i_mull, i_subl, i_pred, i_ltl, i_ltr, i_eql, i_em1, cIn_s, cVd_s, cLo_s, ic_true, ic_false, ic_same, i10, eq_self, b2_0, b2_1, b2_and, b2_t, b2_f, ck']
      · have hr1 := RI.th hr hN
        simp (disch := omega) only [e264, sp265 (B := 0) (b := 0) rfl hr1.1 hN hr1.2.1 hI (by omega) ha, h1, nf h3, i_nat, Nat.add_zero, Nat.not_lt_zero, i_neg, i_lt, i_le, i_eq, i_add, i_addl, i_addr, i_mulr, i_mull, i_subl, i_pred, i_ltl, i_ltr, i_eql, i_em1, cIn_s, cVd_s, cLo_s, ic_true, ic_false, ic_same, i10, eq_self, b2_0, b2_1, b2_and, b2_t, b2_f, ck']
  · refine ⟨-1, (Y, N, u, P, mk, K, L, ln, Tn, tp, nm), hp, fun d M hc => nopC ?_ hc, fun d M hr => nopR hN ?_ hr⟩
    · have hc : CI Y N u P mk K L ln Tn tp nm M := hc
      simp (disch := omega) only [e127, sp94 hc.1 hN, nf h1, i_nat, Nat.add_zero, Nat.not_lt_zero, i_neg, i_lt, i_le, i_eq, i_add, i_addl, i_addr, i_mulr, i_mull, i_subl, i_pred, i_ltl, i_ltr, i_eql, i_em1, cIn_s, cVd_s, cLo_s, ic_true, ic_false, ic_same, i10, eq_self, b2_0, b2_1, b2_and, b2_t, b2_f, ck']
    · have hr1 := RI.th hr hN
      simp (disch := omega) only [e264, e265, sp238n hr1.1 hN (nf h1), i_nat, Nat.add_zero, Nat.not_lt_zero, i_neg, i_lt, i_le, i_eq, i_add, i_addl, i_addr, i_mulr, i_mull, i_subl, i_pred, i_ltl, i_ltr, i_eql, i_em1, cIn_s, cVd_s, cLo_s, ic_true, ic_false, ic_same, i10, eq_self, b2_0, b2_1, b2_and, b2_t, b2_f, ck']
theorem two_torch : Two t t 129 266 [vR 11 0 0, vI p] [vR 12 0 253, vI p] := by
  refine Two_st ?_; rintro ⟨Y, N, u, P, mk, K, L, ln, Tn, tp, nm⟩ hp
  have hp : PI t Y N u P mk K L ln Tn tp nm := hp
  have hN := hp.1.1
  have hI := hp.2.1.1
  have h6 := hN.A6
  have hu := hp.2.2.1.1
  have hL := hp.2.2.2.2.1.1
  by_cases h1 : isIn p (nA Y) = true
  · obtain ⟨a, ha, rfl⟩ := isIn_ex (show nA Y < 2147483648 by omega) h1
    by_cases h3 : up N a = true
    · refine ⟨losS N a 1 1 a, (Y, losS N a 1, kU u, kP N u P, mk, K, L, ln, Tn, tp, nm), hp.keep (SI_los hI hN ha h3 (by unfold rg; decide)) (Nat.le_refl t) hp.2.1.2, fun d M hc => ?_, fun d M hr => ?_⟩
      · have hc : CI Y N u P mk K L ln Tn tp nm M := hc
        simp (disch := omega) only [e129, sp94 hc.1 hN, sp97 hc.2.1 (show a < 32 by omega), h1, h3, i_nat, Nat.add_zero, Nat.not_lt_zero, i_neg, i_lt, i_le, i_eq, i_add, i_addl, i_addr, i_mulr, i_mull, i_subl, i_pred, i_ltl, i_ltr, i_eql, i_em1, cIn_s, cVd_s, cLo_s, ic_true, ic_false, ic_same, i10, eq_self, b2_0, b2_1, b2_and, b2_t, b2_f, ck']
        refine Hm_cVv (sp120 hu hc.2.2.1 hc.2.1) (fun M1 h => ?_)
        have c1 := hc.keep hL h.1 h.2
        refine Hm_cVv (sp130 c1.2.1 (show a < 6 by omega)) (fun M2 h2 => ?_)
        have e2 : M2.1 61 a = losS N a 1 1 a := (h2.1.n.2 a (by omega)).1
        exact Hm_some ⟨by rw [e2], c1.now kU_le h2.1 (h2.2.up (fun c j h => by omega)), (h.2.up (fun c j h => by unfold ClW; omega)).tr (h2.2.up (fun c j h => by unfold ClW; omega))⟩
      · have hr : RI Y N u P mk K L ln Tn tp nm M := hr
        have hr1 := hr.th hN
        simp (disch := omega) only [e266, sp238 (B := 0) (b := 0) rfl hr1.1 hN hr1.2.1 hI (by omega) ha, h1, h3, i_nat, Nat.add_zero, Nat.not_lt_zero, i_neg, i_lt, i_le, i_eq, i_add, i_addl, i_addr, i_mulr, i_mull, i_subl, i_pred, i_ltl, i_ltr, i_eql, i_em1, cIn_s, cVd_s, cLo_s, ic_true, ic_false, ic_same, i10, eq_self, b2_0, b2_1, b2_and, b2_t, b2_f, ck']
        refine Hm_cVv (sp258 hN hu hr1.2.2.1 hr1.2.1) (fun M1 h => ?_)
        have c1 := hr1.keep hN hL h.1 h.2
        refine Hm_cIv (sp267 (B := 0) (b := 0) rfl hN c1.2.1 hI (by omega) ha h3) (fun M2 h2 => ?_)
        exact Hm_some ⟨rfl, c1.now hN h2.1 (h2.2.up (fun c j h => by omega)), ((Fr.rf.sI (by unfold ReW; omega)).tr (h.2.up (fun c j h => by unfold ReW; omega))).tr (h2.2.up (fun c j h => by unfold ReW; omega))⟩
    · refine ⟨-1, (Y, N, u, P, mk, K, L, ln, Tn, tp, nm), hp, fun d M hc => nopC ?_ hc, fun d M hr => nopR hN ?_ hr⟩
      · have hc : CI Y N u P mk K L ln Tn tp nm M := hc
        simp (disch := omega) only [e129, sp94 hc.1 hN, sp97 hc.2.1 (show a < 32 by omega), h1, nf h3, i_nat, Nat.add_zero, Nat.not_lt_zero, i_neg, i_lt, i_le, i_eq, i_add, i_addl, i_addr, i_mulr, i_mull, i_subl, i_pred, i_ltl, i_ltr, i_eql, i_em1, cIn_s, cVd_s, cLo_s, ic_true, ic_false, ic_same, i10, eq_self, b2_0, b2_1, b2_and, b2_t, b2_f, ck']
      · have hr1 := RI.th hr hN
        simp (disch := omega) only [e266, sp238 (B := 0) (b := 0) rfl hr1.1 hN hr1.2.1 hI (by omega) ha, h1, nf h3, i_nat, Nat.add_zero, Nat.not_lt_zero, i_neg, i_lt, i_le, i_eq, i_add, i_addl, i_addr, i_mulr, i_mull, i_subl, i_pred, i_ltl, i_ltr, i_eql, i_em1, cIn_s, cVd_s, cLo_s, ic_true, ic_false, ic_same, i10, eq_self, b2_0, b2_1, b2_and, b2_t, b2_f, ck']
  · refine ⟨-1, (Y, N, u, P, mk, K, L, ln, Tn, tp, nm), hp, fun d M hc => nopC ?_ hc, fun d M hr => nopR hN ?_ hr⟩
    · have hc : CI Y N u P mk K L ln Tn tp nm M := hc
      simp (disch := omega) only [e129, sp94 hc.1 hN, nf h1, i_nat, Nat.add_zero, Nat.not_lt_zero, i_neg, i_lt, i_le, i_eq, i_add, i_addl, i_addr, i_mulr, i_mull, i_subl, i_pred, i_ltl, i_ltr, i_eql, i_em1, cIn_s, cVd_s, cLo_s, ic_true, ic_false, ic_same, i10, eq_self, b2_0, b2_1, b2_and, b2_t, b2_f, ck']
    · have hr1 := RI.th hr hN
      simp (disch := omega) only [e266, sp238n hr1.1 hN (nf h1), i_nat, Nat.add_zero, Nat.not_lt_zero, i_neg, i_lt, i_le, i_eq, i_add, i_addl, i_addr, i_mulr, i_mull, i_subl, i_pred, i_ltl, i_ltr, i_eql, i_em1, cIn_s, cVd_s, cLo_s, ic_true, ic_false, ic_same, i10, eq_self, b2_0, b2_1, b2_and, b2_t, b2_f, ck']
theorem two_night (ht : t + 1 < 10000) : Two t (t + 1) 132 268 [vR 11 0 0] [vR 12 0 253] := by
  refine Two_st ?_; rintro ⟨Y, N, u, P, mk, K, L, ln, Tn, tp, nm⟩ hp
  have hp : PI t Y N u P mk K L ln Tn tp nm := hp
  have hN := hp.1.1
  have hI := hp.2.1.1
  have hu := hp.2.2.1.1
  have hL := hp.2.2.2.2.1.1
  refine ⟨nitC Y N 0, (Y, nitS Y N 0, kU u, kP N u P, mk, K, L, ln, Tn, tp, nm), hp.keep (SI_nitS hI hN (by omega)) (by omega) ht, fun d M hc => ?_, fun d M hr => ?_⟩
  · have hc : CI Y N u P mk K L ln Tn tp nm M := hc
    simp only [e132]
    refine Hm_cVv (sp120 hu hc.2.2.1 hc.2.1) (fun M1 h => ?_)
    have c1 := hc.keep hL h.1 h.2
    refine Hm_cIv (sp133 c1.1 hN hp.1.2.1 c1.2.1 hI (by omega) (by omega)) (fun M2 h2 => ?_)
    exact Hm_some ⟨rfl, c1.now kU_le h2.1 (h2.2.up (fun c j h => by omega)), (h.2.up (fun c j h => by unfold ClW; omega)).tr (h2.2.up (fun c j h => by unfold ClW; omega))⟩
  · have hr : RI Y N u P mk K L ln Tn tp nm M := hr
    have hr1 := hr.th hN
    simp only [e268]
    refine Hm_cVv (sp258 hN hu hr1.2.2.1 hr1.2.1) (fun M1 h => ?_)
    have c1 := hr1.keep hN hL h.1 h.2
    refine Hm_cIv (sp269 (B := 0) (b := 0) (m := 0) rfl c1.1 hN hp.1.2.1 c1.2.1 hI (by omega) (by omega)) (fun M2 h2 => ?_)
    exact Hm_some ⟨rfl, c1.now hN h2.1 (h2.2.up (fun c j h => by omega)), ((Fr.rf.sI (by unfold ReW; omega)).tr (h.2.up (fun c j h => by unfold ReW; omega))).tr (h2.2.up (fun c j h => by unfold ReW; omega))⟩
theorem two_tell : Two t t 176 290 [vR 11 0 0, vI p, vI q] [vR 12 0 253, vI p, vI q] := by
  refine Two_st ?_; rintro ⟨Y, N, u, P, mk, K, L, ln, Tn, tp, nm⟩ hp
  have hp : PI t Y N u P mk K L ln Tn tp nm := hp
  have hN := hp.1.1
  have hI := hp.2.1.1
  have h6 := hN.A6
  have hu := hp.2.2.1.1
  have hL := hp.2.2.2.2.1.1
  by_cases h1 : isIn p (nA Y) = true
  · obtain ⟨a, ha, rfl⟩ := isIn_ex (show nA Y < 2147483648 by omega) h1
    by_cases h3 : up N a = true
    · by_cases h4 : q < 0
      · have hw : wi q 0 20 = false := by unfold wi; simp [h4]
        refine ⟨0, (Y, N, u, P, mk, K, L, ln, Tn, tp, nm), hp, fun d M hc => nopC ?_ hc, fun d M hr => nopR hN ?_ hr⟩
        · have hc : CI Y N u P mk K L ln Tn tp nm M := hc
          simp (disch := omega) only [e176, sp94 hc.1 hN, sp97 hc.2.1 (show a < 32 by omega), h1, h3, eq_true h4, i_nat, Nat.add_zero, Nat.not_lt_zero, i_neg, i_lt, i_le, i_eq, i_add, i_addl, i_addr, i_mulr, i_mull, i_subl, i_pred, i_ltl, i_ltr, i_eql, i_em1, cIn_s, cVd_s, cLo_s, ic_true, ic_false, ic_same, i10, eq_self, b2_0, b2_1, b2_and, b2_t, b2_f, ck']
        · have hr1 := RI.th hr hN
          simp (disch := omega) only [e290, sp238 (B := 0) (b := 0) rfl hr1.1 hN hr1.2.1 hI (by omega) ha, sp222, hw, h1, h3, i_nat, Nat.add_zero, Nat.not_lt_zero, i_neg, i_lt, i_le, i_eq, i_add, i_addl, i_addr, i_mulr, i_mull, i_subl, i_pred, i_ltl, i_ltr, i_eql, i_em1, cIn_s, cVd_s, cLo_s, ic_true, ic_false, ic_same, i10, eq_self, b2_0, b2_1, b2_and, b2_t, b2_f, ck']
      by_cases h5 : 20 < q
      · have hw : wi q 0 20 = false := by unfold wi; simp [h5]
        refine ⟨0, (Y, N, u, P, mk, K, L, ln, Tn, tp, nm), hp, fun d M hc => nopC ?_ hc, fun d M hr => nopR hN ?_ hr⟩
        · have hc : CI Y N u P mk K L ln Tn tp nm M := hc
          simp (disch := omega) only [e176, sp94 hc.1 hN, sp97 hc.2.1 (show a < 32 by omega), h1, h3, eq_false h4, eq_true h5, i_nat, Nat.add_zero, Nat.not_lt_zero, i_neg, i_lt, i_le, i_eq, i_add, i_addl, i_addr, i_mulr, i_mull, i_subl, i_pred, i_ltl, i_ltr, i_eql, i_em1, cIn_s, cVd_s, cLo_s, ic_true, ic_false, ic_same, i10, eq_self, b2_0, b2_1, b2_and, b2_t, b2_f, ck']
        · have hr1 := RI.th hr hN
          simp (disch := omega) only [e290, sp238 (B := 0) (b := 0) rfl hr1.1 hN hr1.2.1 hI (by omega) ha, sp222, hw, h1, h3, i_nat, Nat.add_zero, Nat.not_lt_zero, i_neg, i_lt, i_le, i_eq, i_add, i_addl, i_addr, i_mulr, i_mull, i_subl, i_pred, i_ltl, i_ltr, i_eql, i_em1, cIn_s, cVd_s, cLo_s, ic_true, ic_false, ic_same, i10, eq_self, b2_0, b2_1, b2_and, b2_t, b2_f, ck']
      have hw : wi q 0 20 = true := by unfold wi; simp [h4, h5]
      have hg : rg q 0 20 := by
        rw [Int32.lt_iff_toInt_lt] at h4 h5
        have e20 : (20 : Int32).toInt = 20 := by decide
        rw [e20] at h5; rw [t_0] at h4
        unfold rg; omega
      refine ⟨1, (Y, us N 6 a q, u, P, mk, K, L, ln, Tn, tp, nm), ⟨hp.1, ⟨SI_tel hI hg, hp.2.1.2⟩, hp.2.2⟩, fun d M hc => ?_, fun d M hr => ?_⟩
      · have hc : CI Y N u P mk K L ln Tn tp nm M := hc
        simp (disch := omega) only [e176, sp94 hc.1 hN, sp97 hc.2.1 (show a < 32 by omega), h1, h3, eq_false h4, eq_false h5, i_nat, Nat.add_zero, Nat.not_lt_zero, i_neg, i_lt, i_le, i_eq, i_add, i_addl, i_addr, i_mulr, i_mull, i_subl, i_pred, i_ltl, i_ltr, i_eql, i_em1, cIn_s, cVd_s, cLo_s, ic_true, ic_false, ic_same, i10, eq_self, b2_0, b2_1, b2_and, b2_t, b2_f, ck']
        exact Hm_some ⟨rfl, CI.now hc hu (hc.2.1.s1 6 a _ (by omega)) (Fr.rf.sI (by omega)), Fr.rf.sI (by unfold ClW; omega)⟩
      · have hr : RI Y N u P mk K L ln Tn tp nm M := hr
        have hr1 := hr.th hN
        simp (disch := omega) only [e290, sp238 (B := 0) (b := 0) rfl hr1.1 hN hr1.2.1 hI (by omega) ha, sp222, hw, h1, h3, i_nat, Nat.add_zero, Nat.not_lt_zero, i_neg, i_lt, i_le, i_eq, i_add, i_addl, i_addr, i_mulr, i_mull, i_subl, i_pred, i_ltl, i_ltr, i_eql, i_em1, cIn_s, cVd_s, cLo_s, ic_true, ic_false, ic_same, i10, eq_self, b2_0, b2_1, b2_and, b2_t, b2_f, ck']
        have z := SR_tel (v := q) hN hr1.2.1 ha
        rw [Nat.zero_add] at z
        exact Hm_some ⟨rfl, hr1.now hN z (Fr.rf.sI (by omega)), (Fr.rf.sI (by unfold ReW; omega)).sI (by unfold ReW; omega)⟩
    · refine ⟨0, (Y, N, u, P, mk, K, L, ln, Tn, tp, nm), hp, fun d M hc => nopC ?_ hc, fun d M hr => nopR hN ?_ hr⟩
      · have hc : CI Y N u P mk K L ln Tn tp nm M := hc
        simp (disch := omega) only [e176, sp94 hc.1 hN, sp97 hc.2.1 (show a < 32 by omega), h1, nf h3, i_nat, Nat.add_zero, Nat.not_lt_zero, i_neg, i_lt, i_le, i_eq, i_add, i_addl, i_addr, i_mulr, i_mull, i_subl, i_pred, i_ltl, i_ltr, i_eql, i_em1, cIn_s, cVd_s, cLo_s, ic_true, ic_false, ic_same, i10, eq_self, b2_0, b2_1, b2_and, b2_t, b2_f, ck']
      · have hr1 := RI.th hr hN
        simp (disch := omega) only [e290, sp238 (B := 0) (b := 0) rfl hr1.1 hN hr1.2.1 hI (by omega) ha, h1, nf h3, i_nat, Nat.add_zero, Nat.not_lt_zero, i_neg, i_lt, i_le, i_eq, i_add, i_addl, i_addr, i_mulr, i_mull, i_subl, i_pred, i_ltl, i_ltr, i_eql, i_em1, cIn_s, cVd_s, cLo_s, ic_true, ic_false, ic_same, i10, eq_self, b2_0, b2_1, b2_and, b2_t, b2_f, ck']
  · refine ⟨0, (Y, N, u, P, mk, K, L, ln, Tn, tp, nm), hp, fun d M hc => nopC ?_ hc, fun d M hr => nopR hN ?_ hr⟩
    · have hc : CI Y N u P mk K L ln Tn tp nm M := hc
      simp (disch := omega) only [e176, sp94 hc.1 hN, nf h1, i_nat, Nat.add_zero, Nat.not_lt_zero, i_neg, i_lt, i_le, i_eq, i_add, i_addl, i_addr, i_mulr, i_mull, i_subl, i_pred, i_ltl, i_ltr, i_eql, i_em1, cIn_s, cVd_s, cLo_s, ic_true, ic_false, ic_same, i10, eq_self, b2_0, b2_1, b2_and, b2_t, b2_f, ck']
    · have hr1 := RI.th hr hN
      simp (disch := omega) only [e290, sp238n hr1.1 hN (nf h1), i_nat, Nat.add_zero, Nat.not_lt_zero, i_neg, i_lt, i_le, i_eq, i_add, i_addl, i_addr, i_mulr, i_mull, i_subl, i_pred, i_ltl, i_ltr, i_eql, i_em1, cIn_s, cVd_s, cLo_s, ic_true, ic_false, ic_same, i10, eq_self, b2_0, b2_1, b2_and, b2_t, b2_f, ck']
end HAND
