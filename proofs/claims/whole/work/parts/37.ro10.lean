/-! sets, look, further -/
section RO10
variable {Y N S : YT} {t a s n c b d e u k : Nat} {M : Mem} {p q x f set props deg : Int32}
def FitM (Y N : YT) (n : Nat) (M : Mem) : Prop := M.1 100 0 = Int32.ofNat (fitA Y N n).1 ∧ ∀ i, i < (fitA Y N n).1 → M.1 101 i = Int32.ofNat ((fitA Y N n).2 i)
theorem sp178 (hY : IY Y M) (hN : IN Y t N M) : Hm (evD (d + 9) 178 [vR 0 0 100] M) (fun r M' => r = none ∧ For Y N (nA Y) M' ∧ FitM Y N 64 M' ∧ Fr ScW M M') := by
  have h6 := hY.n.A6
  have hC := hY.n.C6
  rw [e178]
  refine Hm_cVv (sp179 hY hN) (fun M1 h1 => ?_)
  obtain ⟨F1, f1⟩ := h1
  have hY1 := hY.sc f1
  have hN1 := hN.sc h6 f1
  simp only [lp0_eq]
  refine lp_for (d := d + 8) (x := 178) (pc := 8) (nC Y) 1 200 (by omega) (fun i lv M' => lv = [some (vR 0 0 100), some (vI (rf (fun x c => x ||| (if decide (¬ N 5 c = -1) then 1 <<< (Int32.ofNat c &&& 31) else 0)) 0 i)), some (vI (Int32.ofNat i))] ∧ M' = M1) ?_ ?_ (nC Y) 0 (by omega) 20000 _ M1 (by omega) ⟨rfl, rfl⟩
  · rintro i hi G lv M' - ⟨rfl, rfl⟩ z
    simp (disch := omega) only [e178_8, i_nat, Nat.add_zero, Nat.not_lt_zero, i_neg, i_lt, i_le, i_eq, i_add, i_addl, i_addr, i_mulr, i_mull, i_subl, i_pred, i_ltl, i_ltr, i_eql, i_em1, cIn_s, cVd_s, cLo_s, ic_true, ic_false, ic_same, i10, eq_self, b2_0, b2_1, b2_and, b2_t, b2_f, ck', hY1.c, hY1.n.C, hi, hN1.c.n]
    refine Hm_ic (fun h => ?_) (fun h => ?_)
    · exact z _ _ _ (by omega) ⟨by simp [rf, h], rfl⟩
    · exact z _ _ _ (by omega) ⟨by simp [rf, h], rfl⟩
  · rintro G lv M' hG ⟨rfl, rfl⟩
    simp (disch := omega) only [e178_8, i_nat, Nat.add_zero, Nat.not_lt_zero, i_neg, i_lt, i_le, i_eq, i_add, i_addl, i_addr, i_mulr, i_mull, i_subl, i_pred, i_ltl, i_ltr, i_eql, i_em1, cIn_s, cVd_s, cLo_s, ic_true, ic_false, ic_same, i10, eq_self, b2_0, b2_1, b2_and, b2_t, b2_f, ck', hY1.c, hY1.n.C, Nat.lt_irrefl]
    refine lp_for (d := d + 8) (x := 178) (pc := 58) 64 1 0 (by omega) (fun i lv M2 => lv = [some (vR 0 0 100), some (vI (whoM Y N)), some (vI (Int32.ofNat i))] ∧ For Y N (nA Y) M2 ∧ FitM Y N i M2 ∧ Fr ScW M M2) ?_ ?_ 64 0 (by omega) _ _ _ (by omega) ⟨rfl, fun a ha => ?_, ⟨?_, fun i hi => ?_⟩, f1.sI (by unfold ScW; omega)⟩
    · rintro i hi G2 lv M2 - ⟨rfl, F2, ⟨s2, r2⟩, f2⟩ z
      have hY2 := hY.sc f2
      have hN2 := hN.sc h6 f2
      have hle := fitA_le (Y := Y) (N := N) i
      have e : fitA Y N (i + 1) = if fit Y N i then ((fitA Y N i).1 + 1, un (fitA Y N i).2 (fitA Y N i).1 i) else fitA Y N i := rfl
      have no : fit Y N i = false → FitM Y N (i + 1) M2 := fun h => by
        unfold FitM; rw [e, h]; exact ⟨s2, r2⟩
      simp (disch := omega) only [e178_58, i_nat, Nat.add_zero, Nat.not_lt_zero, i_neg, i_lt, i_le, i_eq, i_add, i_addl, i_addr, i_mulr, i_mull, i_subl, i_pred, i_ltl, i_ltr, i_eql, i_em1, cIn_s, cVd_s, cLo_s, ic_true, ic_false, ic_same, i10, eq_self, b2_0, b2_1, b2_and, b2_t, b2_f, ck', hi]
      refine Hm_ic (fun h1 => ?_) (fun h1 => ?_)
      · simp only [sp180 hY2 hN2 F2, cIn_s, b2_0]
        cases ht : tld Y N (Int32.ofNat i) (nA Y)
        · simp only [ic_true]
          exact z _ _ _ (by omega) ⟨rfl, F2, no (by simp only [fit, ht, Bool.and_false]), f2⟩
        · have hfit : fit Y N i = true := by simp only [fit, ht, h1, decide_true, Bool.and_self]
          simp (disch := omega) only [Bool.true_eq_false, ic_false, s2, i_nat, Nat.add_zero, Nat.not_lt_zero, i_neg, i_lt, i_le, i_eq, i_add, i_addl, i_addr, i_mulr, i_mull, i_subl, i_pred, i_ltl, i_ltr, i_eql, i_em1, cIn_s, cVd_s, cLo_s, ic_true, ic_false, ic_same, i10, eq_self, b2_0, b2_1, b2_and, b2_t, b2_f, ck', sI_eq, sI_eq', sI_ne, sJ_1, sR_1]
          refine z _ _ _ (by omega) ⟨rfl, fun a ha => ?_, ?_, (f2.sI (by unfold ScW; omega)).sI (by unfold ScW; omega)⟩
          · have := F2 a ha
            simp (disch := omega) only [sI_eq, sI_eq', sI_ne, sJ_1, sR_1]; exact this
          · unfold FitM
            rw [e, hfit]
            simp only [if_true]
            refine ⟨by rw [sI_eq], fun j hj => ?_⟩
            by_cases y : j = (fitA Y N i).1
            · subst y; simp (disch := omega) only [sI_eq, sI_eq', sI_ne, sJ_1, sR_1]; unfold un; rw [if_pos rfl]
            · simp (disch := omega) only [sI_eq, sI_eq', sI_ne, sJ_1, sR_1]; unfold un; rw [if_neg y]; exact r2 j (by omega)
      · exact z _ _ _ (by omega) ⟨rfl, F2, no (by simp only [fit, h1, decide_false, Bool.false_and]), f2⟩
    · rintro G2 lv M2 - ⟨rfl, F2, g2, f2⟩
      simp (disch := omega) only [e178_58, i_nat, Nat.add_zero, Nat.not_lt_zero, i_neg, i_lt, i_le, i_eq, i_add, i_addl, i_addr, i_mulr, i_mull, i_subl, i_pred, i_ltl, i_ltr, i_eql, i_em1, cIn_s, cVd_s, cLo_s, ic_true, ic_false, ic_same, i10, eq_self, b2_0, b2_1, b2_and, b2_t, b2_f, ck', Nat.lt_irrefl]
      exact Hm_some ⟨rfl, F2, g2, f2⟩
    · have := F1 a ha
      simp (disch := omega) only [sI_eq, sI_eq', sI_ne, sJ_1, sR_1]; exact this
    · rw [sI_eq]; rfl
    · exact absurd hi (Nat.not_lt_zero _)
def cntF (Y N : YT) : Nat → Nat := rf (fun x k => if fit Y N k then x + 1 else x) 0
def andF (Y N : YT) (x : Int32) : Nat → Int32 := rf (fun x k => if fit Y N k then x &&& Int32.ofNat k else x) x
def orF (Y N : YT) : Nat → Int32 := rf (fun x k => if fit Y N k then x ||| Int32.ofNat k else x) 0
theorem cnt_A : ∀ n, (fitA Y N n).1 = cntF Y N n
  | 0 => rfl
  | n + 1 => by
    have ih := cnt_A n
    have e : fitA Y N (n + 1) = if fit Y N n then ((fitA Y N n).1 + 1, un (fitA Y N n).2 (fitA Y N n).1 n) else fitA Y N n := rfl
    have e2 : cntF Y N (n + 1) = if fit Y N n then cntF Y N n + 1 else cntF Y N n := rfl
    rw [e, e2, ← ih]; split <;> rfl
theorem cnt_le : ∀ n, cntF Y N n ≤ n := fun n => by rw [← cnt_A]; exact fitA_le n
theorem sp182 (hF : FitM Y N 64 M) : evD (d + 1) 182 [vR 0 0 100] M = some (some (vI (andF Y N 63 64)), M) := by
  have hle := fitA_le (Y := Y) (N := N) 64
  obtain ⟨s1, r1⟩ := hF
  have h : Hm (evD (d + 1) 182 [vR 0 0 100] M) (fun r M' => r = some (vI (andF Y N 63 64)) ∧ M' = M) := by
    rw [e182]; simp only [lp0_eq]
    refine lp_for (d := d) (x := 182) (pc := 5) (fitA Y N 64).1 1 0 (by omega) (fun i lv M' => lv = [some (vR 0 0 100), some (vI (rf (fun x i => x &&& Int32.ofNat ((fitA Y N 64).2 i)) 63 i)), some (vI (Int32.ofNat i))] ∧ M' = M) ?_ ?_ (fitA Y N 64).1 0 (by omega) 20000 _ M (by omega) ⟨rfl, rfl⟩
    · rintro i hi G lv M' - ⟨rfl, rfl⟩ z
      simp (disch := omega) only [e182_5, i_nat, Nat.add_zero, Nat.not_lt_zero, i_neg, i_lt, i_le, i_eq, i_add, i_addl, i_addr, i_mulr, i_mull, i_subl, i_pred, i_ltl, i_ltr, i_eql, i_em1, cIn_s, cVd_s, cLo_s, ic_true, ic_false, ic_same, i10, eq_self, b2_0, b2_1, b2_and, b2_t, b2_f, ck', s1, hi, r1 i hi]
      exact z _ _ _ (by omega) ⟨rfl, rfl⟩
    · rintro G lv M' - ⟨rfl, rfl⟩
      simp (disch := omega) only [e182_5, i_nat, Nat.add_zero, Nat.not_lt_zero, i_neg, i_lt, i_le, i_eq, i_add, i_addl, i_addr, i_mulr, i_mull, i_subl, i_pred, i_ltl, i_ltr, i_eql, i_em1, cIn_s, cVd_s, cLo_s, ic_true, ic_false, ic_same, i10, eq_self, b2_0, b2_1, b2_and, b2_t, b2_f, ck', s1, Nat.lt_irrefl]
      exact Hm_some ⟨by rw [fitA_fold (f := fun x k => x &&& Int32.ofNat k)]; rfl, rfl⟩
  obtain ⟨a, M', h1, h2, h3⟩ := h
  rw [h1, h2, h3]
theorem sp183 (hF : FitM Y N 64 M) : evD (d + 1) 183 [vR 0 0 100] M = some (some (vI (orF Y N 64)), M) := by
  have hle := fitA_le (Y := Y) (N := N) 64
  obtain ⟨s1, r1⟩ := hF
  have h : Hm (evD (d + 1) 183 [vR 0 0 100] M) (fun r M' => r = some (vI (orF Y N 64)) ∧ M' = M) := by
    rw [e183]; simp only [lp0_eq]
    refine lp_for (d := d) (x := 183) (pc := 4) (fitA Y N 64).1 1 0 (by omega) (fun i lv M' => lv = [some (vR 0 0 100), some (vI (rf (fun x i => x ||| Int32.ofNat ((fitA Y N 64).2 i)) 0 i)), some (vI (Int32.ofNat i))] ∧ M' = M) ?_ ?_ (fitA Y N 64).1 0 (by omega) 20000 _ M (by omega) ⟨rfl, rfl⟩
    · rintro i hi G lv M' - ⟨rfl, rfl⟩ z
      simp (disch := omega) only [e183_4, i_nat, Nat.add_zero, Nat.not_lt_zero, i_neg, i_lt, i_le, i_eq, i_add, i_addl, i_addr, i_mulr, i_mull, i_subl, i_pred, i_ltl, i_ltr, i_eql, i_em1, cIn_s, cVd_s, cLo_s, ic_true, ic_false, ic_same, i10, eq_self, b2_0, b2_1, b2_and, b2_t, b2_f, ck', s1, hi, r1 i hi]
      exact z _ _ _ (by omega) ⟨rfl, rfl⟩
    · rintro G lv M' - ⟨rfl, rfl⟩
      simp (disch := omega) only [e183_4, i_nat, Nat.add_zero, Nat.not_lt_zero, i_neg, i_lt, i_le, i_eq, i_add, i_addl, i_addr, i_mulr, i_mull, i_subl, i_pred, i_ltl, i_ltr, i_eql, i_em1, cIn_s, cVd_s, cLo_s, ic_true, ic_false, ic_same, i10, eq_self, b2_0, b2_1, b2_and, b2_t, b2_f, ck', s1, Nat.lt_irrefl]
      exact Hm_some ⟨by rw [fitA_fold (f := fun x k => x ||| Int32.ofNat k)]; rfl, rfl⟩
  obtain ⟨a, M', h1, h2, h3⟩ := h
  rw [h1, h2, h3]
/-- the reference -/
theorem sp293 (hY : IY Y M) (hN : IN Y t N M) : evD (d + 2) 293 [vR 12 0 253] M = some (some (vI (whoM Y N)), M) := by
  have h6 := hY.n.C6
  have h : Hm (evD (d + 2) 293 [vR 12 0 253] M) (fun r M' => r = some (vI (whoM Y N)) ∧ M' = M) := by
    rw [e293]; simp only [lp0_eq]
    refine lp_for (d := d + 1) (x := 293) (pc := 4) (nC Y) 1 0 (by omega) (fun i lv M' => lv = [some (vR 12 0 253), some (vI (rf (fun x c => x ||| (if decide (¬ N 5 c = -1) then 1 <<< (Int32.ofNat c &&& 31) else 0)) 0 i)), some (vI (Int32.ofNat i))] ∧ M' = M) ?_ ?_ (nC Y) 0 (by omega) 20000 _ M (by omega) ⟨rfl, rfl⟩
    · rintro i hi G lv M' - ⟨rfl, rfl⟩ z
      have k := (hN.r.n.2.2.1 i (by omega)).1
      simp (disch := omega) only [e293_4, i_nat, Nat.add_zero, Nat.not_lt_zero, i_neg, i_lt, i_le, i_eq, i_add, i_addl, i_addr, i_mulr, i_mull, i_subl, i_pred, i_ltl, i_ltr, i_eql, i_em1, cIn_s, cVd_s, cLo_s, ic_true, ic_false, ic_same, i10, eq_self, b2_0, b2_1, b2_and, b2_t, b2_f, ck', sp248 hY.r hY.n, hi, k]
      refine Hm_ic (fun h => ?_) (fun h => ?_)
      · have : N 5 i = -1 := by
          rcases hN.i.c (show i < 6 by omega) with q | ⟨a, ha, q⟩
          · exact q
          · have := hY.n.A6
            rw [q] at h; exact absurd h (i_neg (by omega))
        exact z _ _ _ (by omega) ⟨by simp [rf, this], rfl⟩
      · have : ¬ N 5 i = -1 := fun q => by rw [q] at h; exact h (by decide)
        exact z _ _ _ (by omega) ⟨by simp [rf, this], rfl⟩
    · rintro G lv M' - ⟨rfl, rfl⟩
      simp (disch := omega) only [e293_4, i_nat, Nat.add_zero, Nat.not_lt_zero, i_neg, i_lt, i_le, i_eq, i_add, i_addl, i_addr, i_mulr, i_mull, i_subl, i_pred, i_ltl, i_ltr, i_eql, i_em1, cIn_s, cVd_s, cLo_s, ic_true, ic_false, ic_same, i10, eq_self, b2_0, b2_1, b2_and, b2_t, b2_f, ck', sp248 hY.r hY.n, Nat.lt_irrefl]
      exact Hm_some ⟨rfl, rfl⟩
  obtain ⟨a, M', h1, h2, h3⟩ := h
  rw [h1, h2, h3]
theorem sp294 (hY : IY Y M) (hN : IN Y t N M) (ha : a < nA Y) : Hm (evD (d + 6) 294 [vR 12 0 253, vI (Int32.ofNat a), vI set] M) (fun r M' => r = some (vI (Int32.ofNat (ftB Y N a set))) ∧ Fr (fun c _ => c = 267 ∨ c = 268) M M') := by
  have h6 := hY.n.A6
  have hC := hY.n.C6
  have ht := hN.t
  have hft := ftB_eq (set := set) hY.n hN.i ha
  have hcr := calm_rg hN.i ha
  have hbd := brc_bd (N := N) (a := a) (set := set) hY.n
  simp only [e294, sp238 (B := 0) (b := 0) rfl hY.r hY.n hN.r hN.i (show 0 ≤ 1078 by omega) ha, cIn_s, b2_0]
  cases hu : up N a
  · simp only [ic_true]
    refine Hm_some ⟨?_, Fr.rf⟩
    have hc0 : calm Y N a = 0 := by simp [calm, hu]
    rw [hc0] at hft
    rw [← hft.1]
    have : imax 0 (0 - Int32.ofNat (brc Y N a set (nC Y))) = 0 := by
      rw [t_eq, t_max, t_sub (by rw [i_toInt (by omega), t_0]; omega) (by rw [i_toInt (by omega), t_0]; omega), t_0, i_toInt (by omega)]; omega
    rw [this]
  · simp only [Bool.true_eq_false, ic_false]
    refine Hm_cIv (sp270 (B := 0) (b := 0) (m := 0) rfl hY.r hY.n hY.l hN.r hN.i (by omega) (by omega) ha hu) (fun M1 f1 => ?_)
    have hY1 : IY Y M1 := hY.fr f1 (fun c j hc => by unfold yc at *; omega)
    have hN1 : IN Y t N M1 := hN.fr h6 f1 (fun c j hc => by omega)
    have hc : imax 0 (N 1 a - melT Y N a (md3 0)) = calm Y N a := by unfold calm; rw [hu]; rfl
    rw [hc]
    simp only [lp0_eq]
    refine lp_for (d := d + 5) (x := 294) (pc := 22) (nC Y) 1 0 (by omega) (fun i lv M' => lv = [some (vR 12 0 253), some (vI (Int32.ofNat a)), some (vI set), some (vI (calm Y N a - Int32.ofNat (brc Y N a set i))), some (vI (Int32.ofNat i))] ∧ M' = M1) ?_ ?_ (nC Y) 0 (by omega) 20000 _ M1 (by omega) ⟨by rw [show brc Y N a set 0 = 0 from rfl, show Int32.ofNat 0 = 0 from rfl, Int32.sub_zero], rfl⟩
    · rintro i hi G lv M' - ⟨rfl, rfl⟩ z
      have k := (hN1.r.n.2.2.1 i (by omega)).1
      have es : brc Y N a set (i + 1) = brc Y N a set i + (if bt set i && decide (N 5 i = Int32.ofNat a) then 1 else 0) := rfl
      have sub1 : calm Y N a - Int32.ofNat (brc Y N a set i) - 1 = calm Y N a - Int32.ofNat (brc Y N a set i + 1) := by
        rw [← i_addl, Int32.sub_eq_add_neg, Int32.sub_eq_add_neg, Int32.sub_eq_add_neg, Int32.neg_add, Int32.sub_eq_add_neg, Int32.add_assoc]
      simp (disch := omega) only [e294_22, i_nat, Nat.add_zero, Nat.not_lt_zero, i_neg, i_lt, i_le, i_eq, i_add, i_addl, i_addr, i_mulr, i_mull, i_subl, i_pred, i_ltl, i_ltr, i_eql, i_em1, cIn_s, cVd_s, cLo_s, ic_true, ic_false, ic_same, i10, eq_self, b2_0, b2_1, b2_and, b2_t, b2_f, ck', sp248 hY1.r hY1.n, hi, k, bt_has, Int32.sub_zero]
      refine Hm_ic (fun h1 => Hm_ic (fun h2 => ?_) (fun h2 => ?_)) (fun h1 => ?_)
      · exact z _ _ _ (by omega) ⟨by rw [es, sub1]; simp [h1, h2], rfl⟩
      · exact z _ _ _ (by omega) ⟨by rw [es]; simp [h1, h2], rfl⟩
      · exact z _ _ _ (by omega) ⟨by rw [es]; simp [h1], rfl⟩
    · rintro G lv M' - ⟨rfl, rfl⟩
      simp (disch := omega) only [e294_22, i_nat, Nat.add_zero, Nat.not_lt_zero, i_neg, i_lt, i_le, i_eq, i_add, i_addl, i_addr, i_mulr, i_mull, i_subl, i_pred, i_ltl, i_ltr, i_eql, i_em1, cIn_s, cVd_s, cLo_s, ic_true, ic_false, ic_same, i10, eq_self, b2_0, b2_1, b2_and, b2_t, b2_f, ck', sp248 hY1.r hY1.n, Nat.lt_irrefl, ic_ite, neg_max, hft.1]
      exact Hm_some ⟨rfl, f1⟩
theorem sp292 (hY : IY Y M) (hN : IN Y t N M) : Hm (evD (d + 8) 292 [vR 12 0 253, vI (Int32.ofNat k)] M) (fun r M' => r = some (vI (b2 (fit Y N k))) ∧ Fr (fun c _ => c = 267 ∨ c = 268) M M') := by
  have h6 := hY.n.A6
  have hC := hY.n.C6
  simp only [e292, sp293 hY hN, cIn_s, lp0_eq]
  refine Hm_ic (fun h => ?_) (fun h => ?_)
  · have ef : fit Y N k = tld Y N (Int32.ofNat k) (nA Y) := by simp only [fit, h, decide_true, Bool.true_and]
    rw [ef]
    refine lp_for (d := d + 7) (x := 292) (pc := 19) (nA Y) 1 0 (by omega) (fun i lv M' => lv = [some (vR 12 0 253), some (vI (Int32.ofNat k)), some (vI (b2 (tld Y N (Int32.ofNat k) i))), some (vI (Int32.ofNat i))] ∧ Fr (fun c _ => c = 267 ∨ c = 268) M M') ?_ ?_ (nA Y) 0 (by omega) 20000 _ M (by omega) ⟨by simp [tld, b2], Fr.rf⟩
    · rintro i hi G lv M' - ⟨rfl, hf⟩ z
      have hY1 : IY Y M' := hY.fr hf (fun c j hc => by unfold yc at *; omega)
      have hN1 : IN Y t N M' := hN.fr h6 hf (fun c j hc => by omega)
      have es : tld Y N (Int32.ofNat k) (i + 1) = (tld Y N (Int32.ofNat k) i && decide (N 6 i = -1 ∨ N 6 i = Int32.ofNat (ftB Y N i (Int32.ofNat k)))) := by
        unfold tld
        rw [Bool.eq_iff_iff]
        simp only [decide_eq_true_eq, Bool.and_eq_true]
        refine ⟨fun h => ⟨fun a ha => h a (by omega), h i (by omega)⟩, fun h a ha => ?_⟩
        by_cases y : a = i
        · subst y; exact h.2
        · exact h.1 a (by omega)
      have kt := (hN1.r.n.2.1 i hi).2.2.2.2
      have hT := (hN.i.a hi).2.2.2.2.2.2
      simp (disch := omega) only [e292_19, i_nat, Nat.add_zero, Nat.not_lt_zero, i_neg, i_lt, i_le, i_eq, i_add, i_addl, i_addr, i_mulr, i_mull, i_subl, i_pred, i_ltl, i_ltr, i_eql, i_em1, cIn_s, cVd_s, cLo_s, ic_true, ic_false, ic_same, i10, eq_self, b2_0, b2_1, b2_and, b2_t, b2_f, ck', sp197 hY1.r hY1.n, hi, kt]
      cases ht : tld Y N (Int32.ofNat k) i
      · simp only [ic_true]
        refine Hm_some ⟨?_, hf⟩
        have : tld Y N (Int32.ofNat k) (nA Y) = false := by
          simp only [tld, decide_eq_false_iff_not] at ht ⊢
          exact fun q => ht (fun a ha => q a (by omega))
        rw [this]
      · rw [es, ht] at z
        simp only [Bool.true_eq_false, ic_false]
        refine Hm_ic (fun h1 => ?_) (fun h1 => ?_)
        · have e6 : N 6 i = -1 := by
            rcases hT with q | q
            · exact q
            · unfold rg at q; rw [t_lt, t_0] at h1; omega
          exact z _ _ _ (by omega) ⟨by simp [e6, b2], hf⟩
        · have e6 : ¬ N 6 i = -1 := fun q => by rw [q] at h1; exact h1 (by decide)
          refine Hm_cIv (sp294 hY1 hN1 hi) (fun M2 f2 => ?_)
          have hN2 : IN Y t N M2 := hN1.fr h6 f2 (fun c j hc => by omega)
          have kt2 := (hN2.r.n.2.1 i hi).2.2.2.2
          simp (disch := omega) only [i_nat, Nat.add_zero, Nat.not_lt_zero, i_neg, i_lt, i_le, i_eq, i_add, i_addl, i_addr, i_mulr, i_mull, i_subl, i_pred, i_ltl, i_ltr, i_eql, i_em1, cIn_s, cVd_s, cLo_s, ic_true, ic_false, ic_same, i10, eq_self, b2_0, b2_1, b2_and, b2_t, b2_f, ck', kt2]
          refine Hm_ic (fun h2 => ?_) (fun h2 => ?_)
          · exact z _ _ _ (by omega) ⟨by rw [← h2]; simp [b2], hf.tr f2⟩
          · exact z _ _ _ (by omega) ⟨by simp [e6, Ne.symm h2, b2], hf.tr f2⟩
    · rintro G lv M' - ⟨rfl, hf⟩
      have hY1 : IY Y M' := hY.fr hf (fun c j hc => by unfold yc at *; omega)
      simp (disch := omega) only [e292_19, i_nat, Nat.add_zero, Nat.not_lt_zero, i_neg, i_lt, i_le, i_eq, i_add, i_addl, i_addr, i_mulr, i_mull, i_subl, i_pred, i_ltl, i_ltr, i_eql, i_em1, cIn_s, cVd_s, cLo_s, ic_true, ic_false, ic_same, i10, eq_self, b2_0, b2_1, b2_and, b2_t, b2_f, ck', sp197 hY1.r hY1.n, Nat.lt_irrefl]
      exact Hm_some ⟨rfl, hf⟩
  · have ef : fit Y N k = false := by simp only [fit, h, decide_false, Bool.false_and]
    rw [ef, show (20000 : Nat) = 19999 + 1 from rfl, e292_19]
    simp only [sp197 hY.r hY.n, cIn_s, eq_self, ic_true, show ((0 : Int32) &&& 1 = 0) = True by decide, ic_same]
    exact Hm_some ⟨rfl, Fr.rf⟩
theorem fit_big (hn : YN Y) (hk : 2 ^ nC Y ≤ k) (h64 : k < 64) : fit Y N k = false := by
  have hC := hn.C6
  have := okS_big (Y := Y) (f := whoM Y N) (a := nC Y) (n := k) (fun e he h => by rw [bt_who hn he] at h; simp at h; exact h.1) hk h64
  cases q : fit Y N k
  · rfl
  · exfalso
    simp only [fit, Bool.and_eq_true, decide_eq_true_eq] at q
    have h2 : k < 2 ^ nC Y := Nat.lt_pow_two_of_testBit _ (fun i hi => by
      by_cases h32 : i < 32
      · cases hb : k.testBit i
        · rfl
        · rw [← bt_nat (show k < 4294967296 by omega)] at hb
          have := sub_bits q.1 h32 hb
          rw [bt_who hn h32] at this; simp at this; omega
      · exact Nat.testBit_lt_two_pow (Nat.lt_of_lt_of_le h64 (by
          have : (64 : Nat) = 2 ^ 6 := rfl
          rw [this]; exact Nat.pow_le_pow_right (by omega) (by omega))))
    omega
theorem fit_stop {α : Type} {f : α → Nat → α} {x0 : α} (hn : YN Y) : ∀ j, 2 ^ nC Y + j ≤ 64 → rf (fun x k => if fit Y N k then f x k else x) x0 (2 ^ nC Y + j) = rf (fun x k => if fit Y N k then f x k else x) x0 (2 ^ nC Y)
  | 0, _ => rfl
  | j + 1, h => by
    have ih := fit_stop (f := f) (x0 := x0) hn j (by omega)
    show (if fit Y N (2 ^ nC Y + j) then _ else rf (fun x k => if fit Y N k then f x k else x) x0 (2 ^ nC Y + j)) = _
    rw [fit_big hn (by omega) (by omega), ih]; rfl
theorem pow64 (h : n ≤ 6) : 2 ^ n ≤ 64 := by
  have : (64 : Nat) = 2 ^ 6 := rfl
  rw [this]; exact Nat.pow_le_pow_right (by omega) h
theorem fit_64 {α : Type} {f : α → Nat → α} {x0 : α} (hn : YN Y) : rf (fun x k => if fit Y N k then f x k else x) x0 64 = rf (fun x k => if fit Y N k then f x k else x) x0 (2 ^ nC Y) := by
  have := fit_stop (f := f) (x0 := x0) (N := N) hn (64 - 2 ^ nC Y) (by have := pow64 hn.C6; omega)
  rwa [show 2 ^ nC Y + (64 - 2 ^ nC Y) = 64 by have := pow64 hn.C6; omega] at this
end RO10
