/-! sets, look: who breathed -/
section RO9
variable {Y N S : YT} {t a s n c b d e u k : Nat} {M : Mem} {p q x f set props deg : Int32}
def whoM (Y N : YT) : Int32 := rf (fun x c => x ||| (if decide (¬ N 5 c = -1) then 1 <<< (Int32.ofNat c &&& 31) else 0)) 0 (nC Y)
def mouM (Y N : YT) (a n : Nat) : Int32 := rf (fun x c => x ||| (if decide (N 5 c = Int32.ofNat a) then 1 <<< (Int32.ofNat c &&& 31) else 0)) 0 n
def calm (Y N : YT) (a : Nat) : Int32 := if up N a then imax 0 (N 1 a - melT Y N a 0) else 0
def brc (Y N : YT) (a : Nat) (set : Int32) (n : Nat) : Nat := sm (fun c => if bt set c && decide (N 5 c = Int32.ofNat a) then 1 else 0) n
/-- what is left of an act if these breathed -/
def ftB (Y N : YT) (a : Nat) (set : Int32) : Nat := (imax 0 (calm Y N a - Int32.ofNat (brc Y N a set (nC Y)))).toNatClampNeg
theorem calm_rg (hI : SI Y t N) (ha : a < nA Y) : rg (calm Y N a) 0 20 := by
  have f2 := (hI.a ha).2.2.2.1
  have hm := melT_rg (m := 0) hI ha
  unfold calm rg at *
  split
  · rw [t_max, t_sub (by omega) (by omega), t_0]; omega
  · rw [t_0]; omega
theorem brc_bd (hn : YN Y) : brc Y N a set (nC Y) ≤ 6 := by
  have h6 := hn.C6
  have := sm_bd (f := fun c => if bt set c && decide (N 5 c = Int32.ofNat a) then 1 else 0) (k := 1) (nC Y) (fun c _ => by split <;> omega)
  unfold brc; omega
theorem ftB_eq (hn : YN Y) (hI : SI Y t N) (ha : a < nA Y) : imax 0 (calm Y N a - Int32.ofNat (brc Y N a set (nC Y))) = Int32.ofNat (ftB Y N a set) ∧ ftB Y N a set ≤ 20 := by
  have h1 := calm_rg hI ha
  have h2 := brc_bd (N := N) (a := a) (set := set) hn
  unfold rg at h1
  have e : (imax 0 (calm Y N a - Int32.ofNat (brc Y N a set (nC Y)))).toInt = max 0 ((calm Y N a).toInt - (brc Y N a set (nC Y) : Int)) := by
    rw [t_max, t_sub (by rw [i_toInt (by omega)]; omega) (by rw [i_toInt (by omega)]; omega), t_0, i_toInt (by omega)]
  have e2 : (ftB Y N a set : Int) = max 0 ((calm Y N a).toInt - (brc Y N a set (nC Y) : Int)) := by
    unfold ftB; rw [Int32.toNatClampNeg, e]; omega
  refine ⟨?_, by omega⟩
  rw [t_eq, i_toInt (by omega), e, e2]
def tld (Y N : YT) (set : Int32) (n : Nat) : Bool := decide (∀ a, a < n → N 6 a = -1 ∨ N 6 a = Int32.ofNat (ftB Y N a set))
def fit (Y N : YT) (k : Nat) : Bool := decide (Int32.ofNat k &&& (whoM Y N ^^^ (-1)) = 0) && tld Y N (Int32.ofNat k) (nA Y)
theorem bt_mou (hn : n ≤ 32) (he : e < 32) : bt (mouM Y N a n) e = (decide (e < n) && decide (N 5 e = Int32.ofNat a)) := bt_rf _ n hn e he
theorem bt_who (hn : YN Y) (he : e < 32) : bt (whoM Y N) e = (decide (e < nC Y) && decide (¬ N 5 e = -1)) := bt_rf _ _ (by have := hn.C6; omega) e he
/-- the class's foresight -/
def For (Y N : YT) (n : Nat) (M : Mem) : Prop := ∀ a, a < n → M.1 102 a = calm Y N a ∧ M.1 103 a = mouM Y N a (nC Y)
theorem sp179 (hY : IY Y M) (hN : IN Y t N M) : Hm (evD (d + 8) 179 [vR 0 0 100] M) (fun r M' => r = none ∧ For Y N (nA Y) M' ∧ Fr ScW M M') := by
  have h6 := hY.n.A6
  have hC := hY.n.C6
  have ht := hN.t
  rw [e179]; simp only [lp0_eq]
  refine lp_for (d := d + 7) (x := 179) (pc := 2) (nA Y) 20 0 (by omega) (fun i lv M' => ∃ o, lv = [some (vR 0 0 100), some (vI (Int32.ofNat i)), o] ∧ For Y N i M' ∧ Fr ScW M M') ?_ ?_ (nA Y) 0 (by omega) 20000 _ M (by omega) ⟨_, rfl, fun a ha => by omega, Fr.rf⟩
  · rintro i hi G lv M' - ⟨o, rfl, hf, hs⟩ z
    have hY' := hY.sc hs
    have hN' := hN.sc h6 hs
    have inner : ∀ (M1 : Mem), Fr ScW M M1 → M1.1 102 i = calm Y N i → M1.1 103 i = 0 → For Y N i M1 → Hm (lp (d + 7) 179 (G + 19) 69 [some (vR 0 0 100), some (vI (Int32.ofNat i)), some (vI 0)] M1) (fun r M' => r = none ∧ For Y N (nA Y) M' ∧ Fr ScW M M') := by
      intro M1 f1 c1 m1 hf1
      refine lp_for (d := d + 7) (x := 179) (pc := 69) (nC Y) 1 G (by omega) (fun j lv M2 => lv = [some (vR 0 0 100), some (vI (Int32.ofNat i)), some (vI (Int32.ofNat j))] ∧ M2.1 102 i = calm Y N i ∧ M2.1 103 i = mouM Y N i j ∧ For Y N i M2 ∧ Fr ScW M M2) ?_ ?_ (nC Y) 0 (by omega) _ _ M1 (by omega) ⟨rfl, c1, m1, hf1, f1⟩
      · rintro j hj G2 lv M2 hG2 ⟨rfl, c2, m2, hf2, f2⟩ z2
        have hY2 := hY.sc f2
        have hN2 := hN.sc h6 f2
        have keep : ∀ v, For Y N i (sI M2 103 i v) := fun v a ha => by
          have := hf2 a ha
          simp (disch := omega) only [sI_eq, sI_eq', sI_ne, sJ_1, sR_1]; exact this
        simp (disch := omega) only [e179_69, i_nat, Nat.add_zero, Nat.not_lt_zero, i_neg, i_lt, i_le, i_eq, i_add, i_addl, i_addr, i_mulr, i_mull, i_subl, i_pred, i_ltl, i_ltr, i_eql, i_em1, cIn_s, cVd_s, cLo_s, ic_true, ic_false, ic_same, i10, eq_self, b2_0, b2_1, b2_and, b2_t, b2_f, ck', hY2.c, hY2.n.C, hj, hN2.c.n, m2]
        refine Hm_ic (fun h => ?_) (fun h => ?_)
        · refine z2 _ _ _ (by omega) ⟨rfl, by simp (disch := omega) only [sI_eq, sI_eq', sI_ne, sJ_1, sR_1, c2], ?_, keep _, f2.sI (by unfold ScW; omega)⟩
          rw [sI_eq]; simp [mouM, rf, h]
        · refine z2 _ _ _ (by omega) ⟨rfl, by simp (disch := omega) only [sI_eq, sI_eq', sI_ne, sJ_1, sR_1, c2], ?_, keep _, f2.sI (by unfold ScW; omega)⟩
          rw [sI_eq]; simp [mouM, rf, h]
      · rintro G2 lv M2 hG2 ⟨rfl, c2, m2, hf2, f2⟩
        have hY2 := hY.sc f2
        simp (disch := omega) only [e179_69, i_nat, Nat.add_zero, Nat.not_lt_zero, i_neg, i_lt, i_le, i_eq, i_add, i_addl, i_addr, i_mulr, i_mull, i_subl, i_pred, i_ltl, i_ltr, i_eql, i_em1, cIn_s, cVd_s, cLo_s, ic_true, ic_false, ic_same, i10, eq_self, b2_0, b2_1, b2_and, b2_t, b2_f, ck', hY2.c, hY2.n.C, Nat.lt_irrefl]
        refine z _ _ _ (by omega) ⟨_, rfl, fun a ha => ?_, f2⟩
        by_cases y : a = i
        · subst y; exact ⟨c2, m2⟩
        · exact hf2 a (by omega)
    have keep : ∀ M1 v, Fr (fun c _ => c = 22) M' M1 → For Y N i (sI (sI M1 102 i v) 103 i 0) := fun M1 v f1 a ha => by
      have := hf a ha
      simp (disch := omega) only [sI_eq, sI_eq', sI_ne, sJ_1, sR_1]
      rw [f1.i (by omega), f1.i (by omega)]; exact this
    simp (disch := omega) only [e179_2, i_nat, Nat.add_zero, Nat.not_lt_zero, i_neg, i_lt, i_le, i_eq, i_add, i_addl, i_addr, i_mulr, i_mull, i_subl, i_pred, i_ltl, i_ltr, i_eql, i_em1, cIn_s, cVd_s, cLo_s, ic_true, ic_false, ic_same, i10, eq_self, b2_0, b2_1, b2_and, b2_t, b2_f, ck', hY'.c, hY'.n.A, hi, sp97 hN'.c]
    cases hu : up N i
    · simp only [cIn_s, cVd_s, cLo_s, ic_true, ic_false, ic_same]
      exact inner _ ((hs.sI (by unfold ScW; omega)).sI (by unfold ScW; omega)) (by simp (disch := omega) only [sI_eq, sI_eq', sI_ne, sJ_1, sR_1]; simp [calm, hu]) (by rw [sI_eq]) (keep M' 0 Fr.rf)
    · simp only [cIn_s, cVd_s, cLo_s, ic_true, ic_false, ic_same, Bool.true_eq_false]
      refine Hm_cIv (sp100 hY'.c hY'.n hY'.l hN'.c hN'.i (by omega) hi hu) (fun M1 f1 => ?_)
      simp (disch := omega) only [sp21, cIn_s, hN'.c.n]
      exact inner _ (((hs.tr (W22 f1)).sI (by unfold ScW; omega)).sI (by unfold ScW; omega)) (by simp (disch := omega) only [sI_eq, sI_eq', sI_ne, sJ_1, sR_1]; simp [calm, hu]) (by rw [sI_eq]) (keep M1 _ f1)
  · rintro G lv M' - ⟨o, rfl, hf, hs⟩
    have hY' := hY.sc hs
    simp (disch := omega) only [e179_2, i_nat, Nat.add_zero, Nat.not_lt_zero, i_neg, i_lt, i_le, i_eq, i_add, i_addl, i_addr, i_mulr, i_mull, i_subl, i_pred, i_ltl, i_ltr, i_eql, i_em1, cIn_s, cVd_s, cLo_s, ic_true, ic_false, ic_same, i10, eq_self, b2_0, b2_1, b2_and, b2_t, b2_f, ck', hY'.c, hY'.n.A, Nat.lt_irrefl]
    exact Hm_some ⟨rfl, hf, hs⟩
theorem sp181 (hn : YN Y) (hI : SI Y t N) (hF : For Y N (nA Y) M) (ha : a < nA Y) : evD (d + 2) 181 [vR 0 0 100, vI (Int32.ofNat a), vI set] M = some (some (vI (Int32.ofNat (ftB Y N a set))), M) := by
  have h6 := hn.A6
  have hC := hn.C6
  obtain ⟨h1, h2⟩ := hF a ha
  have hb : ∀ e, 6 ≤ e → e < 32 → bt (mouM Y N a (nC Y) &&& set) e = false := fun e q1 q2 => by
    rw [bt_and, bt_mou (by omega) q2]; simp; omega
  have hs : sm (fun e => if bt (mouM Y N a (nC Y) &&& set) e then 1 else 0) 6 = brc Y N a set (nC Y) := by
    obtain ⟨j, hj⟩ : ∃ j, 6 = nC Y + j := ⟨6 - nC Y, by omega⟩
    rw [hj, sm_cut j (fun e he => ?_)]
    · refine sm_cong _ (fun e he => ?_)
      rw [bt_and, bt_mou (by omega) (by omega), Bool.and_comm]
      simp [he]
    · by_cases q : e < 32
      · rw [bt_and, bt_mou (by omega) q]; simp; omega
      · simp [bt, BitVec.getLsbD_of_ge _ e (show 32 ≤ e by omega)]
  simp (disch := omega) only [e181, i_nat, Nat.add_zero, Nat.not_lt_zero, i_neg, i_lt, i_le, i_eq, i_add, i_addl, i_addr, i_mulr, i_mull, i_subl, i_pred, i_ltl, i_ltr, i_eql, i_em1, cIn_s, cVd_s, cLo_s, ic_true, ic_false, ic_same, i10, eq_self, b2_0, b2_1, b2_and, b2_t, b2_f, ck', h2, sp145 hb, hs, h1, sp21, (ftB_eq hn hI ha).1]
theorem sp180 (hY : IY Y M) (hN : IN Y t N M) (hF : For Y N (nA Y) M) : evD (d + 3) 180 [vR 0 0 100, vI set] M = some (some (vI (b2 (tld Y N set (nA Y)))), M) := by
  have h6 := hY.n.A6
  have h : Hm (evD (d + 3) 180 [vR 0 0 100, vI set] M) (fun r M' => r = some (vI (b2 (tld Y N set (nA Y)))) ∧ M' = M) := by
    rw [e180]; simp only [lp0_eq]
    refine lp_for (d := d + 2) (x := 180) (pc := 2) (nA Y) 1 0 (by omega) (fun i lv M' => lv = [some (vR 0 0 100), some (vI set), some (vI (Int32.ofNat i))] ∧ M' = M ∧ tld Y N set i = true) ?_ ?_ (nA Y) 0 (by omega) 20000 _ M (by omega) ⟨rfl, rfl, by simp [tld]⟩
    · rintro i hi G lv M' - ⟨rfl, rfl, hq⟩ z
      have step : (N 6 i = -1 ∨ N 6 i = Int32.ofNat (ftB Y N i set)) → tld Y N set (i + 1) = true := fun h => by
        unfold tld at *
        simp only [decide_eq_true_eq] at *
        intro a ha
        by_cases y : a = i
        · subst y; exact h
        · exact hq a (by omega)
      simp (disch := omega) only [e180_2, i_nat, Nat.add_zero, Nat.not_lt_zero, i_neg, i_lt, i_le, i_eq, i_add, i_addl, i_addr, i_mulr, i_mull, i_subl, i_pred, i_ltl, i_ltr, i_eql, i_em1, cIn_s, cVd_s, cLo_s, ic_true, ic_false, ic_same, i10, eq_self, b2_0, b2_1, b2_and, b2_t, b2_f, ck', hY.c, hY.n.A, hi, hN.c.n, sp181 hY.n hN.i hF hi]
      refine Hm_ic (fun h => ?_) (fun h => Hm_ic (fun h2 => ?_) (fun h2 => ?_))
      · exact z _ _ _ (by omega) ⟨rfl, rfl, step (.inl h)⟩
      · exact z _ _ _ (by omega) ⟨rfl, rfl, step (.inr h2)⟩
      · refine Hm_some ⟨?_, rfl⟩
        have : tld Y N set (nA Y) = false := by
          simp only [tld, decide_eq_false_iff_not]
          intro k; rcases k i hi with k | k
          · exact h k
          · exact h2 k
        rw [this]; rfl
    · rintro G lv M' - ⟨rfl, rfl, hq⟩
      simp (disch := omega) only [e180_2, i_nat, Nat.add_zero, Nat.not_lt_zero, i_neg, i_lt, i_le, i_eq, i_add, i_addl, i_addr, i_mulr, i_mull, i_subl, i_pred, i_ltl, i_ltr, i_eql, i_em1, cIn_s, cVd_s, cLo_s, ic_true, ic_false, ic_same, i10, eq_self, b2_0, b2_1, b2_and, b2_t, b2_f, ck', hY.c, hY.n.A, Nat.lt_irrefl]
      exact Hm_some ⟨by rw [hq]; rfl, rfl⟩
  obtain ⟨a, M', h1, h2, h3⟩ := h
  rw [h1, h2, h3]
/-- the sets that fit, in a row -/
def fitA (Y N : YT) : Nat → Nat × (Nat → Nat) := rf (fun g k => if fit Y N k then (g.1 + 1, un g.2 g.1 k) else g) (0, fun _ => 0)
theorem fitA_le : ∀ n, (fitA Y N n).1 ≤ n
  | 0 => Nat.le_refl _
  | n + 1 => by
    have ih := fitA_le n
    have e : fitA Y N (n + 1) = if fit Y N n then ((fitA Y N n).1 + 1, un (fitA Y N n).2 (fitA Y N n).1 n) else fitA Y N n := rfl
    rw [e]; split
    · show (fitA Y N n).1 + 1 ≤ n + 1; omega
    · omega
theorem fitA_fold {α : Type} {f : α → Nat → α} {x0 : α} : ∀ n, rf (fun x i => f x ((fitA Y N n).2 i)) x0 (fitA Y N n).1 = rf (fun x k => if fit Y N k then f x k else x) x0 n
  | 0 => rfl
  | n + 1 => by
    have ih := fitA_fold (f := f) (x0 := x0) n
    have e : fitA Y N (n + 1) = if fit Y N n then ((fitA Y N n).1 + 1, un (fitA Y N n).2 (fitA Y N n).1 n) else fitA Y N n := rfl
    rw [e]
    simp only [rf]
    cases hf : fit Y N n
    · simp only [Bool.false_eq_true, if_false]; exact ih
    · simp only [if_true, rf]
      rw [← ih]
      have h1 : un (fitA Y N n).2 (fitA Y N n).1 n (fitA Y N n).1 = n := by unfold un; rw [if_pos rfl]
      rw [h1]
      congr 1
      refine rf_cong _ (fun y i hi => ?_)
      unfold un; rw [if_neg (by omega)]
end RO9
