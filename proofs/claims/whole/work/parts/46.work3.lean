/-! work: the class's tables -/
section WORK3
variable {Y N S T : YT} {t a s n c b d e u k j i m W : Nat} {M : Mem} {p q x f set props deg : Int32} {wk : Nat → Nat} {tk : Nat → Int32} {cr cr' : Nat → Bool}
theorem wkA_stop (h : (wkA N n).1 = 4) : ∀ j, wkA N (n + j) = wkA N n
  | 0 => rfl
  | j + 1 => by
    have ih := wkA_stop h j
    show wkA N (n + j + 1) = _
    rw [wkA_s, ih, h]; rfl
def WM (N : YT) (n : Nat) (M : Mem) : Prop := M.1 69 5 = Int32.ofNat (wkA N n).1 ∧ ∀ k, k < (wkA N n).1 → M.1 72 k = Int32.ofNat ((wkA N n).2 k)
theorem sp155 (hY : IY Y M) (hN : IN Y t N M) : Hm (evD (d + 2) 155 [vR 3 0 69] M) (fun r M' => r = none ∧ WM N (nC Y) M' ∧ Fr (fun c j => (c = 69 ∧ j = 5) ∨ c = 72) M M') := by
  have h6 := hY.n.A6
  have hC := hY.n.C6
  rw [e155]; simp only [lp0_eq]
  refine lp_for (d := d + 1) (x := 155) (pc := 7) (nC Y) 1 0 (by omega) (fun i lv M' => lv = [some (vR 3 0 69), some (vI (Int32.ofNat i))] ∧ WM N i M' ∧ Fr (fun c j => (c = 69 ∧ j = 5) ∨ c = 72) M M') ?_ ?_ (nC Y) 0 (by omega) 20000 _ _ (by omega) ⟨rfl, ⟨by rw [sI_eq]; rfl, fun k hk => absurd hk (Nat.not_lt_zero _)⟩, Fr.rf.sI (by omega)⟩
  · rintro i hi G lv M' - ⟨rfl, ⟨w1, w2⟩, hf⟩ z
    have hY' : IY Y M' := hY.fr hf (fun c j hc => by unfold yc at *; omega)
    have hN' : IN Y t N M' := hN.fr h6 hf (fun c j hc => by omega)
    have iv := wkA_inv (N := N) i
    have es := wkA_s (N := N) (n := i)
    simp (disch := omega) only [e155_7, i_nat, Nat.add_zero, Nat.not_lt_zero, i_neg, i_lt, i_le, i_eq, i_add, i_addl, i_addr, i_mulr, i_mull, i_subl, i_pred, i_ltl, i_ltr, i_eql, i_em1, cIn_s, cVd_s, cLo_s, ic_true, ic_false, ic_same, i10, eq_self, b2_0, b2_1, b2_and, b2_t, b2_f, ck', hY'.c, hY'.n.C, hi, w1, hN'.c.n, sp64]
    by_cases h4 : (wkA N i).1 < 4
    · simp only [h4, ic_true]
      cases hb : bt (N 0 9) i
      · have e1 : wkA N (i + 1) = ((wkA N i).1 + 1, un (wkA N i).2 (wkA N i).1 i) := by rw [es, hb]; simp [h4]
        simp (disch := omega) only [ic_true, ck', sI_eq, sI_eq', sI_ne, sJ_1, sR_1, w1, i_addl]
        refine z _ _ _ (by omega) ⟨rfl, ?_, (hf.sI (by omega)).sI (by omega)⟩
        unfold WM; rw [e1]
        refine ⟨by rw [sI_eq], fun k hk => ?_⟩
        dsimp only at hk ⊢
        by_cases y : k = (wkA N i).1
        · subst y; simp (disch := omega) only [sI_eq, sI_eq', sI_ne, sJ_1, sR_1]; unfold un; rw [if_pos rfl]
        · simp (disch := omega) only [sI_eq, sI_eq', sI_ne, sJ_1, sR_1]; unfold un; rw [if_neg y]; exact w2 k (by omega)
      · have e1 : wkA N (i + 1) = wkA N i := by rw [es, hb]; simp
        simp only [Bool.true_eq_false, ic_false]
        exact z _ _ _ (by omega) ⟨rfl, by unfold WM; rw [e1]; exact ⟨w1, w2⟩, hf⟩
    · have e4 : (wkA N i).1 = 4 := by omega
      have e5 := wkA_stop e4 (nC Y - i)
      rw [show i + (nC Y - i) = nC Y by omega] at e5
      simp only [h4, ic_false]
      exact Hm_some ⟨rfl, by unfold WM; rw [e5]; exact ⟨w1, w2⟩, hf⟩
  · rintro G lv M' - ⟨rfl, hw, hf⟩
    have hY' : IY Y M' := hY.fr hf (fun c j hc => by unfold yc at *; omega)
    simp (disch := omega) only [e155_7, i_nat, Nat.add_zero, Nat.not_lt_zero, i_neg, i_lt, i_le, i_eq, i_add, i_addl, i_addr, i_mulr, i_mull, i_subl, i_pred, i_ltl, i_ltr, i_eql, i_em1, cIn_s, cVd_s, cLo_s, ic_true, ic_false, ic_same, i10, eq_self, b2_0, b2_1, b2_and, b2_t, b2_f, ck', hY'.c, hY'.n.C, Nat.lt_irrefl]
    exact Hm_some ⟨rfl, hw, hf⟩
/-- the acts that stand -/
def sdA (N : YT) : Nat → Nat × (Nat → Nat) := rf (fun g a => if up N a then (g.1 + 1, un g.2 g.1 a) else g) (0, fun _ => 0)
theorem sdA_s : sdA N (n + 1) = if up N n then ((sdA N n).1 + 1, un (sdA N n).2 (sdA N n).1 n) else sdA N n := rfl
theorem sdA_inv : ∀ n, (sdA N n).1 ≤ n ∧ ∀ k, k < (sdA N n).1 → (sdA N n).2 k < n ∧ up N ((sdA N n).2 k) = true ∧ ∀ k', k' < k → (sdA N n).2 k' < (sdA N n).2 k
  | 0 => ⟨Nat.le_refl _, fun k hk => absurd hk (Nat.not_lt_zero _)⟩
  | n + 1 => by
    obtain ⟨i2, i3⟩ := sdA_inv n
    rw [sdA_s]
    generalize sdA N n = g at *
    split
    · rename_i h
      refine ⟨by dsimp only; omega, fun k hk => ?_⟩
      dsimp only at hk ⊢
      by_cases y : k = g.1
      · subst y
        have e : un g.2 g.1 n g.1 = n := by unfold un; rw [if_pos rfl]
        rw [e]
        refine ⟨by omega, h, fun k' hk' => ?_⟩
        unfold un; rw [if_neg (by omega)]; exact (i3 k' hk').1
      · obtain ⟨q1, q2, q3⟩ := i3 k (by omega)
        have e : un g.2 g.1 n k = g.2 k := by unfold un; rw [if_neg y]
        rw [e]
        refine ⟨by omega, q2, fun k' hk' => ?_⟩
        unfold un; rw [if_neg (by omega)]; exact q3 k' hk'
    · exact ⟨by omega, fun k hk => ⟨by have := (i3 k hk).1; omega, (i3 k hk).2⟩⟩
def SDM (N : YT) (n : Nat) (M : Mem) : Prop := M.1 69 7 = Int32.ofNat (sdA N n).1 ∧ ∀ k, k < (sdA N n).1 → M.1 73 k = Int32.ofNat ((sdA N n).2 k)
theorem sp156 (hY : IY Y M) (hN : IN Y t N M) : Hm (evD (d + 3) 156 [vR 3 0 69] M) (fun r M' => r = none ∧ SDM N (nA Y) M' ∧ Fr (fun c j => (c = 69 ∧ j = 7) ∨ c = 73) M M') := by
  have h6 := hY.n.A6
  rw [e156]; simp only [lp0_eq]
  refine lp_for (d := d + 2) (x := 156) (pc := 7) (nA Y) 1 0 (by omega) (fun i lv M' => lv = [some (vR 3 0 69), some (vI (Int32.ofNat i))] ∧ SDM N i M' ∧ Fr (fun c j => (c = 69 ∧ j = 7) ∨ c = 73) M M') ?_ ?_ (nA Y) 0 (by omega) 20000 _ _ (by omega) ⟨rfl, ⟨by rw [sI_eq]; rfl, fun k hk => absurd hk (Nat.not_lt_zero _)⟩, Fr.rf.sI (by omega)⟩
  · rintro i hi G lv M' - ⟨rfl, ⟨w1, w2⟩, hf⟩ z
    have hY' : IY Y M' := hY.fr hf (fun c j hc => by unfold yc at *; omega)
    have hN' : IN Y t N M' := hN.fr h6 hf (fun c j hc => by omega)
    have iv := (sdA_inv (N := N) i).1
    have es := sdA_s (N := N) (n := i)
    simp (disch := omega) only [e156_7, i_nat, Nat.add_zero, Nat.not_lt_zero, i_neg, i_lt, i_le, i_eq, i_add, i_addl, i_addr, i_mulr, i_mull, i_subl, i_pred, i_ltl, i_ltr, i_eql, i_em1, cIn_s, cVd_s, cLo_s, ic_true, ic_false, ic_same, i10, eq_self, b2_0, b2_1, b2_and, b2_t, b2_f, ck', hY'.c, hY'.n.A, hi, sp97 hN'.c]
    cases hb : up N i
    · have e1 : sdA N (i + 1) = sdA N i := by rw [es, hb]; rfl
      simp only [ic_true]
      exact z _ _ _ (by omega) ⟨rfl, by unfold SDM; rw [e1]; exact ⟨w1, w2⟩, hf⟩
    · have e1 : sdA N (i + 1) = ((sdA N i).1 + 1, un (sdA N i).2 (sdA N i).1 i) := by rw [es, hb]; rfl
      simp (disch := omega) only [Bool.true_eq_false, ic_false, w1, i_nat, Nat.add_zero, Nat.not_lt_zero, i_neg, i_lt, i_le, i_eq, i_add, i_addl, i_addr, i_mulr, i_mull, i_subl, i_pred, i_ltl, i_ltr, i_eql, i_em1, cIn_s, cVd_s, cLo_s, ic_true, ic_false, ic_same, i10, eq_self, b2_0, b2_1, b2_and, b2_t, b2_f, ck', sI_eq, sI_eq', sI_ne, sJ_1, sR_1]
      refine z _ _ _ (by omega) ⟨rfl, ?_, (hf.sI (by omega)).sI (by omega)⟩
      unfold SDM; rw [e1]
      refine ⟨by rw [sI_eq], fun k hk => ?_⟩
      dsimp only at hk ⊢
      by_cases y : k = (sdA N i).1
      · subst y; simp (disch := omega) only [sI_eq, sI_eq', sI_ne, sJ_1, sR_1]; unfold un; rw [if_pos rfl]
      · simp (disch := omega) only [sI_eq, sI_eq', sI_ne, sJ_1, sR_1]; unfold un; rw [if_neg y]; exact w2 k (by omega)
  · rintro G lv M' - ⟨rfl, hw, hf⟩
    have hY' : IY Y M' := hY.fr hf (fun c j hc => by unfold yc at *; omega)
    simp (disch := omega) only [e156_7, i_nat, Nat.add_zero, Nat.not_lt_zero, i_neg, i_lt, i_le, i_eq, i_add, i_addl, i_addr, i_mulr, i_mull, i_subl, i_pred, i_ltl, i_ltr, i_eql, i_em1, cIn_s, cVd_s, cLo_s, ic_true, ic_false, ic_same, i10, eq_self, b2_0, b2_1, b2_and, b2_t, b2_f, ck', hY'.c, hY'.n.A, Nat.lt_irrefl]
    exact Hm_some ⟨rfl, hw, hf⟩
theorem losF_lt (hI : SI Y b N) (ha : a < nA Y) {v : Int32} (hv : rg v 0 20) : (v < N 1 a) ↔ losF N a v = false := by
  have hr := (hI.a ha).2.2.2.1
  unfold rg at hr hv
  unfold losF
  simp only [Bool.not_eq_false', decide_eq_true_eq]
  rw [t_lt, t_lt, t_max, t_sub (by omega) (by omega), t_0]; omega
theorem sp158 (hY : IY Y M) (hN : IN Y t N M) (hc : c < 6) (hi : i < 1000) : Hm (evD (d + 6) 158 [vR 3 0 69, vI (Int32.ofNat c), vI (Int32.ofNat i)] M) (fun r M' => r = some (vI (b2 (okW Y N c i))) ∧ Fr (fun c _ => c = 22) M M') := by
  have h6 := hY.n.A6
  have ht := hN.t
  simp (disch := omega) only [e158, i_nat, Nat.add_zero, Nat.not_lt_zero, i_neg, i_lt, i_le, i_eq, i_add, i_addl, i_addr, i_mulr, i_mull, i_subl, i_pred, i_ltl, i_ltr, i_eql, i_em1, cIn_s, cVd_s, cLo_s, ic_true, ic_false, ic_same, i10, eq_self, b2_0, b2_1, b2_and, b2_t, b2_f, ck', hN.c.n]
  rcases hN.i.c hc with z | ⟨e, he, z⟩
  · rw [ic_t z]
    refine Hm_some ⟨?_, Fr.rf⟩
    unfold okW; rw [z]; simp [b2]
  · have nm1 : ¬ Int32.ofNat e = -1 := by rw [i_em1 (by omega)]; exact id
    have hmv := hY.n.mC he
    have hC := hY.n.C6
    rw [z, ic_f nm1]
    have ok : okW Y N c i = (decide (i ≠ 0) && !(decide (mv Y e = c) && up N e && losF N e (melT Y N e 0))) := by
      unfold okW; rw [z, i_nat (by omega)]; simp [nm1]
    rw [ok]
    by_cases y : i = 0
    · subst y
      rw [ic_t rfl]
      exact Hm_some ⟨by simp [b2], Fr.rf⟩
    · simp (disch := omega) only [i_nat, Nat.add_zero, Nat.not_lt_zero, i_neg, i_lt, i_le, i_eq, i_add, i_addl, i_addr, i_mulr, i_mull, i_subl, i_pred, i_ltl, i_ltr, i_eql, i_em1, cIn_s, cVd_s, cLo_s, ic_true, ic_false, ic_same, i10, eq_self, b2_0, b2_1, b2_and, b2_t, b2_f, ck', y, hY.c, hY.n.m he, sp97 hN.c]
      refine Hm_ic (fun hm => ?_) (fun hm => ?_)
      · cases hu : up N e
        · simp only [ic_true]
          exact Hm_some ⟨by simp [b2, y], Fr.rf⟩
        · simp only [Bool.true_eq_false, ic_false]
          refine Hm_cIv (sp100 hY.c hY.n hY.l hN.c hN.i (by omega) he hu) (fun M1 f1 => ?_)
          have hN1 : IN Y t N M1 := hN.fr h6 f1 (fun c j hc => by omega)
          have hrv := melT_rg (m := 0) hN.i he
          have hl := losF_lt hN.i he (v := melT Y N e 0) ⟨hrv.1, by have := hrv.2; omega⟩
          simp (disch := omega) only [i_nat, Nat.add_zero, Nat.not_lt_zero, i_neg, i_lt, i_le, i_eq, i_add, i_addl, i_addr, i_mulr, i_mull, i_subl, i_pred, i_ltl, i_ltr, i_eql, i_em1, cIn_s, cVd_s, cLo_s, ic_true, ic_false, ic_same, i10, eq_self, b2_0, b2_1, b2_and, b2_t, b2_f, ck', hN1.c.n]
          refine Hm_ic (fun h => ?_) (fun h => ?_)
          · have := hl.mp h
            exact Hm_some ⟨by rw [this]; simp [b2, y], f1⟩
          · have : losF N e (melT Y N e 0) = true := by
              cases q : losF N e (melT Y N e 0)
              · exact absurd (hl.mpr q) h
              · rfl
            exact Hm_some ⟨by rw [this]; simp [b2, hm], f1⟩
      · exact Hm_some ⟨by simp [b2, y, hm], Fr.rf⟩
/-- what an act brings by its crew -/
def wbc (Y N : YT) (W : Nat) (wk : Nat → Nat) (cr : Nat → Bool) (a n : Nat) : Nat := match crw Y N W wk cr a n with
  | none => 0
  | some g => if g.2 < needs Y a then 0 else (Y 16 a).toNatClampNeg
theorem crw_none (h : crw Y N W wk cr a i = none) : ∀ j, crw Y N W wk cr a (i + j) = none
  | 0 => h
  | j + 1 => by
    have ih := crw_none h j
    show (match crw Y N W wk cr a (i + j) with
      | none => none
      | some (u, dn) => if 0 < u - melP Y a (spt N a) u (N 3 a) (warm Y (nnt N + (i + j))) then some (u - melP Y a (spt N a) u (N 3 a) (warm Y (nnt N + (i + j))), dnE Y N wk cr a (i + j) u dn W) else none) = none
    rw [ih]
theorem wbc_bd (hG : YG Y) (ha : a < nA Y) : wbc Y N W wk cr a n ≤ 99 := by
  unfold wbc
  split
  · omega
  · split
    · omega
    · exact rg_le (hG.1 a ha).2.2
theorem sp157 (hY : IY Y M) (hN : IN Y t N M) (hW : WM N (nC Y) M) (ha : a < nA Y) (hu : up N a = true) (hs : s < 16) (hn : n ≤ 6) :
    Hm (evD (d + 8) 157 [vR 3 0 69, vI (Int32.ofNat a), vI (Int32.ofNat s), vI (Int32.ofNat n)] M) (fun r M' => r = some (vI (Int32.ofNat (wbc Y N (wkA N (nC Y)).1 (wkA N (nC Y)).2 (fun k => s.testBit k) a n))) ∧ Fr (fun c _ => c = 22 ∨ c = 25) M M') := by
  have h6 := hY.n.A6
  have hC := hY.n.C6
  have hB := hY.n.B6
  have ht := hN.t
  have hnb := hN.i.nb
  have hg := (hY.g.1 a ha).2.2
  obtain ⟨e4, es4, -⟩ := hN.i.sp ha hu
  have iv := wkA_inv (N := N) (nC Y)
  generalize hWd : (wkA N (nC Y)).1 = W at *
  generalize hwd : (wkA N (nC Y)).2 = wk at *
  simp (disch := omega) only [e157, i_nat, Nat.add_zero, Nat.not_lt_zero, i_neg, i_lt, i_le, i_eq, i_add, i_addl, i_addr, i_mulr, i_mull, i_subl, i_pred, i_ltl, i_ltr, i_eql, i_em1, cIn_s, cVd_s, cLo_s, ic_true, ic_false, ic_same, i10, eq_self, b2_0, b2_1, b2_and, b2_t, b2_f, ck', sp95 hY.c, hN.c.n, lp0_eq]
  refine lp_for (d := d + 7) (x := 157) (pc := 35) n 20 0 (by omega) (fun i lv M' => ∃ o8 u dn, lv = [some (vR 3 0 69), some (vI (Int32.ofNat a)), some (vI (Int32.ofNat s)), some (vI (Int32.ofNat n)), some (vI u), some (vI dn), some (vI (needs Y a)), some (vI (Int32.ofNat i)), o8] ∧ crw Y N W wk (fun k => s.testBit k) a i = some (u, dn) ∧ Fr (fun c _ => c = 22 ∨ c = 25) M M') ?_ ?_ n 0 (by omega) 20000 _ M (by omega) ⟨_, _, _, rfl, rfl, Fr.rf⟩
  · rintro i hi G lv M' - ⟨o8, u, dn, rfl, hcr, hf⟩ z
    simp (disch := omega) only [e157_35, i_nat, Nat.add_zero, Nat.not_lt_zero, i_neg, i_lt, i_le, i_eq, i_add, i_addl, i_addr, i_mulr, i_mull, i_subl, i_pred, i_ltl, i_ltr, i_eql, i_em1, cIn_s, cVd_s, cLo_s, ic_true, ic_false, ic_same, i10, eq_self, b2_0, b2_1, b2_and, b2_t, b2_f, ck', hi]
    refine lp_for (d := d + 7) (x := 157) (pc := 44) W 1 (G + 1) (by omega) (fun j lv M2 => lv = [some (vR 3 0 69), some (vI (Int32.ofNat a)), some (vI (Int32.ofNat s)), some (vI (Int32.ofNat n)), some (vI u), some (vI (dnE Y N wk (fun k => s.testBit k) a i u dn j)), some (vI (needs Y a)), some (vI (Int32.ofNat i)), some (vI (Int32.ofNat j))] ∧ Fr (fun c _ => c = 22 ∨ c = 25) M M2) ?_ ?_ W 0 (by omega) _ _ M' (by omega) ⟨rfl, hf⟩
    · rintro j hj G2 lv M2 hG2 ⟨rfl, f2⟩ z2
      have hY2 : IY Y M2 := hY.fr f2 (fun c j hc => by unfold yc at *; omega)
      have hN2 : IN Y t N M2 := hN.fr h6 f2 (fun c j hc => by omega)
      have w5 : M2.1 69 5 = Int32.ofNat W := by rw [f2.i (by omega), hW.1, hWd]
      have w7 : M2.1 72 j = Int32.ofNat (wk j) := by rw [f2.i (by omega), hW.2 j (by omega), hwd]
      obtain ⟨v1, v2, -⟩ := iv.2.2 j hj
      have es : dnE Y N wk (fun k => s.testBit k) a i u dn (j + 1) = if s.testBit j && decide (dnE Y N wk (fun k => s.testBit k) a i u dn j < needs Y a) && okW Y N (wk j) i then chp Y (wk j) u (dnE Y N wk (fun k => s.testBit k) a i u dn j) else dnE Y N wk (fun k => s.testBit k) a i u dn j := rfl
      rw [es] at z2
      generalize dnE Y N wk (fun k => s.testBit k) a i u dn j = dj at *
      simp (disch := omega) only [e157_44, i_nat, Nat.add_zero, Nat.not_lt_zero, i_neg, i_lt, i_le, i_eq, i_add, i_addl, i_addr, i_mulr, i_mull, i_subl, i_pred, i_ltl, i_ltr, i_eql, i_em1, cIn_s, cVd_s, cLo_s, ic_true, ic_false, ic_same, i10, eq_self, b2_0, b2_1, b2_and, b2_t, b2_f, ck', w5, hj, sp64, bt_nat]
      cases hb : s.testBit j
      · simp only [ic_true]
        exact z2 _ _ _ (by omega) ⟨by simp [hb], f2⟩
      · simp only [Bool.true_eq_false, ic_false]
        refine Hm_ic (fun h1 => ?_) (fun h1 => ?_)
        · simp only [w7]
          refine Hm_cIv (sp158 hY2 hN2 (by omega) (by omega)) (fun M3 f3 => ?_)
          have hY3 : IY Y M3 := hY2.fr f3 (fun c j hc => by unfold yc at *; omega)
          have w73 : M3.1 72 j = Int32.ofNat (wk j) := by rw [f3.i (by omega), w7]
          have f3' := f2.tr (f3.up (fun c j h => .inl h))
          simp (disch := omega) only [b2_0, w73, i_nat, Nat.add_zero, Nat.not_lt_zero, i_neg, i_lt, i_le, i_eq, i_add, i_addl, i_addr, i_mulr, i_mull, i_subl, i_pred, i_ltl, i_ltr, i_eql, i_em1, cIn_s, cVd_s, cLo_s, ic_true, ic_false, ic_same, i10, eq_self, b2_0, b2_1, b2_and, b2_t, b2_f, ck']
          cases hk : okW Y N (wk j) i
          · simp only [ic_true]
            exact z2 _ _ _ (by omega) ⟨by simp [hb, hk], f3'⟩
          · simp only [Bool.true_eq_false, ic_false]
            refine Hm_cIv (sp126 hY3.c hY3.l (by omega)) (fun M4 f4 => ?_)
            exact z2 _ _ _ (by omega) ⟨by simp [hb, hk, h1], f3'.tr (f4.up (fun c j h => .inr h))⟩
        · exact z2 _ _ _ (by omega) ⟨by simp [hb, h1], f2⟩
    · rintro G2 lv M2 hG2 ⟨rfl, f2⟩
      have hY2 : IY Y M2 := hY.fr f2 (fun c j hc => by unfold yc at *; omega)
      have hN2 : IN Y t N M2 := hN.fr h6 f2 (fun c j hc => by omega)
      have w5 : M2.1 69 5 = Int32.ofNat W := by rw [f2.i (by omega), hW.1, hWd]
      have ec : crw Y N W wk (fun k => s.testBit k) a (i + 1) = if 0 < u - melP Y a (spt N a) u (N 3 a) (warm Y (nnt N + i)) then some (u - melP Y a (spt N a) u (N 3 a) (warm Y (nnt N + i)), dnE Y N wk (fun k => s.testBit k) a i u dn W) else none := by
        show (match crw Y N W wk (fun k => s.testBit k) a i with
          | none => none
          | some (u, dn) => if 0 < u - melP Y a (spt N a) u (N 3 a) (warm Y (nnt N + i)) then some (u - melP Y a (spt N a) u (N 3 a) (warm Y (nnt N + i)), dnE Y N wk (fun k => s.testBit k) a i u dn W) else none) = _
        rw [hcr]
      simp (disch := omega) only [e157_44, i_nat, Nat.add_zero, Nat.not_lt_zero, i_neg, i_lt, i_le, i_eq, i_add, i_addl, i_addr, i_mulr, i_mull, i_subl, i_pred, i_ltl, i_ltr, i_eql, i_em1, cIn_s, cVd_s, cLo_s, ic_true, ic_false, ic_same, i10, eq_self, b2_0, b2_1, b2_and, b2_t, b2_f, ck', w5, Nat.lt_irrefl, hN2.c.n, hN2.i.n, sp101 hY2.c hY2.n, e4]
      refine Hm_cIv (sp103 hY2.c hY2.l (by omega) (by omega)) (fun M3 f3 => ?_)
      have f3' := f2.tr (f3.up (fun c j h => .inl h))
      refine Hm_ic (fun h => ?_) (fun h => ?_)
      · rw [if_pos h] at ec
        exact z _ _ _ (by omega) ⟨_, _, _, rfl, ec, f3'⟩
      · rw [if_neg h] at ec
        have := crw_none ec (n - (i + 1))
        rw [show i + 1 + (n - (i + 1)) = n by omega] at this
        refine Hm_some ⟨?_, f3'⟩
        unfold wbc; rw [this]; rfl
  · rintro G lv M' - ⟨o8, u, dn, rfl, hcr, hf⟩
    have hY' : IY Y M' := hY.fr hf (fun c j hc => by unfold yc at *; omega)
    simp (disch := omega) only [e157_35, i_nat, Nat.add_zero, Nat.not_lt_zero, i_neg, i_lt, i_le, i_eq, i_add, i_addl, i_addr, i_mulr, i_mull, i_subl, i_pred, i_ltl, i_ltr, i_eql, i_em1, cIn_s, cVd_s, cLo_s, ic_true, ic_false, ic_same, i10, eq_self, b2_0, b2_1, b2_and, b2_t, b2_f, ck', Nat.lt_irrefl, hY'.c]
    refine Hm_ic (fun h => ?_) (fun h => ?_)
    · exact Hm_some ⟨by unfold wbc; rw [hcr]; dsimp only; rw [if_pos h]; rfl, hf⟩
    · exact Hm_some ⟨by unfold wbc; rw [hcr]; dsimp only; rw [if_neg h, ← rg_nat hg], hf⟩
end WORK3
