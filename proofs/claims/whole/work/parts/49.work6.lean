/-! work: the reference's search -/
section WORK6
variable {Y N S T : YT} {t a s n c b d e u k j i m W R x st : Nat} {M : Mem} {p q f set props deg : Int32} {wk sd : Nat → Nat} {tk bk : Nat → Int32} {cr cr' : Nat → Bool}
def TkM (N : YT) (n : Nat) (M : Mem) : Prop := M.1 253 31 = Int32.ofNat (wkA N n).1 ∧ ∀ k, k < (wkA N n).1 → M.1 271 k = Int32.ofNat ((wkA N n).2 k)
theorem sp279 (hY : IY Y M) (hN : IN Y t N M) : Hm (evD (d + 2) 279 [vR 12 0 253] M) (fun r M' => r = none ∧ TkM N (nC Y) M' ∧ Fr (fun c j => (c = 253 ∧ j = 31) ∨ c = 271) M M') := by
  have h6 := hY.n.A6
  have hC := hY.n.C6
  rw [e279]; simp only [lp0_eq]
  refine lp_for (d := d + 1) (x := 279) (pc := 7) (nC Y) 1 0 (by omega) (fun i lv M' => lv = [some (vR 12 0 253), some (vI (Int32.ofNat i))] ∧ TkM N i M' ∧ Fr (fun c j => (c = 253 ∧ j = 31) ∨ c = 271) M M') ?_ ?_ (nC Y) 0 (by omega) 20000 _ _ (by omega) ⟨rfl, ⟨by rw [sI_eq]; rfl, fun k hk => absurd hk (Nat.not_lt_zero _)⟩, Fr.rf.sI (by omega)⟩
  · rintro i hi G lv M' - ⟨rfl, ⟨w1, w2⟩, hf⟩ z
    have hY' : IY Y M' := hY.fr hf (fun c j hc => by unfold yc at *; omega)
    have hN' : IN Y t N M' := hN.fr h6 hf (fun c j hc => by omega)
    have iv := wkA_inv (N := N) i
    have es := wkA_s (N := N) (n := i)
    have k7 := (hN'.r.n.2.2.1 i (by omega)).2
    simp (disch := omega) only [e279_7, sp248 hY'.r hY'.n, i_nat, Nat.add_zero, Nat.not_lt_zero, i_neg, i_lt, i_le, i_eq, i_add, i_addl, i_addr, i_mulr, i_mull, i_subl, i_pred, i_ltl, i_ltr, i_eql, i_em1, cIn_s, cVd_s, cLo_s, ic_true, ic_false, ic_same, i10, eq_self, b2_0, b2_1, b2_and, b2_t, b2_f, ck', hi, k7, w1]
    cases hb : bt (N 0 9) i
    · simp only [ic_true]
      by_cases h4 : (wkA N i).1 < 4
      · have e1 : wkA N (i + 1) = ((wkA N i).1 + 1, un (wkA N i).2 (wkA N i).1 i) := by rw [es, hb]; simp [h4]
        simp (disch := omega) only [h4, ic_true, ck', sI_eq, sI_eq', sI_ne, sJ_1, sR_1, w1, i_addl]
        refine z _ _ _ (by omega) ⟨rfl, ?_, (hf.sI (by omega)).sI (by omega)⟩
        unfold TkM; rw [e1]
        refine ⟨by rw [sI_eq], fun k hk => ?_⟩
        dsimp only at hk ⊢
        by_cases y : k = (wkA N i).1
        · subst y; simp (disch := omega) only [sI_eq, sI_eq', sI_ne, sJ_1, sR_1]; unfold un; rw [if_pos rfl]
        · simp (disch := omega) only [sI_eq, sI_eq', sI_ne, sJ_1, sR_1]; unfold un; rw [if_neg y]; exact w2 k (by omega)
      · have e1 : wkA N (i + 1) = wkA N i := by rw [es]; simp [h4]
        simp only [h4, ic_false]
        exact z _ _ _ (by omega) ⟨rfl, by unfold TkM; rw [e1]; exact ⟨w1, w2⟩, hf⟩
    · have e1 : wkA N (i + 1) = wkA N i := by rw [es, hb]; simp
      simp only [Bool.true_eq_false, ic_false]
      exact z _ _ _ (by omega) ⟨rfl, by unfold TkM; rw [e1]; exact ⟨w1, w2⟩, hf⟩
  · rintro G lv M' - ⟨rfl, hw, hf⟩
    have hY' : IY Y M' := hY.fr hf (fun c j hc => by unfold yc at *; omega)
    simp (disch := omega) only [e279_7, sp248 hY'.r hY'.n, i_nat, Nat.add_zero, Nat.not_lt_zero, i_neg, i_lt, i_le, i_eq, i_add, i_addl, i_addr, i_mulr, i_mull, i_subl, i_pred, i_ltl, i_ltr, i_eql, i_em1, cIn_s, cVd_s, cLo_s, ic_true, ic_false, ic_same, i10, eq_self, b2_0, b2_1, b2_and, b2_t, b2_f, ck', Nat.lt_irrefl]
    exact Hm_some ⟨rfl, hw, hf⟩
/-- the search's memory -/
def WS (Y N : YT) (t W : Nat) (wk : Nat → Nat) (st : Nat) (sd : Nat → Nat) (g : Nat × Nat) (M : Mem) : Prop := IY Y M ∧ IN Y t N M ∧ M.1 253 31 = Int32.ofNat W ∧ (∀ k, k < W → M.1 271 k = Int32.ofNat (wk k)) ∧ M.1 253 32 = Int32.ofNat g.1 - 1 ∧ (g.1 ≠ 0 → ∀ k, k < W → M.1 273 k = tko st sd (dig (st + 1) W g.2 k))
def WW (c j : Nat) : Prop := c = 267 ∨ c = 268 ∨ (c = 269 ∧ 1029 ≤ j) ∨ (c = 253 ∧ j = 32) ∨ c = 273
theorem sdA_sm {F : Nat → Nat} : ∀ n, sm (fun a => if up N a then F a else 0) n = sm (fun i => F ((sdA N n).2 i)) (sdA N n).1
  | 0 => rfl
  | n + 1 => by
    have ih := sdA_sm (F := F) n
    have es := sdA_s (N := N) (n := n)
    simp only [sm]
    rw [ih, es]
    split
    · simp only [sm]
      have e1 : un (sdA N n).2 (sdA N n).1 n (sdA N n).1 = n := by unfold un; rw [if_pos rfl]
      rw [e1]
      congr 1
      exact sm_cong _ (fun i hi => by unfold un; rw [if_neg (by omega)])
    · rw [Nat.add_zero]
theorem val_eq (hN : YN Y) (hI : SI Y b N) (hb : b < 100000) (hn : n ≤ 6) (hW : WK Y N W wk) (hT : TK Y N W tk) (htk : ∀ k, k < W → tk k = tko (sdA N (nA Y)).1 (sdA N (nA Y)).2 (dig ((sdA N (nA Y)).1 + 1) W x k)) : worN Y (force Y (sim Y N W wk tk n)) = vrw Y N W wk (sdA N (nA Y)).1 (sdA N (nA Y)).2 n x := by
  have h6 := hN.A6
  have iv := sdA_inv (N := N) (nA Y)
  obtain ⟨-, -, -, q4, q5, -⟩ := sim_ok (W := W) hN hI hb hW hT n (by omega)
  have e1 : worN Y (force Y (sim Y N W wk tk n)) = sm (fun a => if up N a then wbc Y N W wk (fun k => decide (tk k = Int32.ofNat a)) a n else 0) (nA Y) := by
    refine sm_cong _ (fun a ha => ?_)
    rw [bt_force hN (by omega)]
    simp only [ha, decide_true, Bool.true_and]
    cases hu : up N a
    · have := q4 a ha hu
      simp only [inF, this, Bool.false_and, Bool.false_eq_true, if_false]
    · simp only [if_true]
      rcases q5 a ha hu with ⟨z1, z2⟩ | ⟨u, dn, z1, z2, z3, z4, z5, z6⟩
      · unfold wbc; rw [z1]
        simp only [inF, z2, Bool.false_and, Bool.false_eq_true, if_false]
      · unfold wbc; rw [z1]
        unfold inF isD
        rw [z2, z4]
        by_cases h : dn < needs Y a <;> simp [h]
  rw [e1, sdA_sm (F := fun a => wbc Y N W wk (fun k => decide (tk k = Int32.ofNat a)) a n)]
  unfold vrw
  refine sm_cong _ (fun i hi => ?_)
  refine wbc_cong (fun k hk => ?_)
  rw [decide_eq_decide, htk k hk]
  have hd := dig_lt (R := (sdA N (nA Y)).1 + 1) (W := W) (x := x) (k := k) (by omega)
  have hsi := (iv.2 i hi).1
  unfold tko
  by_cases h : dig ((sdA N (nA Y)).1 + 1) W x k < (sdA N (nA Y)).1
  · rw [if_pos h]
    have hsd := (iv.2 _ h).1
    rw [i_eq (by omega) (by omega)]
    constructor
    · intro z
      rcases Nat.lt_trichotomy (dig ((sdA N (nA Y)).1 + 1) W x k) i with y | y | y
      · have := (iv.2 i hi).2.2 _ y; omega
      · exact y
      · have := (iv.2 _ h).2.2 i y; omega
    · intro z; rw [z]
  · rw [if_neg h]
    constructor
    · intro z
      have := i_em1 (a := (sdA N (nA Y)).2 i) (by omega)
      exact absurd z.symm (by rw [this]; exact id)
    · intro z; omega
theorem sp281 (hn : n ≤ 6) {g : Nat × Nat} (hS : WS Y N t (wkA N (nC Y)).1 (wkA N (nC Y)).2 (sdA N (nA Y)).1 (sdA N (nA Y)).2 g M) (hg : g.1 ≤ 601) (htk : ∀ k, k < (wkA N (nC Y)).1 → M.1 272 k = tko (sdA N (nA Y)).1 (sdA N (nA Y)).2 (dig ((sdA N (nA Y)).1 + 1) (wkA N (nC Y)).1 x k)) :
    Hm (evD (d + 8) 281 [vR 12 0 253, vI (Int32.ofNat n)] M) (fun r M' => r = none ∧ WS Y N t (wkA N (nC Y)).1 (wkA N (nC Y)).2 (sdA N (nA Y)).1 (sdA N (nA Y)).2 (stp (vrw Y N (wkA N (nC Y)).1 (wkA N (nC Y)).2 (sdA N (nA Y)).1 (sdA N (nA Y)).2 n) g x) M' ∧ Fr WW M M') := by
  obtain ⟨hY, hN, s31, s71, s32, s73⟩ := hS
  have h6 := hY.n.A6
  have hC := hY.n.C6
  have ht := hN.t
  have ivW := wkA_inv (N := N) (nC Y)
  have ivS := sdA_inv (N := N) (nA Y)
  have hWK : WK Y N (wkA N (nC Y)).1 (wkA N (nC Y)).2 := fun k hk => ivW.2.2 k hk
  have hTK : TK Y N (wkA N (nC Y)).1 (fun k => tko (sdA N (nA Y)).1 (sdA N (nA Y)).2 (dig ((sdA N (nA Y)).1 + 1) (wkA N (nC Y)).1 x k)) := fun k hk => by
    dsimp only
    unfold tko
    split
    · rename_i h
      exact .inr ⟨_, (ivS.2 _ h).1, (ivS.2 _ h).2.1, rfl⟩
    · exact .inl rfl
  have hval := val_eq (n := n) (x := x) hY.n hN.i (by omega) hn hWK hTK (fun k hk => rfl)
  have hvb : vrw Y N (wkA N (nC Y)).1 (wkA N (nC Y)).2 (sdA N (nA Y)).1 (sdA N (nA Y)).2 n x ≤ 600 := vrw_bd hY.g (by omega) (fun k hk => (ivS.2 k hk).1)
  have hsim := fun i (hi : i < 1000) => sim_ok (W := (wkA N (nC Y)).1) hY.n hN.i (by omega) hWK hTK i hi
  have hday := fun i (hi : i < 1000) j (hj : j ≤ (wkA N (nC Y)).1) => day_SI (W := (wkA N (nC Y)).1) hY.n (hsim i hi).1 hWK hTK j hj
  generalize (wkA N (nC Y)).1 = W at *
  generalize (wkA N (nC Y)).2 = wk at *
  generalize (sdA N (nA Y)).1 = st at *
  generalize (sdA N (nA Y)).2 = sd at *
  generalize vrw Y N W wk st sd n = vv at *
  have ws : ∀ {M' : Mem} {V : Nat → Nat → Prop}, Fr V M M' → (∀ c j, V c j → c = 267 ∨ c = 268 ∨ (c = 269 ∧ 1029 ≤ j)) → IY Y M' ∧ IN Y t N M' ∧ M'.1 253 31 = Int32.ofNat W ∧ (∀ k, k < W → M'.1 271 k = Int32.ofNat (wk k)) ∧ M'.1 253 32 = Int32.ofNat g.1 - 1 ∧ (∀ k, M'.1 273 k = M.1 273 k) ∧ ∀ k, k < W → M'.1 272 k = tko st sd (dig (st + 1) W x k) := by
    intro M' V hf hv
    have nv : ∀ c j, ¬ (c = 267 ∨ c = 268 ∨ (c = 269 ∧ 1029 ≤ j)) → ¬ V c j := fun c j h z => h (hv c j z)
    exact ⟨hY.fr hf (fun c j hc => nv c j (by unfold yc at *; omega)), hN.fr h6 hf (fun c j hc => nv c j (by omega)), (hf.i (nv _ _ (by omega))).trans s31, fun k hk => (hf.i (nv _ _ (by omega))).trans (s71 k hk), (hf.i (nv _ _ (by omega))).trans s32, fun k => hf.i (nv _ _ (by omega)), fun k hk => (hf.i (nv _ _ (by omega))).trans (htk k hk)⟩
  rw [e281]
  refine Hm_cVv (sp259S (B := 0) (b := 0) (B' := 1029) (b' := 1029) rfl rfl hY.n hN.r (by omega) (by omega) (by omega)) (fun M1 h1 => ?_)
  obtain ⟨c1, f1⟩ := h1
  simp only [lp0_eq]
  refine lp_for (d := d + 7) (x := 281) (pc := 10) n 20 100 (by omega) (fun i lv M' => ∃ o3, lv = [some (vR 12 0 253), some (vI (Int32.ofNat n)), some (vI (Int32.ofNat i)), o3] ∧ SR Y (sim Y N W wk (fun k => tko st sd (dig (st + 1) W x k)) i) 1029 M' ∧ Fr (fun c j => c = 267 ∨ c = 268 ∨ (c = 269 ∧ 1029 ≤ j)) M M') ?_ ?_ n 0 (by omega) 20000 _ M1 (by omega) ⟨_, rfl, c1, f1.up (fun c j h => by omega)⟩
  · rintro i hi G lv M2 hG ⟨o3, rfl, c2, f2⟩ z
    obtain ⟨hY2, hN2, a31, a71, a32, a73, a72⟩ := ws f2 (fun c j h => h)
    simp (disch := omega) only [e281_10, i_nat, Nat.add_zero, Nat.not_lt_zero, i_neg, i_lt, i_le, i_eq, i_add, i_addl, i_addr, i_mulr, i_mull, i_subl, i_pred, i_ltl, i_ltr, i_eql, i_em1, cIn_s, cVd_s, cLo_s, ic_true, ic_false, ic_same, i10, eq_self, b2_0, b2_1, b2_and, b2_t, b2_f, ck', hi]
    refine lp_for (d := d + 7) (x := 281) (pc := 17) W 1 (G + 1) (by omega) (fun j lv M3 => lv = [some (vR 12 0 253), some (vI (Int32.ofNat n)), some (vI (Int32.ofNat i)), some (vI (Int32.ofNat j))] ∧ SR Y (day Y wk (fun k => tko st sd (dig (st + 1) W x k)) (sim Y N W wk (fun k => tko st sd (dig (st + 1) W x k)) i) j) 1029 M3 ∧ Fr (fun c j => c = 267 ∨ c = 268 ∨ (c = 269 ∧ 1029 ≤ j)) M M3) ?_ ?_ W 0 (by omega) _ _ M2 (by omega) ⟨rfl, c2, f2⟩
    · rintro j hj G2 lv M3 hG2 ⟨rfl, c3, f3⟩ z3
      obtain ⟨hY3, hN3, b31, b71, b32, b73, b72⟩ := ws f3 (fun c j h => h)
      have hI3 := hday i (by omega) j (by omega)
      have e72 := b72 j hj
      have e71 := b71 j hj
      have hwk := (ivW.2.2 j hj).1
      have ds := day_s (Y := Y) (wk := wk) (tk := fun k => tko st sd (dig (st + 1) W x k)) (S := sim Y N W wk (fun k => tko st sd (dig (st + 1) W x k)) i) (j := j)
      rcases hTK j hj with q | ⟨e, he, hue, q⟩
      · dsimp only at q
        have hs : day Y wk (fun k => tko st sd (dig (st + 1) W x k)) (sim Y N W wk (fun k => tko st sd (dig (st + 1) W x k)) i) (j + 1) = day Y wk (fun k => tko st sd (dig (st + 1) W x k)) (sim Y N W wk (fun k => tko st sd (dig (st + 1) W x k)) i) j := by
          rw [ds, q]; rfl
        rw [hs] at z3
        simp (disch := omega) only [e281_17, i_nat, Nat.add_zero, Nat.not_lt_zero, i_neg, i_lt, i_le, i_eq, i_add, i_addl, i_addr, i_mulr, i_mull, i_subl, i_pred, i_ltl, i_ltr, i_eql, i_em1, cIn_s, cVd_s, cLo_s, ic_true, ic_false, ic_same, i10, eq_self, b2_0, b2_1, b2_and, b2_t, b2_f, ck', b31, hj, e72, q, show ((-1 : Int32) < 0) = True by decide]
        exact z3 _ _ _ (by omega) ⟨rfl, c3, f3⟩
      · dsimp only at q
        have z2 : ¬ Int32.ofNat e < 0 := i_neg (by omega)
        rw [q, i_nat (by omega)] at ds
        simp only [z2, not_false_eq_true, decide_true, Bool.true_and] at ds
        simp (disch := omega) only [e281_17, i_nat, Nat.add_zero, Nat.not_lt_zero, i_neg, i_lt, i_le, i_eq, i_add, i_addl, i_addr, i_mulr, i_mull, i_subl, i_pred, i_ltl, i_ltr, i_eql, i_em1, cIn_s, cVd_s, cLo_s, ic_true, ic_false, ic_same, i10, eq_self, b2_0, b2_1, b2_and, b2_t, b2_f, ck', b31, hj, e72, q, e71, sp262 (B := 1029) (b := 1029) rfl hY3.r hY3.n c3 hI3 (show 1029 ≤ 1078 by omega) (show wk j < 6 by omega) he]
        cases hm : mayC Y (day Y wk (fun k => tko st sd (dig (st + 1) W x k)) (sim Y N W wk (fun k => tko st sd (dig (st + 1) W x k)) i) j) (wk j) e
        · rw [hm] at ds
          simp only [Bool.false_eq_true, if_false] at ds
          rw [ds] at z3
          simp only [ic_true]
          exact z3 _ _ _ (by omega) ⟨rfl, c3, f3⟩
        · rw [hm] at ds
          simp only [if_true] at ds
          rw [ds] at z3
          simp only [Bool.true_eq_false, ic_false]
          refine Hm_cIn (sp263 (B := 1029) (b := 1029) rfl hY3.r hY3.n hY3.l c3 (by omega) hwk he) (fun a M4 h4 => ⟨_, h4.1, ?_⟩)
          exact z3 _ _ _ (by omega) ⟨rfl, h4.2.1, f3.tr (h4.2.2.up (fun c j h => by omega))⟩
    · rintro G2 lv M3 hG2 ⟨rfl, c3, f3⟩
      obtain ⟨hY3, hN3, b31, b71, b32, b73, b72⟩ := ws f3 (fun c j h => h)
      simp (disch := omega) only [e281_17, i_nat, Nat.add_zero, Nat.not_lt_zero, i_neg, i_lt, i_le, i_eq, i_add, i_addl, i_addr, i_mulr, i_mull, i_subl, i_pred, i_ltl, i_ltr, i_eql, i_em1, cIn_s, cVd_s, cLo_s, ic_true, ic_false, ic_same, i10, eq_self, b2_0, b2_1, b2_and, b2_t, b2_f, ck', b31, Nat.lt_irrefl]
      refine Hm_cIv (sp269 (B := 1029) (b := 1029) (m := 0) rfl hY3.r hY3.n hY3.l c3 (hday i (by omega) W (Nat.le_refl _)) (by omega) (by omega)) (fun M4 h4 => ?_)
      exact z _ _ _ (by omega) ⟨_, rfl, h4.1, f3.tr (h4.2.up (fun c j h => by omega))⟩
  · rintro G lv M2 hG ⟨o3, rfl, c2, f2⟩
    obtain ⟨hY2, hN2, a31, a71, a32, a73, a72⟩ := ws f2 (fun c j h => h)
    have hgb := hg
    simp (disch := omega) only [e281_10, i_nat, Nat.add_zero, Nat.not_lt_zero, i_neg, i_lt, i_le, i_eq, i_add, i_addl, i_addr, i_mulr, i_mull, i_subl, i_pred, i_ltl, i_ltr, i_eql, i_em1, cIn_s, cVd_s, cLo_s, ic_true, ic_false, ic_same, i10, eq_self, b2_0, b2_1, b2_and, b2_t, b2_f, ck', Nat.lt_irrefl, sp250 (B := 1029) (b := 1029) rfl hY2.r hY2.n c2 (hsim n (by omega)).1 (show 1029 ≤ 1078 by omega), sp252 hY2.r hY2.n, wor_N hY.g, hval, a32, i_m1]
    refine Hm_ic (fun h => ?_) (fun h => ?_)
    · refine lp_for (d := d + 7) (x := 281) (pc := 124) W 1 0 (by omega) (fun j lv M3 => lv = [some (vR 12 0 253), some (vI (Int32.ofNat n)), some (vI (Int32.ofNat (vv x))), some (vI (Int32.ofNat j))] ∧ (∀ k, k < j → M3.1 273 k = tko st sd (dig (st + 1) W x k)) ∧ M3.1 253 32 = Int32.ofNat (vv x) ∧ Fr (fun c j => (c = 253 ∧ j = 32) ∨ c = 273) M2 M3) ?_ ?_ W 0 (by omega) _ _ _ (by omega) ⟨rfl, fun k hk => absurd hk (Nat.not_lt_zero _), by rw [sI_eq], Fr.rf.sI (by omega)⟩
      · rintro j hj G2 lv M3 - ⟨rfl, r3, t3, f3⟩ z
        have b31 : M3.1 253 31 = Int32.ofNat W := (f3.i (by omega)).trans a31
        have b72 : M3.1 272 j = tko st sd (dig (st + 1) W x j) := (f3.i (by omega)).trans (a72 j hj)
        simp (disch := omega) only [e281_124b, i_nat, Nat.add_zero, Nat.not_lt_zero, i_neg, i_lt, i_le, i_eq, i_add, i_addl, i_addr, i_mulr, i_mull, i_subl, i_pred, i_ltl, i_ltr, i_eql, i_em1, cIn_s, cVd_s, cLo_s, ic_true, ic_false, ic_same, i10, eq_self, b2_0, b2_1, b2_and, b2_t, b2_f, ck', b31, hj, b72]
        refine z _ _ _ (by omega) ⟨rfl, fun k hk => ?_, by rw [sI_ne (by omega)]; exact t3, f3.sI (by omega)⟩
        by_cases y : k = j
        · subst y; rw [sI_eq]
        · rw [sI_ne (.inr y)]; exact r3 k (by omega)
      · rintro G2 lv M3 - ⟨rfl, r3, t3, f3⟩
        have b31 : M3.1 253 31 = Int32.ofNat W := (f3.i (by omega)).trans a31
        simp (disch := omega) only [e281_124b, i_nat, Nat.add_zero, Nat.not_lt_zero, i_neg, i_lt, i_le, i_eq, i_add, i_addl, i_addr, i_mulr, i_mull, i_subl, i_pred, i_ltl, i_ltr, i_eql, i_em1, cIn_s, cVd_s, cLo_s, ic_true, ic_false, ic_same, i10, eq_self, b2_0, b2_1, b2_and, b2_t, b2_f, ck', b31, Nat.lt_irrefl]
        have fA : Fr WW M M3 := (f2.up (fun c j h => by unfold WW; omega)).tr (f3.up (fun c j h => by unfold WW; omega))
        refine Hm_some ⟨rfl, ⟨hY2.fr f3 (fun c j hc => by unfold yc at *; omega), hN2.fr h6 f3 (fun c j hc => by omega), b31, fun k hk => (f3.i (by omega)).trans (a71 k hk), ?_, fun _ k hk => ?_⟩, fA⟩
        · unfold stp; rw [if_pos h]; dsimp only; rw [t3, i_subl (by omega), Nat.add_sub_cancel]
        · unfold stp; rw [if_pos h]; exact r3 k hk
    · refine Hm_some ⟨rfl, ⟨hY2, hN2, a31, a71, ?_, fun hne k hk => ?_⟩, f2.up (fun c j h => by unfold WW; omega)⟩
      · unfold stp; rw [if_neg h]; exact a32
      · unfold stp at hne ⊢; rw [if_neg h] at hne ⊢; rw [a73]; exact s73 hne k hk
end WORK6
