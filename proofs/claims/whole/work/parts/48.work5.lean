/-! work: the class whole -/
section WORK5
variable {Y N S T : YT} {t a s n c b d e u k j i m W R x st : Nat} {M : Mem} {p q f set props deg : Int32} {wk sd : Nat → Nat} {tk : Nat → Int32} {cr cr' : Nat → Bool}
/-- the first best row: (its worth and one, its number) -/
def stp (v : Nat → Nat) (g : Nat × Nat) (x : Nat) : Nat × Nat := if g.1 ≤ v x then (v x + 1, x) else g
def gW (v : Nat → Nat) : Nat → Nat × Nat := rf (stp v) (0, 0)
theorem gW_bd {v : Nat → Nat} (h : ∀ x, v x ≤ 600) : ∀ m, (gW v m).1 ≤ 601
  | 0 => by show 0 ≤ 601; omega
  | m + 1 => by
    have ih := gW_bd h m
    show (stp v (gW v m) m).1 ≤ 601
    unfold stp; split
    · have := h m; dsimp only; omega
    · exact ih
/-- what is taken, as the class keeps it -/
def TKM (W : Nat) (wk : Nat → Nat) (st : Nat) (sd : Nat → Nat) (g : Nat × Nat) (M : Mem) : Prop := (∀ k, k < W → M.1 70 (wk k) = if g.1 = 0 then -1 else tko st sd (dig (st + 1) W g.2 k)) ∧ ∀ c, c < 6 → (∀ k, k < W → wk k ≠ c) → M.1 70 c = -1
theorem pow7 (hst : st ≤ 6) (hW : W ≤ 4) : (st + 1) ^ W ≤ 2401 := by
  have h1 : (st + 1) ^ W ≤ 7 ^ W := Nat.pow_le_pow_left (by omega) W
  have h2 : 7 ^ W ≤ 7 ^ 4 := Nat.pow_le_pow_right (by omega) hW
  have : (7 : Nat) ^ 4 = 2401 := by decide
  omega
theorem sp154 (hY : IY Y M) (hN : IN Y t N M) (hn : n ≤ 6) : Hm (evD (d + 10) 154 [vR 3 0 69, vI (Int32.ofNat n)] M) (fun r M' => r = some (vI (Int32.ofNat (gW (vrw Y N (wkA N (nC Y)).1 (wkA N (nC Y)).2 (sdA N (nA Y)).1 (sdA N (nA Y)).2 n) (((sdA N (nA Y)).1 + 1) ^ (wkA N (nC Y)).1)).1 - 1)) ∧ TKM (wkA N (nC Y)).1 (wkA N (nC Y)).2 (sdA N (nA Y)).1 (sdA N (nA Y)).2 (gW (vrw Y N (wkA N (nC Y)).1 (wkA N (nC Y)).2 (sdA N (nA Y)).1 (sdA N (nA Y)).2 n) (((sdA N (nA Y)).1 + 1) ^ (wkA N (nC Y)).1)) M' ∧ Fr ScW M M') := by
  have h6 := hY.n.A6
  have hC := hY.n.C6
  have ivW := wkA_inv (N := N) (nC Y)
  have ivS := sdA_inv (N := N) (nA Y)
  rw [e154]
  refine Hm_cVv (sp155 hY hN) (fun M1 h1 => ?_)
  obtain ⟨w1, f1⟩ := h1
  have f1' : Fr ScW M M1 := f1.up (fun c j h => by unfold ScW; omega)
  refine Hm_cVv (sp156 (hY.sc f1') (hN.sc h6 f1')) (fun M2 h2 => ?_)
  obtain ⟨s2, f2⟩ := h2
  have f2' : Fr ScW M M2 := f1'.tr (f2.up (fun c j h => by unfold ScW; omega))
  have w2 : WM N (nC Y) M2 := ⟨(f2.i (by omega)).trans w1.1, fun k hk => (f2.i (by omega)).trans (w1.2 k hk)⟩
  generalize hWd : (wkA N (nC Y)).1 = W at *
  generalize hwd : (wkA N (nC Y)).2 = wk at *
  generalize hSd : (sdA N (nA Y)).1 = st at *
  generalize hsd : (sdA N (nA Y)).2 = sd at *
  have hst : st ≤ 6 := by omega
  have hW : W ≤ 4 := ivW.1
  have hwk : ∀ k, k < W → wk k < 6 ∧ ∀ k', k' < k → wk k' < wk k := fun k hk => ⟨by have := (ivW.2.2 k hk).1; omega, (ivW.2.2 k hk).2.2⟩
  have hsdA : ∀ k, k < st → sd k < nA Y := fun k hk => (ivS.2 k hk).1
  have hp7 := pow7 hst hW
  have hw16 : 2 ^ W ≤ 16 := by
    have : (16 : Nat) = 2 ^ 4 := rfl
    rw [this]; exact Nat.pow_le_pow_right (by omega) hW
  have base : M2.1 69 5 = Int32.ofNat W ∧ M2.1 69 7 = Int32.ofNat st ∧ (∀ k, k < W → M2.1 72 k = Int32.ofNat (wk k)) ∧ ∀ k, k < st → M2.1 73 k = Int32.ofNat (sd k) := by
    refine ⟨?_, ?_, fun k hk => ?_, fun k hk => ?_⟩
    · rw [w2.1, hWd]
    · rw [s2.1, hSd]
    · rw [w2.2 k (by omega), hwd]
    · rw [s2.2 k (by omega), hsd]
  have vbd : ∀ x, vrw Y N W wk st sd n x ≤ 600 := fun x => vrw_bd hY.g hst hsdA
  simp only [lp0_eq]
  refine lp_for (d := d + 9) (x := 154) (pc := 10) st 40 5000 (by omega) (fun i lv M' => ∃ o3 o4 o5, lv = [some (vR 3 0 69), some (vI (Int32.ofNat n)), some (vI (Int32.ofNat i)), o3, o4, o5] ∧ (M'.1 69 5 = Int32.ofNat W ∧ M'.1 69 7 = Int32.ofNat st ∧ (∀ k, k < W → M'.1 72 k = Int32.ofNat (wk k)) ∧ ∀ k, k < st → M'.1 73 k = Int32.ofNat (sd k)) ∧ (∀ i', i' < i → ∀ s, s < 2 ^ W → M'.1 (75 + i') s = Int32.ofNat (wbc Y N W wk (fun k => s.testBit k) (sd i') n)) ∧ Fr ScW M M') ?_ ?_ st 0 (by omega) 20000 _ M2 (by omega) ⟨_, _, _, rfl, base, fun i' h => by omega, f2'⟩
  · rintro i hi G lv M' - ⟨o3, o4, o5, rfl, ⟨b1, b2', b3, b4⟩, tb, hf⟩ z
    have hb4 := b4 i hi
    obtain ⟨v1, v2, -⟩ := ivS.2 i hi
    simp (disch := omega) only [e154_10, i_nat, Nat.add_zero, Nat.not_lt_zero, i_neg, i_lt, i_le, i_eq, i_add, i_addl, i_addr, i_mulr, i_mull, i_subl, i_pred, i_ltl, i_ltr, i_eql, i_em1, cIn_s, cVd_s, cLo_s, ic_true, ic_false, ic_same, i10, eq_self, b2_0, b2_1, b2_and, b2_t, b2_f, ck', b2', hi]
    refine lp_for (d := d + 9) (x := 154) (pc := 20) (2 ^ W) 1 (G + 1) (by omega) (fun s lv M3 => ∃ o4 o5, lv = [some (vR 3 0 69), some (vI (Int32.ofNat n)), some (vI (Int32.ofNat i)), some (vI (Int32.ofNat s)), o4, o5] ∧ (∀ s', s' < s → M3.1 (75 + i) s' = Int32.ofNat (wbc Y N W wk (fun k => s'.testBit k) (sd i) n)) ∧ Fr (fun c _ => c = 22 ∨ c = 25 ∨ c = 75 + i) M' M3) ?_ ?_ (2 ^ W) 0 (by omega) _ _ M' (by omega) ⟨_, _, rfl, fun s' h => by omega, Fr.rf⟩
    · rintro s hs G2 lv M3 hG2 ⟨o4, o5, rfl, t3, f3⟩ z3
      have f3' : Fr ScW M M3 := hf.tr (f3.up (fun c j h => by unfold ScW; omega))
      have hY3 := hY.sc f3'
      have hN3 := hN.sc h6 f3'
      have c5 : M3.1 69 5 = Int32.ofNat W := (f3.i (by omega)).trans b1
      have c73 : M3.1 73 i = Int32.ofNat (sd i) := (f3.i (by omega)).trans hb4
      have w3 : WM N (nC Y) M3 := by
        refine ⟨by rw [c5, hWd], fun k hk => ?_⟩
        rw [f3.i (by omega), b3 k (by omega), hwd]
      simp (disch := omega) only [e154_20, i_nat, Nat.add_zero, Nat.not_lt_zero, i_neg, i_lt, i_le, i_eq, i_add, i_addl, i_addr, i_mulr, i_mull, i_subl, i_pred, i_ltl, i_ltr, i_eql, i_em1, cIn_s, cVd_s, cLo_s, ic_true, ic_false, ic_same, i10, eq_self, b2_0, b2_1, b2_and, b2_t, b2_f, ck', c5, sh_pow (show W ≤ 6 by omega), hs, c73]
      have call := sp157 (d := d + 1) (s := s) hY3 hN3 w3 v1 v2 (by omega) hn
      rw [hWd, hwd] at call
      refine Hm_cIv call (fun M4 f4 => ?_)
      simp (disch := omega) only [i_nat, Nat.add_zero, Nat.not_lt_zero, i_neg, i_lt, i_le, i_eq, i_add, i_addl, i_addr, i_mulr, i_mull, i_subl, i_pred, i_ltl, i_ltr, i_eql, i_em1, cIn_s, cVd_s, cLo_s, ic_true, ic_false, ic_same, i10, eq_self, b2_0, b2_1, b2_and, b2_t, b2_f, ck', Nat.reduceAdd]
      refine z3 _ _ _ (by omega) ⟨_, _, rfl, fun s' hs' => ?_, (f3.tr (f4.up (fun c j h => by omega))).sI (by omega)⟩
      by_cases y : s' = s
      · subst y; rw [sI_eq]
      · rw [sI_ne (.inr y), f4.i (by omega)]; exact t3 s' (by omega)
    · rintro G2 lv M3 hG2 ⟨o4, o5, rfl, t3, f3⟩
      have c5 : M3.1 69 5 = Int32.ofNat W := (f3.i (by omega)).trans b1
      simp (disch := omega) only [e154_20, i_nat, Nat.add_zero, Nat.not_lt_zero, i_neg, i_lt, i_le, i_eq, i_add, i_addl, i_addr, i_mulr, i_mull, i_subl, i_pred, i_ltl, i_ltr, i_eql, i_em1, cIn_s, cVd_s, cLo_s, ic_true, ic_false, ic_same, i10, eq_self, b2_0, b2_1, b2_and, b2_t, b2_f, ck', c5, sh_pow (show W ≤ 6 by omega), Nat.lt_irrefl]
      refine z _ _ _ (by omega) ⟨_, _, _, rfl, ⟨c5, (f3.i (by omega)).trans b2', fun k hk => (f3.i (by omega)).trans (b3 k hk), fun k hk => (f3.i (by omega)).trans (b4 k hk)⟩, fun i' hi' s' hs' => ?_, hf.tr (f3.up (fun c j h => by unfold ScW; omega))⟩
      by_cases y : i' = i
      · subst y; exact t3 s' hs'
      · rw [f3.i (by omega)]; exact tb i' (by omega) s' hs'
  · rintro G lv M' hG ⟨o3, o4, o5, rfl, ⟨b1, b2', b3, b4⟩, tb, hf⟩
    simp (disch := omega) only [e154_10, i_nat, Nat.add_zero, Nat.not_lt_zero, i_neg, i_lt, i_le, i_eq, i_add, i_addl, i_addr, i_mulr, i_mull, i_subl, i_pred, i_ltl, i_ltr, i_eql, i_em1, cIn_s, cVd_s, cLo_s, ic_true, ic_false, ic_same, i10, eq_self, b2_0, b2_1, b2_and, b2_t, b2_f, ck', b2', Nat.lt_irrefl, sp2, flI_ne, b1, sp159 (W := W) (st := st)]
    have hRM : RM Y N W wk st sd n (flI (flI M' 70 6 (-1)) 81 4 0) := by
      refine ⟨?_, ?_, fun k hk => ?_, fun k hk => ?_, fun i hi s hs => ?_⟩
      · rw [flI_ne (by omega), flI_ne (by omega)]; exact b1
      · rw [flI_ne (by omega), flI_ne (by omega)]; exact b2'
      · rw [flI_ne (by omega), flI_ne (by omega)]; exact b3 k hk
      · rw [flI_ne (by omega), flI_ne (by omega)]; exact b4 k hk
      · rw [flI_ne (by omega), flI_ne (by omega)]; exact tb i hi s hs
    rw [sp159 (W := W) (st := st) hRM.1 hRM.2.1 hW hst, cIn_s]
    have f0 : Fr ScW M (flI (flI M' 70 6 (-1)) 81 4 0) := (hf.flI (fun j _ => by unfold ScW; omega)).flI (fun j _ => by unfold ScW; omega)
    refine lp_for (d := d + 9) (x := 154) (pc := 88) ((st + 1) ^ W) 1 0 (by omega) (fun i lv M3 => ∃ o5, lv = [some (vR 3 0 69), some (vI (Int32.ofNat n)), some (vI (Int32.ofNat (gW (vrw Y N W wk st sd n) i).1 - 1)), some (vI (Int32.ofNat ((st + 1) ^ W))), some (vI (Int32.ofNat i)), o5] ∧ RM Y N W wk st sd n M3 ∧ (∀ k, k < W → M3.1 81 k = Int32.ofNat (dig (st + 1) W i k)) ∧ TKM W wk st sd (gW (vrw Y N W wk st sd n) i) M3 ∧ Fr ScW M M3) ?_ ?_ ((st + 1) ^ W) 0 (by omega) _ _ _ (by omega) ⟨_, rfl, hRM, fun k hk => ?_, ⟨fun k hk => ?_, fun c hc _ => ?_⟩, f0⟩
    · rintro i hi G2 lv M3 - ⟨o5, rfl, r3, row3, tk3, f3⟩ z
      have gb := gW_bd vbd i
      have vb := vbd i
      have es : gW (vrw Y N W wk st sd n) (i + 1) = stp (vrw Y N W wk st sd n) (gW (vrw Y N W wk st sd n) i) i := rfl
      rw [es] at z
      generalize gW (vrw Y N W wk st sd n) i = g at *
      simp (disch := omega) only [e154_88b, i_nat, Nat.add_zero, Nat.not_lt_zero, i_neg, i_lt, i_le, i_eq, i_add, i_addl, i_addr, i_mulr, i_mull, i_subl, i_pred, i_ltl, i_ltr, i_eql, i_em1, cIn_s, cVd_s, cLo_s, ic_true, ic_false, ic_same, i10, eq_self, b2_0, b2_1, b2_and, b2_t, b2_f, ck', hi]
      refine Hm_cIv (sp160 hY.g r3 hW hst hsdA row3) (fun M4 f4 => ?_)
      have r4 := r3.fr hst f4 (fun c j h => by omega)
      have row4 : ∀ k, k < W → M4.1 81 k = Int32.ofNat (dig (st + 1) W i k) := fun k hk => (f4.i (by omega)).trans (row3 k hk)
      have tk4 : TKM W wk st sd g M4 := ⟨fun k hk => (f4.i (by omega)).trans (tk3.1 k hk), fun c hc h => (f4.i (by omega)).trans (tk3.2 c hc h)⟩
      have f4' : Fr ScW M M4 := f3.tr (f4.up (fun c j h => by unfold ScW; omega))
      simp (disch := omega) only [i_m1]
      refine Hm_ic (fun h => ?_) (fun h => ?_)
      · refine Hm_cVv (sp161 (x := i) r4 hW hst hwk row4) (fun M5 h5 => ?_)
        obtain ⟨a1, a2, f5⟩ := h5
        have r5 := r4.fr hst f5 (fun c j h => by omega)
        have row5 : ∀ k, k < W → M5.1 81 k = Int32.ofNat (dig (st + 1) W i k) := fun k hk => (f5.i (by omega)).trans (row4 k hk)
        have f5' : Fr ScW M M5 := f4'.tr (f5.up (fun c j h => by unfold ScW; omega))
        refine Hm_cVv (sp162 (x := i) r5.1 r5.2.1 hW hst row5) (fun M6 h6' => ?_)
        obtain ⟨c1, f6⟩ := h6'
        refine z _ _ _ (by omega) ⟨some (vI (Int32.ofNat (vrw Y N W wk st sd n i))), ?_, r5.fr hst f6 (fun c j h => by omega), c1, ?_, f5'.tr (f6.up (fun c j h => by unfold ScW; omega))⟩
        · unfold stp; rw [if_pos h]; dsimp only; rw [i_subl (by omega), Nat.add_sub_cancel]
        · unfold stp; rw [if_pos h]
          refine ⟨fun k hk => ?_, fun c hc hw => ?_⟩
          · dsimp only; rw [if_neg (by omega), f6.i (by omega)]; exact a1 k hk
          · rw [f6.i (by omega), a2 c hw]; exact tk4.2 c hc hw
      · refine Hm_cVv (sp162 (x := i) r4.1 r4.2.1 hW hst row4) (fun M6 h6' => ?_)
        obtain ⟨c1, f6⟩ := h6'
        refine z _ _ _ (by omega) ⟨some (vI (Int32.ofNat (vrw Y N W wk st sd n i))), ?_, r4.fr hst f6 (fun c j h => by omega), c1, ?_, f4'.tr (f6.up (fun c j h => by unfold ScW; omega))⟩
        · unfold stp; rw [if_neg h]
        · unfold stp; rw [if_neg h]
          exact ⟨fun k hk => (f6.i (by omega)).trans (tk4.1 k hk), fun c hc hw => (f6.i (by omega)).trans (tk4.2 c hc hw)⟩
    · rintro G2 lv M3 - ⟨o5, rfl, r3, row3, tk3, f3⟩
      simp (disch := omega) only [e154_88b, i_nat, Nat.add_zero, Nat.not_lt_zero, i_neg, i_lt, i_le, i_eq, i_add, i_addl, i_addr, i_mulr, i_mull, i_subl, i_pred, i_ltl, i_ltr, i_eql, i_em1, cIn_s, cVd_s, cLo_s, ic_true, ic_false, ic_same, i10, eq_self, b2_0, b2_1, b2_and, b2_t, b2_f, ck', Nat.lt_irrefl]
      exact Hm_some ⟨rfl, tk3, f3⟩
    · rw [flI_eq (by omega)]
      have : dig (st + 1) W 0 k = 0 := by unfold dig; rw [Nat.zero_div, Nat.zero_mod]
      rw [this]; rfl
    · rw [if_pos (show (gW (vrw Y N W wk st sd n) 0).1 = 0 from rfl), flI_ne (by omega), flI_eq (by have := (hwk k hk).1; omega)]
    · rw [flI_ne (by omega), flI_eq hc]
end WORK5
