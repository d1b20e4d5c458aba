/-! work alike -/
section WORK7
variable {Y N S T : YT} {t a s n c b d e u k j i m W R x st : Nat} {M : Mem} {p q f set props deg : Int32} {wk sd : Nat → Nat} {tk bk : Nat → Int32} {cr cr' : Nat → Bool}
def rfo (v : Nat → Nat) (g : Nat × Nat) (lo n : Nat) : Nat × Nat := rf (fun g j => stp v g (lo + j)) g n
theorem rfo_add {v : Nat → Nat} {g : Nat × Nat} {lo n1 : Nat} : ∀ n2, rfo v g lo (n1 + n2) = rfo v (rfo v g lo n1) (lo + n1) n2
  | 0 => rfl
  | n2 + 1 => by
    have ih := rfo_add (v := v) (g := g) (lo := lo) (n1 := n1) n2
    show stp v (rfo v g lo (n1 + n2)) (lo + (n1 + n2)) = stp v (rfo v (rfo v g lo n1) (lo + n1) n2) (lo + n1 + n2)
    rw [ih, Nat.add_assoc]
theorem rfo_bd {v : Nat → Nat} {g : Nat × Nat} {lo : Nat} (h : ∀ x, v x ≤ 600) (hg : g.1 ≤ 601) : ∀ n, (rfo v g lo n).1 ≤ 601
  | 0 => hg
  | n + 1 => by
    have ih := rfo_bd (lo := lo) h hg n
    show (stp v (rfo v g lo n) (lo + n)).1 ≤ 601
    unfold stp; split
    · have := h (lo + n); dsimp only; omega
    · exact ih
theorem sdA_get (hu : up N a = true) : ∀ n, a < n → (sdA N a).1 < (sdA N n).1 ∧ (sdA N n).2 (sdA N a).1 = a
  | 0, h => by omega
  | n + 1, h => by
    rw [sdA_s]
    by_cases y : a = n
    · subst y
      rw [hu]; simp only [if_true]
      exact ⟨by omega, by unfold un; rw [if_pos rfl]⟩
    · have ih := sdA_get hu n (by omega)
      split
      · dsimp only
        refine ⟨by omega, ?_⟩
        unfold un; rw [if_neg (by omega)]; exact ih.2
      · exact ih
theorem WS.fr {M' : Mem} {g : Nat × Nat} (h : WS Y N t W wk st sd g M) (h6 : nA Y ≤ 6) (hf : Fr (fun c _ => c = 272) M M') : WS Y N t W wk st sd g M' := by
  obtain ⟨q1, q2, q3, q4, q5, q6⟩ := h
  exact ⟨q1.fr hf (fun c j hc => by unfold yc at *; omega), q2.fr h6 hf (fun c j hc => by omega), (hf.i (by omega)).trans q3, fun k hk => (hf.i (by omega)).trans (q4 k hk), (hf.i (by omega)).trans q5, fun hn k hk => (hf.i (by omega)).trans (q6 hn k hk)⟩
def WX (k : Nat) (c j : Nat) : Prop := WW c j ∨ (c = 272 ∧ k ≤ j)
theorem sp280 (hn : n ≤ 6) (hYN : YN Y) (hG : YG Y) : ∀ m k, k + m = (wkA N (nC Y)).1 → ∀ (d : Nat) (M : Mem) (g : Nat × Nat) (b : Nat), WS Y N t (wkA N (nC Y)).1 (wkA N (nC Y)).2 (sdA N (nA Y)).1 (sdA N (nA Y)).2 g M → g.1 ≤ 601 → (∀ j, j < k → M.1 272 j = tko (sdA N (nA Y)).1 (sdA N (nA Y)).2 (b / ((sdA N (nA Y)).1 + 1) ^ (k - 1 - j) % ((sdA N (nA Y)).1 + 1))) →
    Hm (evD (d + m + 9) 280 [vR 12 0 253, vI (Int32.ofNat k), vI (Int32.ofNat n)] M) (fun r M' => r = none ∧ WS Y N t (wkA N (nC Y)).1 (wkA N (nC Y)).2 (sdA N (nA Y)).1 (sdA N (nA Y)).2 (rfo (vrw Y N (wkA N (nC Y)).1 (wkA N (nC Y)).2 (sdA N (nA Y)).1 (sdA N (nA Y)).2 n) g (b * ((sdA N (nA Y)).1 + 1) ^ m) (((sdA N (nA Y)).1 + 1) ^ m)) M' ∧ Fr (WX k) M M') := by
  have h6 := hYN.A6
  have hC := hYN.C6
  have ivW := wkA_inv (N := N) (nC Y)
  have ivS := sdA_inv (N := N) (nA Y)
  have vbd : ∀ x, vrw Y N (wkA N (nC Y)).1 (wkA N (nC Y)).2 (sdA N (nA Y)).1 (sdA N (nA Y)).2 n x ≤ 600 := fun x => vrw_bd hG (by omega) (fun k hk => (ivS.2 k hk).1)
  intro m
  induction m with
  | zero =>
    intro k hk d M g b hS hg hrow
    have s31 := hS.2.2.1
    rw [Nat.pow_zero, Nat.mul_one]
    simp (disch := omega) only [e280, i_nat, Nat.add_zero, Nat.not_lt_zero, i_neg, i_lt, i_le, i_eq, i_add, i_addl, i_addr, i_mulr, i_mull, i_subl, i_pred, i_ltl, i_ltr, i_eql, i_em1, cIn_s, cVd_s, cLo_s, ic_true, ic_false, ic_same, i10, eq_self, b2_0, b2_1, b2_and, b2_t, b2_f, ck', s31, eq_true (show k = (wkA N (nC Y)).1 by omega)]
    refine Hm_cVv (sp281 (x := b) hn hS hg (fun j hj => ?_)) (fun M1 h1 => Hm_some ⟨rfl, h1.1, h1.2.up (fun c j h => .inl h)⟩)
    rw [hrow j (by omega)]
    unfold dig
    rw [show k - 1 - j = (wkA N (nC Y)).1 - 1 - j by omega]
  | succ m ih =>
    intro k hk d M g b hS hg hrow
    have s31 := hS.2.2.1
    rw [show d + (m + 1) + 9 = (d + m + 9) + 1 by omega]
    simp (disch := omega) only [e280, i_nat, Nat.add_zero, Nat.not_lt_zero, i_neg, i_lt, i_le, i_eq, i_add, i_addl, i_addr, i_mulr, i_mull, i_subl, i_pred, i_ltl, i_ltr, i_eql, i_em1, cIn_s, cVd_s, cLo_s, ic_true, ic_false, ic_same, i10, eq_self, b2_0, b2_1, b2_and, b2_t, b2_f, ck', s31, eq_false (show ¬ k = (wkA N (nC Y)).1 by omega), lp0_eq]
    have hpos : 0 < ((sdA N (nA Y)).1 + 1) ^ m := Nat.pow_pos (by omega)
    have hget := fun a (ha : a < nA Y) (hu : up N a = true) => sdA_get hu (nA Y) ha
    have hsdA := fun a => sdA_s (N := N) (n := a)
    generalize hst : (sdA N (nA Y)).1 = st at *
    generalize hsd : (sdA N (nA Y)).2 = sd at *
    generalize hW : (wkA N (nC Y)).1 = W at *
    generalize hwk : (wkA N (nC Y)).2 = wk at *
    generalize hv : vrw Y N W wk st sd n = vv at *
    -- one choice more
    have call : ∀ (D : Nat) (ch : Int32) (g' : Nat × Nat) (M2 : Mem), D ≤ st → ch = tko st sd D → WS Y N t W wk st sd g' M2 → g'.1 ≤ 601 → (∀ j, j < k → M2.1 272 j = tko st sd (b / (st + 1) ^ (k - 1 - j) % (st + 1))) → Hm (evD (d + m + 9) 280 [vR 12 0 253, vI (Int32.ofNat (k + 1)), vI (Int32.ofNat n)] (sI M2 272 k ch)) (fun r M' => r = none ∧ WS Y N t W wk st sd (rfo vv g' ((b * (st + 1) + D) * (st + 1) ^ m) ((st + 1) ^ m)) M' ∧ (∀ j, j < k → M'.1 272 j = tko st sd (b / (st + 1) ^ (k - 1 - j) % (st + 1))) ∧ Fr (WX k) M2 M') := by
      intro D ch g' M2 hD hch hS2 hg2 hr2
      have hS3 : WS Y N t W wk st sd g' (sI M2 272 k ch) := hS2.fr h6 (Fr.rf.sI rfl)
      refine Hm_mono (ih (k + 1) (by omega) d (sI M2 272 k ch) g' (b * (st + 1) + D) hS3 hg2 (fun j hj => ?_)) (fun r M' h => ?_)
      · by_cases y : j = k
        · subst y
          rw [sI_eq, hch, show j + 1 - 1 - j = 0 by omega, Nat.pow_zero, Nat.div_one, Nat.mul_comm b, Nat.mul_add_mod, Nat.mod_eq_of_lt (by omega)]
        · rw [sI_ne (.inr y), hr2 j (by omega)]
          have e : k + 1 - 1 - j = 1 + (k - 1 - j) := by omega
          rw [e, Nat.pow_add, Nat.pow_one, ← Nat.div_div_eq_div_mul, Nat.mul_comm b, Nat.mul_add_div (by omega), Nat.div_eq_of_lt (show D < st + 1 by omega)] <;> rfl
      · obtain ⟨h1, h2, h3⟩ := h
        refine ⟨h1, h2, fun j hj => ?_, ?_⟩
        · rw [h3.i (by unfold WX WW; omega), sI_ne (by omega)]; exact hr2 j hj
        · intro cc jj hnw
          have hne : cc ≠ 272 ∨ jj ≠ k := by unfold WX at hnw; omega
          have := h3 cc jj (fun w => hnw (by unfold WX at *; unfold WW at *; omega))
          exact ⟨this.1.trans (sI_ne hne), this.2.1, this.2.2⟩
    refine lp_for (d := d + m + 9) (x := 280) (pc := 16) (nA Y) 1 0 (by omega) (fun a lv M2 => lv = [some (vR 12 0 253), some (vI (Int32.ofNat k)), some (vI (Int32.ofNat n)), some (vI (Int32.ofNat a))] ∧ WS Y N t W wk st sd (rfo vv g (b * (st + 1) ^ (m + 1)) ((sdA N a).1 * (st + 1) ^ m)) M2 ∧ (∀ j, j < k → M2.1 272 j = tko st sd (b / (st + 1) ^ (k - 1 - j) % (st + 1))) ∧ Fr (WX k) M M2) ?_ ?_ (nA Y) 0 (by omega) 20000 _ M (by omega) ⟨rfl, by rw [show (sdA N 0).1 = 0 from rfl, Nat.zero_mul]; exact hS, hrow, Fr.rf⟩
    · rintro a ha G lv M2 - ⟨rfl, hS2, r2, f2⟩ z
      have hY2 := hS2.1
      have hN2 := hS2.2.1
      have gb := rfo_bd (lo := b * (st + 1) ^ (m + 1)) vbd hg ((sdA N a).1 * (st + 1) ^ m)
      simp (disch := omega) only [e280_16, sp197 hY2.r hY2.n, i_nat, Nat.add_zero, Nat.not_lt_zero, i_neg, i_lt, i_le, i_eq, i_add, i_addl, i_addr, i_mulr, i_mull, i_subl, i_pred, i_ltl, i_ltr, i_eql, i_em1, cIn_s, cVd_s, cLo_s, ic_true, ic_false, ic_same, i10, eq_self, b2_0, b2_1, b2_and, b2_t, b2_f, ck', ha, sp238 (B := 0) (b := 0) rfl hY2.r hY2.n hN2.r hN2.i (show 0 ≤ 1078 by omega) ha]
      have es := hsdA a
      cases hu : up N a
      · rw [hu] at es
        simp only [Bool.false_eq_true, if_false] at es
        rw [es] at z
        simp only [ic_true]
        exact z _ _ _ (by omega) ⟨rfl, hS2, r2, f2⟩
      · rw [hu] at es
        simp only [if_true] at es
        have e1 : (sdA N (a + 1)).1 = (sdA N a).1 + 1 := by rw [es]
        obtain ⟨g1, g2⟩ := hget a ha hu
        simp only [Bool.true_eq_false, ic_false]
        refine Hm_cVv (call (sdA N a).1 (Int32.ofNat a) _ M2 (by omega) (by unfold tko; rw [if_pos g1, g2]) hS2 gb r2) (fun M3 h3 => ?_)
        obtain ⟨h3a, h3b, h3c⟩ := h3
        refine z _ _ _ (by omega) ⟨rfl, ?_, h3b, f2.tr h3c⟩
        rw [e1, Nat.add_mul, Nat.one_mul, rfo_add]
        have e2 : b * (st + 1) ^ (m + 1) + (sdA N a).1 * (st + 1) ^ m = (b * (st + 1) + (sdA N a).1) * (st + 1) ^ m := by
          rw [Nat.add_mul, Nat.pow_succ, Nat.mul_assoc b, Nat.mul_comm (st + 1)]
        rw [e2]; exact h3a
    · rintro G lv M2 - ⟨rfl, hS2, r2, f2⟩
      have hY2 := hS2.1
      have gb := rfo_bd (lo := b * (st + 1) ^ (m + 1)) vbd hg ((sdA N (nA Y)).1 * (st + 1) ^ m)
      simp (disch := omega) only [e280_16, sp197 hY2.r hY2.n, i_nat, Nat.add_zero, Nat.not_lt_zero, i_neg, i_lt, i_le, i_eq, i_add, i_addl, i_addr, i_mulr, i_mull, i_subl, i_pred, i_ltl, i_ltr, i_eql, i_em1, cIn_s, cVd_s, cLo_s, ic_true, ic_false, ic_same, i10, eq_self, b2_0, b2_1, b2_and, b2_t, b2_f, ck', Nat.lt_irrefl]
      rw [hst] at hS2 gb
      refine Hm_cVv (call st (-1) _ M2 (Nat.le_refl _) (by unfold tko; rw [if_neg (by omega)]) hS2 gb r2) (fun M3 h3 => ?_)
      obtain ⟨h3a, h3b, h3c⟩ := h3
      refine Hm_some ⟨rfl, ?_, f2.tr h3c⟩
      have e2 : b * (st + 1) ^ (m + 1) + st * (st + 1) ^ m = (b * (st + 1) + st) * (st + 1) ^ m := by
        rw [Nat.add_mul, Nat.pow_succ, Nat.mul_assoc b, Nat.mul_comm (st + 1)]
      have e3 : (st + 1) ^ (m + 1) = st * (st + 1) ^ m + (st + 1) ^ m := by rw [Nat.pow_succ, Nat.mul_comm, Nat.add_mul, Nat.one_mul]
      have e4 : rfo vv g (b * (st + 1) ^ (m + 1)) ((st + 1) ^ (m + 1)) = rfo vv (rfo vv g (b * (st + 1) ^ (m + 1)) (st * (st + 1) ^ m)) ((b * (st + 1) + st) * (st + 1) ^ m) ((st + 1) ^ m) := by
        rw [← e2, ← rfo_add, ← e3]
      rw [e4]; exact h3a
end WORK7
