/-! carver, side, falls, thin -/
section RO2
variable {Y N S : YT} {t a s n c b d : Nat} {M : Mem} {p q : Int32} {tall props : Int32}
theorem ro_carver (hn : YN Y) (hi : SI Y t N) : RO 107 246 [vR 11 0 0, vI p, vI q] [vR 12 0 253, vI p, vI q] Y t N := by
  have h6 := hn.C6
  have hA := hn.A6
  by_cases hp : isIn p (nC Y) = true
  · obtain ⟨c, hc, rfl⟩ := isIn_ex (show nC Y < 2147483648 by omega) hp
    by_cases q0 : q = Int32.ofInt (0)
    · have hw : wi q 0 3 = true := by rw [q0]; decide
      have hl : (q < 2) = True := by rw [q0]; decide
      exact ⟨Y 11 c, fun d M hY hN => Hm_p (by simp (disch := omega) only [e107, sp108 hY.c hY.n, isIn_of (show nC Y < 2147483648 by omega) hc, i_nat, Nat.add_zero, Nat.not_lt_zero, i_neg, i_lt, i_le, i_eq, i_add, i_addl, i_addr, i_mulr, i_mull, i_subl, i_pred, i_ltl, i_ltr, i_eql, i_em1, cIn_s, cVd_s, cLo_s, ic_true, ic_false, ic_same, i10, eq_self, b2_0, b2_1, b2_and, b2_t, b2_f, ck', eq_true q0, hY.c]) Fr.rf, fun d M hY hN => Hm_p (by rw [show q = 0 from q0]; simp (disch := omega) only [e246, sp247 hY.th.r hY.th.n, isIn_of (show nC Y < 2147483648 by omega) hc, i_nat, Nat.add_zero, Nat.not_lt_zero, i_neg, i_lt, i_le, i_eq, i_add, i_addl, i_addr, i_mulr, i_mull, i_subl, i_pred, i_ltl, i_ltr, i_eql, i_em1, cIn_s, cVd_s, cLo_s, ic_true, ic_false, ic_same, i10, eq_self, b2_0, b2_1, b2_and, b2_t, b2_f, ck', sp222, show wi (0 : Int32) 0 3 = true by decide, show ((0 : Int32) < 2) = True by decide, hY.th.r.1.2.2.1 c hc]) th0⟩
    by_cases q1 : q = Int32.ofInt (1)
    · have hw : wi q 0 3 = true := by rw [q1]; decide
      have hl : (q < 2) = True := by rw [q1]; decide
      exact ⟨Y 12 c, fun d M hY hN => Hm_p (by simp (disch := omega) only [e107, sp108 hY.c hY.n, isIn_of (show nC Y < 2147483648 by omega) hc, i_nat, Nat.add_zero, Nat.not_lt_zero, i_neg, i_lt, i_le, i_eq, i_add, i_addl, i_addr, i_mulr, i_mull, i_subl, i_pred, i_ltl, i_ltr, i_eql, i_em1, cIn_s, cVd_s, cLo_s, ic_true, ic_false, ic_same, i10, eq_self, b2_0, b2_1, b2_and, b2_t, b2_f, ck', eq_false q0, eq_true q1, hY.c]) Fr.rf, fun d M hY hN => Hm_p (by rw [show q = 1 from q1]; simp (disch := omega) only [e246, sp247 hY.th.r hY.th.n, isIn_of (show nC Y < 2147483648 by omega) hc, i_nat, Nat.add_zero, Nat.not_lt_zero, i_neg, i_lt, i_le, i_eq, i_add, i_addl, i_addr, i_mulr, i_mull, i_subl, i_pred, i_ltl, i_ltr, i_eql, i_em1, cIn_s, cVd_s, cLo_s, ic_true, ic_false, ic_same, i10, eq_self, b2_0, b2_1, b2_and, b2_t, b2_f, ck', sp222, show wi (1 : Int32) 0 3 = true by decide, show ((1 : Int32) < 2) = True by decide, hY.th.r.1.2.2.1 c hc]) th0⟩
    by_cases q2 : q = Int32.ofInt (2)
    · have hw : wi q 0 3 = true := by rw [q2]; decide
      have hl : (q < 2) = False := by rw [q2]; decide
      have h2 : (q = 2) = True := eq_true q2
      exact ⟨N 5 c, fun d M hY hN => Hm_p (by simp (disch := omega) only [e107, sp108 hY.c hY.n, isIn_of (show nC Y < 2147483648 by omega) hc, i_nat, Nat.add_zero, Nat.not_lt_zero, i_neg, i_lt, i_le, i_eq, i_add, i_addl, i_addr, i_mulr, i_mull, i_subl, i_pred, i_ltl, i_ltr, i_eql, i_em1, cIn_s, cVd_s, cLo_s, ic_true, ic_false, ic_same, i10, eq_self, b2_0, b2_1, b2_and, b2_t, b2_f, ck', eq_false q0, eq_false q1, eq_true q2, hN.c.n]) Fr.rf, fun d M hY hN => Hm_p (by simp (disch := omega) only [e246, sp247 hY.th.r hY.th.n, isIn_of (show nC Y < 2147483648 by omega) hc, i_nat, Nat.add_zero, Nat.not_lt_zero, i_neg, i_lt, i_le, i_eq, i_add, i_addl, i_addr, i_mulr, i_mull, i_subl, i_pred, i_ltl, i_ltr, i_eql, i_em1, cIn_s, cVd_s, cLo_s, ic_true, ic_false, ic_same, i10, eq_self, b2_0, b2_1, b2_and, b2_t, b2_f, ck', sp222, hw, hl, h2, (hN.th hA).r.n.2.2.1 c (show c < 6 by omega)]) th0⟩
    by_cases q3 : q = Int32.ofInt (3)
    · have hw : wi q 0 3 = true := by rw [q3]; decide
      have hl : (q < 2) = False := by rw [q3]; decide
      have h2 : (q = 2) = False := eq_false q2
      cases hf : bt (N 0 9) c
      · exact ⟨0, fun d M hY hN => Hm_p (by simp (disch := omega) only [e107, sp108 hY.c hY.n, isIn_of (show nC Y < 2147483648 by omega) hc, i_nat, Nat.add_zero, Nat.not_lt_zero, i_neg, i_lt, i_le, i_eq, i_add, i_addl, i_addr, i_mulr, i_mull, i_subl, i_pred, i_ltl, i_ltr, i_eql, i_em1, cIn_s, cVd_s, cLo_s, ic_true, ic_false, ic_same, i10, eq_self, b2_0, b2_1, b2_and, b2_t, b2_f, ck', eq_false q0, eq_false q1, eq_false q2, eq_true q3, hN.c.n, sp64, hf]) Fr.rf, fun d M hY hN => Hm_p (by simp (disch := omega) only [e246, sp247 hY.th.r hY.th.n, isIn_of (show nC Y < 2147483648 by omega) hc, i_nat, Nat.add_zero, Nat.not_lt_zero, i_neg, i_lt, i_le, i_eq, i_add, i_addl, i_addr, i_mulr, i_mull, i_subl, i_pred, i_ltl, i_ltr, i_eql, i_em1, cIn_s, cVd_s, cLo_s, ic_true, ic_false, ic_same, i10, eq_self, b2_0, b2_1, b2_and, b2_t, b2_f, ck', sp222, hw, hl, h2, (hN.th hA).r.n.2.2.1 c (show c < 6 by omega), hf]) th0⟩
      · exact ⟨1, fun d M hY hN => Hm_p (by simp (disch := omega) only [e107, sp108 hY.c hY.n, isIn_of (show nC Y < 2147483648 by omega) hc, i_nat, Nat.add_zero, Nat.not_lt_zero, i_neg, i_lt, i_le, i_eq, i_add, i_addl, i_addr, i_mulr, i_mull, i_subl, i_pred, i_ltl, i_ltr, i_eql, i_em1, cIn_s, cVd_s, cLo_s, ic_true, ic_false, ic_same, i10, eq_self, b2_0, b2_1, b2_and, b2_t, b2_f, ck', eq_false q0, eq_false q1, eq_false q2, eq_true q3, hN.c.n, sp64, hf, Bool.true_eq_false]) Fr.rf, fun d M hY hN => Hm_p (by simp (disch := omega) only [e246, sp247 hY.th.r hY.th.n, isIn_of (show nC Y < 2147483648 by omega) hc, i_nat, Nat.add_zero, Nat.not_lt_zero, i_neg, i_lt, i_le, i_eq, i_add, i_addl, i_addr, i_mulr, i_mull, i_subl, i_pred, i_ltl, i_ltr, i_eql, i_em1, cIn_s, cVd_s, cLo_s, ic_true, ic_false, ic_same, i10, eq_self, b2_0, b2_1, b2_and, b2_t, b2_f, ck', sp222, hw, hl, h2, (hN.th hA).r.n.2.2.1 c (show c < 6 by omega), hf]) th0⟩
    have hw : wi q 0 3 = false := by
      rw [← Bool.not_eq_true]
      intro z
      obtain ⟨n, h8, rfl⟩ := wi_ex (m := 3) (by omega) z
      have hc : n = 0 ∨ n = 1 ∨ n = 2 ∨ n = 3 := by omega
      rcases hc with rfl | rfl | rfl | rfl
      · exact q0 rfl
      · exact q1 rfl
      · exact q2 rfl
      · exact q3 rfl
    exact ⟨-2, fun d M hY hN => Hm_p (by simp (disch := omega) only [e107, sp108 hY.c hY.n, isIn_of (show nC Y < 2147483648 by omega) hc, i_nat, Nat.add_zero, Nat.not_lt_zero, i_neg, i_lt, i_le, i_eq, i_add, i_addl, i_addr, i_mulr, i_mull, i_subl, i_pred, i_ltl, i_ltr, i_eql, i_em1, cIn_s, cVd_s, cLo_s, ic_true, ic_false, ic_same, i10, eq_self, b2_0, b2_1, b2_and, b2_t, b2_f, ck', eq_false q0, eq_false q1, eq_false q2, eq_false q3]) Fr.rf, fun d M hY hN => Hm_p (by simp (disch := omega) only [e246, sp247 hY.th.r hY.th.n, isIn_of (show nC Y < 2147483648 by omega) hc, i_nat, Nat.add_zero, Nat.not_lt_zero, i_neg, i_lt, i_le, i_eq, i_add, i_addl, i_addr, i_mulr, i_mull, i_subl, i_pred, i_ltl, i_ltr, i_eql, i_em1, cIn_s, cVd_s, cLo_s, ic_true, ic_false, ic_same, i10, eq_self, b2_0, b2_1, b2_and, b2_t, b2_f, ck', sp222, hw]) th0⟩
  · have hp' : isIn p (nC Y) = false := by simpa using hp
    exact ⟨-2, fun d M hY hN => Hm_p (by simp only [e107, sp108 hY.c hY.n, hp', cIn_s, cVd_s, cLo_s, ic_true, ic_false, ic_same, i10, eq_self, b2_0, b2_1, b2_and, b2_t, b2_f]) Fr.rf, fun d M hY hN => Hm_p (by simp only [e246, sp247 hY.th.r hY.th.n, hp', cIn_s, cVd_s, cLo_s, ic_true, ic_false, ic_same, i10, eq_self, b2_0, b2_1, b2_and, b2_t, b2_f]) th0⟩
def sidV (Y N : YT) (p : Int32) : Int32 := rf (fun x a => if inF Y N a && decide (Y 11 (mv Y a) = p) then x + Y 16 a else x) 0 (nA Y)
theorem sp111 (hY : IY Y M) (hN : IN Y t N M) (h0 : ¬ p < 0) (h1 : ¬ 1 < p) : Hm (evD (d + 40) 111 [vR 11 0 0, vI p] M) (fun r M' => r = some (vI (sidV Y N p)) ∧ M' = M) := by
  have h6 := hY.n.A6
  have hC := hY.n.C6
  simp only [e111, ic_f h0, ic_f h1, lp0_eq]
  refine lp_for (d := d + 39) (x := 111) (pc := 15) (nA Y) 1 0 (by omega) (fun i lv M' => lv = [some (vR 11 0 0), some (vI p), some (vI (rf (fun x a => if inF Y N a && decide (Y 11 (mv Y a) = p) then x + Y 16 a else x) 0 i)), some (vI (Int32.ofNat i))] ∧ M' = M) ?_ ?_ (nA Y) 0 (by omega) 20000 _ M (by omega) ⟨rfl, rfl⟩
  · rintro i hi G lv M' - ⟨rfl, rfl⟩ z
    have hm := hY.n.mC hi
    simp (disch := omega) only [e111_15, i_nat, Nat.add_zero, Nat.not_lt_zero, i_neg, i_lt, i_le, i_eq, i_add, i_addl, i_addr, i_mulr, i_mull, i_subl, i_pred, i_ltl, i_ltr, i_eql, i_em1, cIn_s, cVd_s, cLo_s, ic_true, ic_false, ic_same, i10, eq_self, b2_0, b2_1, b2_and, b2_t, b2_f, ck', hY.c, hY.n.A, hi, sp96 hY.c hN.c, hY.n.m hi]
    cases hf : inF Y N i
    · simp only [cIn_s, cVd_s, cLo_s, ic_true, ic_false, ic_same]; exact z _ _ _ (by omega) ⟨by simp [rf, hf], rfl⟩
    · simp only [cIn_s, cVd_s, cLo_s, ic_true, ic_false, ic_same, Bool.true_eq_false]
      refine Hm_ic (fun h => ?_) (fun h => ?_)
      · exact z _ _ _ (by omega) ⟨by simp [rf, hf, h], rfl⟩
      · exact z _ _ _ (by omega) ⟨by simp [rf, hf, h], rfl⟩
  · rintro G lv M' - ⟨rfl, rfl⟩
    simp (disch := omega) only [e111_15, i_nat, Nat.add_zero, Nat.not_lt_zero, i_neg, i_lt, i_le, i_eq, i_add, i_addl, i_addr, i_mulr, i_mull, i_subl, i_pred, i_ltl, i_ltr, i_eql, i_em1, cIn_s, cVd_s, cLo_s, ic_true, ic_false, ic_same, i10, eq_self, b2_0, b2_1, b2_and, b2_t, b2_f, ck', hY.c, hY.n.A, Nat.lt_irrefl]
    exact Hm_some ⟨rfl, rfl⟩
theorem bt_m1 {e : Nat} (he : e < 32) : bt (-1) e = true := by
  have : ∀ e : Fin 32, bt (-1) e.1 = true := by decide
  exact this ⟨e, he⟩
theorem bt_force (hn : YN Y) {e : Nat} (he : e < 32) : bt (force Y N) e = (decide (e < nA Y) && inF Y N e) := bt_rf _ _ (by have := hn.A6; omega) e he
theorem bt_side (hn : YN Y) : ∀ n, n ≤ nA Y → ∀ e, e < nA Y → bt (rf (fun (s : Int32) a => s &&& (if Y 11 (mv Y a) = p then (-1 : Int32) else ((1 : Int32) <<< (Int32.ofNat a &&& 31)) ^^^ (-1))) (force Y N) n) e = (inF Y N e && (decide (n ≤ e) || decide (Y 11 (mv Y e) = p)))
  | 0, _, e, he => by
    have h6 := hn.A6
    simp [rf, bt_force hn (show e < 32 by omega), he]
  | n + 1, hk, e, he => by
    have h6 := hn.A6
    have ih := bt_side hn n (by omega) e he
    simp only [rf]
    rw [bt_and, ih]
    by_cases h : Y 11 (mv Y n) = p
    · simp only [h, if_true, bt_m1 (show e < 32 by omega), Bool.and_true]
      by_cases z : e = n
      · subst z; simp [h]
      · have : decide (n ≤ e) = decide (n + 1 ≤ e) := by rw [decide_eq_decide]; omega
        rw [this]
    · simp only [h, if_false, bt_not (show e < 32 by omega), bt_sh (show n < 32 by omega) (show e < 32 by omega)]
      by_cases z : e = n
      · subst z; simp [h]
      · have : decide (n ≤ e) = decide (n + 1 ≤ e) := by rw [decide_eq_decide]; omega
        simp [this, z]
theorem rf_cong {α : Type} {f g : α → Nat → α} {x : α} : ∀ n, (∀ y a, a < n → f y a = g y a) → rf f x n = rf g x n
  | 0, _ => rfl
  | n + 1, h => by simp only [rf]; rw [rf_cong n (fun y a ha => h y a (by omega)), h _ n (by omega)]
theorem sid_eq (hn : YN Y) : wor Y (rf (fun (s : Int32) a => s &&& (if Y 11 (mv Y a) = p then (-1 : Int32) else ((1 : Int32) <<< (Int32.ofNat a &&& 31)) ^^^ (-1))) (force Y N) (nA Y)) = sidV Y N p := by
  refine rf_cong _ (fun y a ha => ?_)
  rw [bt_side hn _ (Nat.le_refl _) a ha]
  have : ¬ nA Y ≤ a := by omega
  simp only [this, decide_false, Bool.false_or]
  split <;> simp
theorem sp251 (hY : IY Y M) (hN : IN Y t N M) (hw : wi p 0 1 = true) : Hm (evD (d + 40) 251 [vR 12 0 253, vI p] M) (fun r M' => r = some (vI (sidV Y N p)) ∧ M' = sI M 253 0 0) := by
  have h6 := hY.n.A6
  have hC := hY.n.C6
  have hY' := hY.th
  have hN' := hN.th h6
  simp only [e251, sp222, hw, cIn_s, b2_t, i10, ic_false, sp250 (B := 0) (b := 0) rfl hY'.r hY'.n hN'.r hN'.i (show 0 ≤ 1078 by omega), lp0_eq]
  refine lp_for (d := d + 39) (x := 251) (pc := 24) (nA Y) 1 0 (by omega) (fun i lv M' => lv = [some (vR 12 0 253), some (vI p), some (vI (rf (fun (s : Int32) a => s &&& (if Y 11 (mv Y a) = p then (-1 : Int32) else ((1 : Int32) <<< (Int32.ofNat a &&& 31)) ^^^ (-1))) (force Y N) i)), some (vI (Int32.ofNat i))] ∧ M' = sI M 253 0 0) ?_ ?_ (nA Y) 0 (by omega) 20000 _ _ (by omega) ⟨rfl, rfl⟩
  · rintro i hi G lv M' - ⟨rfl, rfl⟩ z
    have hm := hY.n.mC hi
    simp (disch := omega) only [e251_24, i_nat, Nat.add_zero, Nat.not_lt_zero, i_neg, i_lt, i_le, i_eq, i_add, i_addl, i_addr, i_mulr, i_mull, i_subl, i_pred, i_ltl, i_ltr, i_eql, i_em1, cIn_s, cVd_s, cLo_s, ic_true, ic_false, ic_same, i10, eq_self, b2_0, b2_1, b2_and, b2_t, b2_f, ck', sp197 hY'.r hY'.n, hi, sp198 (p := 4) 4 rfl, hY'.r.1.2.2.2.1 i hi, hY.n.m hi, hY'.r.1.2.2.1 (mv Y i) hm]
    refine Hm_ic (fun h => ?_) (fun h => ?_)
    · exact z _ _ _ (by omega) ⟨by simp [rf, h], rfl⟩
    · exact z _ _ _ (by omega) ⟨by simp [rf, h], rfl⟩
  · rintro G lv M' - ⟨rfl, rfl⟩
    simp (disch := omega) only [e251_24, i_nat, Nat.add_zero, Nat.not_lt_zero, i_neg, i_lt, i_le, i_eq, i_add, i_addl, i_addr, i_mulr, i_mull, i_subl, i_pred, i_ltl, i_ltr, i_eql, i_em1, cIn_s, cVd_s, cLo_s, ic_true, ic_false, ic_same, i10, eq_self, b2_0, b2_1, b2_and, b2_t, b2_f, ck', sp197 hY'.r hY'.n, Nat.lt_irrefl, sp252 hY'.r hY'.n]
    exact Hm_some ⟨by rw [sid_eq hY.n], rfl⟩
theorem ro_side (hn : YN Y) : RO 111 251 [vR 11 0 0, vI p] [vR 12 0 253, vI p] Y t N := by
  by_cases h0 : p < 0
  · have hw : wi p 0 1 = false := by unfold wi; simp [h0]
    exact ⟨-1, fun d M hY hN => Hm_p (by simp only [e111, ic_t h0]) Fr.rf, fun d M hY hN => Hm_p (by simp only [e251, sp222, hw, cIn_s, cVd_s, cLo_s, ic_true, ic_false, ic_same, i10, eq_self, b2_0, b2_1, b2_and, b2_t, b2_f]) th0⟩
  · by_cases h1 : 1 < p
    · have hw : wi p 0 1 = false := by unfold wi; simp [h1]
      exact ⟨-1, fun d M hY hN => Hm_p (by simp only [e111, ic_f h0, ic_t h1]) Fr.rf, fun d M hY hN => Hm_p (by simp only [e251, sp222, hw, cIn_s, cVd_s, cLo_s, ic_true, ic_false, ic_same, i10, eq_self, b2_0, b2_1, b2_and, b2_t, b2_f]) th0⟩
    · have hw : wi p 0 1 = true := by unfold wi; simp [h0, h1]
      exact ⟨sidV Y N p, fun d M hY hN => Hm_mono (sp111 hY hN h0 h1) (fun r M' h => ⟨h.1, h.2 ▸ Fr.rf⟩), fun d M hY hN => Hm_mono (sp251 hY hN hw) (fun r M' h => ⟨h.1, h.2 ▸ th0⟩)⟩
end RO2
