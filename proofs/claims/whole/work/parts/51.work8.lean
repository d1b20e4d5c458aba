/-! work alike, the end -/
section WORK8
variable {Y N S T : YT} {t a s n c b d e u k j i m W R x st : Nat} {M : Mem} {p p1 q f set props deg : Int32} {wk sd : Nat → Nat} {tk bk : Nat → Int32}
theorem rfo_0 {v : Nat → Nat} : rfo v (0, 0) (0 * m) m = gW v m := by
  unfold rfo gW
  exact rf_cong m (fun g j _ => by rw [Nat.zero_mul, Nat.zero_add])
theorem gW_pos {v : Nat → Nat} : ∀ m, (gW v (m + 1)).1 ≠ 0
  | 0 => by
    show (stp v (0, 0) 0).1 ≠ 0
    unfold stp; rw [if_pos (Nat.zero_le _)]; exact Nat.succ_ne_zero _
  | m + 1 => by
    have ih := gW_pos (v := v) m
    show (stp v (gW v (m + 1)) (m + 1)).1 ≠ 0
    unfold stp; split
    · exact Nat.succ_ne_zero _
    · exact ih
def tkR (W : Nat) (wk : Nat → Nat) (st : Nat) (sd : Nat → Nat) (x c : Nat) : Nat → Int32 := rf (fun f k => if wk k = c then tko st sd (dig (st + 1) W x k) else f) (-1)
theorem tkR_at (hw : ∀ k, k < W → ∀ k', k' < k → wk k' < wk k) : ∀ j, j ≤ W → (∀ k, k < j → wk k = c → tkR W wk st sd x c j = tko st sd (dig (st + 1) W x k)) ∧ ((∀ k, k < j → wk k ≠ c) → tkR W wk st sd x c j = -1)
  | 0, _ => ⟨fun k hk => by omega, fun _ => rfl⟩
  | j + 1, hj => by
    have ih := tkR_at hw j (by omega)
    have e : tkR W wk st sd x c (j + 1) = if wk j = c then tko st sd (dig (st + 1) W x j) else tkR W wk st sd x c j := rfl
    rw [e]
    refine ⟨fun k hk hc => ?_, fun h => ?_⟩
    · by_cases y : k = j
      · subst y; rw [if_pos hc]
      · have := hw j (by omega) k (by omega)
        rw [if_neg (by omega)]; exact ih.1 k (by omega) hc
    · rw [if_neg (h j (by omega))]; exact ih.2 (fun k hk => h k (by omega))
theorem TKM_at {g : Nat × Nat} (h : TKM W wk st sd g M) (hg : g.1 ≠ 0) (hw : ∀ k, k < W → ∀ k', k' < k → wk k' < wk k) (hc : c < 6) : M.1 70 c = tkR W wk st sd g.2 c W := by
  have ht := tkR_at (c := c) (st := st) (sd := sd) (x := g.2) hw W (Nat.le_refl _)
  by_cases z : ∃ k, k < W ∧ wk k = c
  · obtain ⟨k, hk, rfl⟩ := z
    rw [ht.1 k hk rfl, h.1 k hk, if_neg hg]
  · have z' : ∀ k, k < W → wk k ≠ c := fun k hk e => z ⟨k, hk, e⟩
    rw [ht.2 z', h.2 c hc z']
theorem ro_work (hn : YN Y) (hG : YG Y) : RO 153 278 [vR 11 0 0, vI p, vI p1] [vR 12 0 253, vI p, vI p1] Y t N := by
  have h6 := hn.A6
  have hC := hn.C6
  have ivW := wkA_inv (N := N) (nC Y)
  have ivS := sdA_inv (N := N) (nA Y)
  by_cases h1 : p < 1
  · have hw : wi p 1 6 = false := by unfold wi; simp [h1]
    exact ⟨-2, fun d M hY hN => Hm_p (by simp only [e153, ic_t h1]) Fr.rf, fun d M hY hN => Hm_p (by simp only [e278, sp222, hw, cIn_s, cVd_s, cLo_s, ic_true, ic_false, ic_same, i10, eq_self, b2_0, b2_1, b2_and, b2_t, b2_f]) th0⟩
  by_cases h2 : 6 < p
  · have hw : wi p 1 6 = false := by unfold wi; simp [h2]
    exact ⟨-2, fun d M hY hN => Hm_p (by simp only [e153, ic_f h1, ic_t h2]) Fr.rf, fun d M hY hN => Hm_p (by simp only [e278, sp222, hw, cIn_s, cVd_s, cLo_s, ic_true, ic_false, ic_same, i10, eq_self, b2_0, b2_1, b2_and, b2_t, b2_f]) th0⟩
  have hw : wi p 1 6 = true := by unfold wi; simp [h1, h2]
  by_cases h3 : p1 < 0
  · have hw1 : wi p1 0 (Int32.ofNat (nC Y)) = false := by unfold wi; simp [h3]
    exact ⟨-2, fun d M hY hN => Hm_p (by simp only [e153, ic_f h1, ic_f h2, ic_t h3]) Fr.rf, fun d M hY hN => Hm_p (by simp only [e278, sp222, hw, hw1, sp248 hY.th.r hY.th.n, cIn_s, cVd_s, cLo_s, ic_true, ic_false, ic_same, i10, eq_self, b2_0, b2_1, b2_and, b2_t, b2_f]) th0⟩
  by_cases h4 : Int32.ofNat (nC Y) < p1
  · have hw1 : wi p1 0 (Int32.ofNat (nC Y)) = false := by unfold wi; simp [h4]
    exact ⟨-2, fun d M hY hN => Hm_p (by simp only [e153, ic_f h1, ic_f h2, ic_f h3, hY.c, hY.n.C, ic_t h4]) Fr.rf, fun d M hY hN => Hm_p (by simp only [e278, sp222, hw, hw1, sp248 hY.th.r hY.th.n, cIn_s, cVd_s, cLo_s, ic_true, ic_false, ic_same, i10, eq_self, b2_0, b2_1, b2_and, b2_t, b2_f]) th0⟩
  have hw1 : wi p1 0 (Int32.ofNat (nC Y)) = true := by unfold wi; simp [h3, h4]
  obtain ⟨n, n1, n6, rfl⟩ := wi_ex1 (l := 1) (m := 6) (by omega) (by omega) hw
  obtain ⟨w, wC, rfl⟩ := wi_ex (m := nC Y) (by omega) hw1
  have hcl := fun (d : Nat) (M : Mem) (hY : IY Y M) (hN : IN Y t N M) => sp154 (d := d + 29) hY hN n6
  have vbd : ∀ x, vrw Y N (wkA N (nC Y)).1 (wkA N (nC Y)).2 (sdA N (nA Y)).1 (sdA N (nA Y)).2 n x ≤ 600 := fun x => vrw_bd hG (by omega) (fun k hk => (ivS.2 k hk).1)
  have href := fun (d : Nat) (M : Mem) (hS : WS Y N t (wkA N (nC Y)).1 (wkA N (nC Y)).2 (sdA N (nA Y)).1 (sdA N (nA Y)).2 (0, 0) M) => sp280 (N := N) (t := t) n6 hn hG (wkA N (nC Y)).1 0 (by omega) (d + 30 - (wkA N (nC Y)).1) M (0, 0) 0 hS (by show 0 ≤ 601; omega) (fun j hj => by omega)
  have hpos : 0 < ((sdA N (nA Y)).1 + 1) ^ (wkA N (nC Y)).1 := Nat.pow_pos (by omega)
  have hW4 : (wkA N (nC Y)).1 ≤ 4 := ivW.1
  have hg0 : (gW (vrw Y N (wkA N (nC Y)).1 (wkA N (nC Y)).2 (sdA N (nA Y)).1 (sdA N (nA Y)).2 n) (((sdA N (nA Y)).1 + 1) ^ (wkA N (nC Y)).1)).1 ≠ 0 := by
    obtain ⟨m, hm⟩ : ∃ m, ((sdA N (nA Y)).1 + 1) ^ (wkA N (nC Y)).1 = m + 1 := ⟨((sdA N (nA Y)).1 + 1) ^ (wkA N (nC Y)).1 - 1, by omega⟩
    rw [hm]; exact gW_pos m
  have hlt : ∀ k, k < (wkA N (nC Y)).1 → ∀ k', k' < k → (wkA N (nC Y)).2 k' < (wkA N (nC Y)).2 k := fun k hk => (ivW.2.2 k hk).2.2
  have hwC : ∀ k, k < (wkA N (nC Y)).1 → (wkA N (nC Y)).2 k < nC Y := fun k hk => (ivW.2.2 k hk).1
  simp only [rfo_0] at href
  generalize gW (vrw Y N (wkA N (nC Y)).1 (wkA N (nC Y)).2 (sdA N (nA Y)).1 (sdA N (nA Y)).2 n) (((sdA N (nA Y)).1 + 1) ^ (wkA N (nC Y)).1) = g at *
  refine ⟨if w = 0 then Int32.ofNat g.1 - 1 else tkR (wkA N (nC Y)).1 (wkA N (nC Y)).2 (sdA N (nA Y)).1 (sdA N (nA Y)).2 g.2 (w - 1) (wkA N (nC Y)).1, fun d M hY hN => ?_, fun d M hY hN => ?_⟩
  · simp only [e153, ic_f h1, ic_f h2, ic_f h3, hY.c, hY.n.C, ic_f h4]
    refine Hm_cIn (hcl d M hY hN) (fun a M1 h => ⟨_, h.1, ?_⟩)
    obtain ⟨-, tk, f1⟩ := h
    by_cases y : w = 0
    · subst y
      rw [ic_t (show Int32.ofNat 0 = 0 from rfl)]
      exact Hm_some ⟨by rw [if_pos rfl], f1⟩
    · have e1 := TKM_at tk hg0 hlt (c := w - 1) (by omega)
      simp (disch := omega) only [i_nat, Nat.add_zero, Nat.not_lt_zero, i_neg, i_lt, i_le, i_eq, i_add, i_addl, i_addr, i_mulr, i_mull, i_subl, i_pred, i_ltl, i_ltr, i_eql, i_em1, cIn_s, cVd_s, cLo_s, ic_true, ic_false, ic_same, i10, eq_self, b2_0, b2_1, b2_and, b2_t, b2_f, ck', y, e1, if_false]
      exact Hm_some ⟨rfl, f1⟩
  · have hY' := hY.th
    have hN' := hN.th h6
    simp only [e278, sp222, hw, hw1, sp248 hY'.r hY'.n, cIn_s, b2_t, i10, ic_false]
    refine Hm_cVv (sp279 hY' hN') (fun M1 h1 => ?_)
    obtain ⟨tk1, f1⟩ := h1
    have f1' : Fr ScW M (sI M1 253 32 (-1)) := (th0.tr (f1.up (fun c j h => by unfold ScW; omega))).sI (by unfold ScW; omega)
    have hS : WS Y N t (wkA N (nC Y)).1 (wkA N (nC Y)).2 (sdA N (nA Y)).1 (sdA N (nA Y)).2 (0, 0) (sI M1 253 32 (-1)) := by
      refine ⟨hY.sc f1', hN.sc h6 f1', by rw [sI_ne (by omega)]; exact tk1.1, fun k hk => by rw [sI_ne (by omega)]; exact tk1.2 k hk, by rw [sI_eq]; rfl, fun h => absurd rfl h⟩
    have call := href d _ hS
    rw [show d + 30 - (wkA N (nC Y)).1 + (wkA N (nC Y)).1 + 9 = d + 39 by omega] at call
    refine Hm_cVv call (fun M2 h2 => ?_)
    obtain ⟨⟨hY2, hN2, q31, q71, q32, q73⟩, f2⟩ := h2
    have f2' : Fr ScW M M2 := f1'.tr (f2.up (fun c j h => by unfold WX WW ScW at *; omega))
    have q73' := q73 hg0
    by_cases y : w = 0
    · subst y
      rw [ic_t (show Int32.ofNat 0 = 0 from rfl)]
      exact Hm_some ⟨by rw [if_pos rfl, q32], f2'⟩
    · simp (disch := omega) only [i_nat, Nat.add_zero, Nat.not_lt_zero, i_neg, i_lt, i_le, i_eq, i_add, i_addl, i_addr, i_mulr, i_mull, i_subl, i_pred, i_ltl, i_ltr, i_eql, i_em1, y, ic_false, lp0_eq, if_false]
      refine lp_for (d := d + 39) (x := 278) (pc := 59) (wkA N (nC Y)).1 1 0 (by omega) (fun j lv M3 => lv = [some (vR 12 0 253), some (vI (Int32.ofNat n)), some (vI (Int32.ofNat w)), some (vI (tkR (wkA N (nC Y)).1 (wkA N (nC Y)).2 (sdA N (nA Y)).1 (sdA N (nA Y)).2 g.2 (w - 1) j)), some (vI (Int32.ofNat j))] ∧ M3 = M2) ?_ ?_ (wkA N (nC Y)).1 0 (by omega) 20000 _ M2 (by omega) ⟨rfl, rfl⟩
      · rintro j hj G lv M3 - ⟨rfl, rfl⟩ z
        have hw6 := hwC j hj
        have e : tkR (wkA N (nC Y)).1 (wkA N (nC Y)).2 (sdA N (nA Y)).1 (sdA N (nA Y)).2 g.2 (w - 1) (j + 1) = if (wkA N (nC Y)).2 j = w - 1 then tko (sdA N (nA Y)).1 (sdA N (nA Y)).2 (dig ((sdA N (nA Y)).1 + 1) (wkA N (nC Y)).1 g.2 j) else tkR (wkA N (nC Y)).1 (wkA N (nC Y)).2 (sdA N (nA Y)).1 (sdA N (nA Y)).2 g.2 (w - 1) j := rfl
        rw [e] at z
        simp (disch := omega) only [e278_59, i_nat, Nat.add_zero, Nat.not_lt_zero, i_neg, i_lt, i_le, i_eq, i_add, i_addl, i_addr, i_mulr, i_mull, i_subl, i_pred, i_ltl, i_ltr, i_eql, i_em1, cIn_s, cVd_s, cLo_s, ic_true, ic_false, ic_same, i10, eq_self, b2_0, b2_1, b2_and, b2_t, b2_f, ck', q31, hj, q71 j hj, q73' j hj]
        refine Hm_ic (fun h => ?_) (fun h => ?_)
        · exact z _ _ _ (by omega) ⟨by rw [if_pos h], rfl⟩
        · exact z _ _ _ (by omega) ⟨by rw [if_neg h], rfl⟩
      · rintro G lv M3 - ⟨rfl, rfl⟩
        simp (disch := omega) only [e278_59, i_nat, Nat.add_zero, Nat.not_lt_zero, i_neg, i_lt, i_le, i_eq, i_add, i_addl, i_addr, i_mulr, i_mull, i_subl, i_pred, i_ltl, i_ltr, i_eql, i_em1, cIn_s, cVd_s, cLo_s, ic_true, ic_false, ic_same, i10, eq_self, b2_0, b2_1, b2_and, b2_t, b2_f, ck', q31, Nat.lt_irrefl]
        exact Hm_some ⟨rfl, f2'⟩
end WORK8
