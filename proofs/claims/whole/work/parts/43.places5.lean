/-! places alike -/
section PLACES5
variable {Y N S : YT} {t a s n c b d e u k j met B P cn : Nat} {M : Mem} {p q x f set props deg : Int32}
theorem rwS_pcs : ∀ k j, k + j = nA Y → ∀ i, j ≤ i → i < nA Y → rwS Y N (nA Y) (nB Y) k (mt Y N j) i = pcs Y N i
  | 0, j, h, i, h1, h2 => by omega
  | k + 1, j, h, i, h1, h2 => by
    have ih := rwS_pcs k (j + 1) (by omega) i
    have ej : nA Y - (k + 1) = j := by omega
    have ek : nA Y - (j + 1) = k := by omega
    have er : rwS Y N (nA Y) (nB Y) (k + 1) (mt Y N j) i = if i = nA Y - (k + 1) then chs (gn Y N (nA Y - (k + 1))) (bs (gn Y N) (nA Y) (nB Y) k) (mt Y N j) (nB Y) else rwS Y N (nA Y) (nB Y) k (if chs (gn Y N (nA Y - (k + 1))) (bs (gn Y N) (nA Y) (nB Y) k) (mt Y N j) (nB Y) = -1 then mt Y N j else mt Y N j ||| 2 ^ (chs (gn Y N (nA Y - (k + 1))) (bs (gn Y N) (nA Y) (nB Y) k) (mt Y N j) (nB Y)).toNatClampNeg) i := rfl
    rw [er, ej]
    have em : mt Y N (j + 1) = if chs (gn Y N j) (bs (gn Y N) (nA Y) (nB Y) (nA Y - (j + 1))) (mt Y N j) (nB Y) = -1 then mt Y N j else mt Y N j ||| 2 ^ (chs (gn Y N j) (bs (gn Y N) (nA Y) (nB Y) (nA Y - (j + 1))) (mt Y N j) (nB Y)).toNatClampNeg := rfl
    rw [ek] at em
    by_cases y : i = j
    · subst y; rw [if_pos rfl]; unfold pcs; rw [ek]
    · rw [if_neg y, ← em]; exact ih (by omega) h2
theorem opn_sm : ∀ k, k ≤ n → opn N n k + sm (fun a => if bt (N 0 7) a then 0 else 1) (n - k) = sm (fun a => if bt (N 0 7) a then 0 else 1) n
  | 0, _ => by simp [opn]
  | k + 1, h => by
    have ih := opn_sm k (by omega)
    obtain ⟨m, hm⟩ : ∃ m, n - k = m + 1 := ⟨n - k - 1, by omega⟩
    have em : n - (k + 1) = m := by omega
    rw [hm] at ih
    simp only [sm] at ih
    show opn N n k + (if bt (N 0 7) (n - (k + 1)) then 0 else 1) + sm _ (n - (k + 1)) = _
    rw [em]; omega
theorem places_r (hY : IY Y M) (hN : IN Y t N M) (hp : p = -1 ∨ ∃ i, i < nA Y ∧ p = Int32.ofNat i) : Hm (lp (d + 39) 282 20000 28 [some (vR 12 0 253), some (vI p), some (vI 0), some (vI 0), some (vI 0), none] M) (fun r M' => r = some (vI (if p = -1 then Int32.ofNat (bs (gn Y N) (nA Y) (nB Y) (nA Y) 0 % 1000) else pcs Y N p.toNatClampNeg)) ∧ Fr ScW M M') := by
  have h6 := hY.n.A6
  have hB := hY.n.B6
  have hn := hY.n
  refine lp_for (d := d + 39) (x := 282) (pc := 28) (nB Y) 1 1000 (by omega) (fun i lv M' => ∃ o, lv = [some (vR 12 0 253), some (vI p), some (vI (Int32.ofNat (frs Y N i 0))), some (vI 0), some (vI (Int32.ofNat i)), o] ∧ M' = M) ?_ ?_ (nB Y) 0 (by omega) 20000 _ M (by omega) ⟨_, rfl, rfl⟩
  · rintro i hi G lv M' - ⟨o, rfl, rfl⟩ z
    have es : frs Y N (i + 1) 0 = frs Y N i 0 + (if free Y N (Int32.ofNat i) then 1 else 0) := by
      show sm _ i + (if free Y N (Int32.ofNat i) && !Nat.testBit 0 i then 1 else 0) = _
      rw [Nat.zero_testBit]; simp [frs]
    rw [es] at z
    simp (disch := omega) only [e282_28, sp255 hY.r hY.n, i_nat, Nat.add_zero, Nat.not_lt_zero, i_neg, i_lt, i_le, i_eq, i_add, i_addl, i_addr, i_mulr, i_mull, i_subl, i_pred, i_ltl, i_ltr, i_eql, i_em1, cIn_s, cVd_s, cLo_s, ic_true, ic_false, ic_same, i10, eq_self, b2_0, b2_1, b2_and, b2_t, b2_f, ck', hi, sp257 (B := 0) (b := 0) rfl hY.r hY.n hN.r hN.i (show 0 ≤ 1078 by omega) (show i < 1000 by omega), Int32.add_zero]
    cases hf : free Y N (Int32.ofNat i)
    · simp only [ic_true]
      exact z _ _ _ (by omega) ⟨o, by simp [hf], rfl⟩
    · simp only [Bool.true_eq_false, ic_false]
      exact z _ _ _ (by omega) ⟨o, by simp [hf], rfl⟩
  · rintro G lv M' hG ⟨o, rfl, rfl⟩
    simp (disch := omega) only [e282_28, sp255 hY.r hY.n, i_nat, Nat.add_zero, Nat.not_lt_zero, i_neg, i_lt, i_le, i_eq, i_add, i_addl, i_addr, i_mulr, i_mull, i_subl, i_pred, i_ltl, i_ltr, i_eql, i_em1, cIn_s, cVd_s, cLo_s, ic_true, ic_false, ic_same, i10, eq_self, b2_0, b2_1, b2_and, b2_t, b2_f, ck', Nat.lt_irrefl]
    have hfb : frs Y N (nB Y) 0 ≤ 6 := by
      have := sm_bd (f := fun s => if free Y N (Int32.ofNat s) && !Nat.testBit 0 s then 1 else 0) (k := 1) (nB Y) (fun s _ => by split <;> omega)
      unfold frs; omega
    refine lp_for (d := d + 39) (x := 282) (pc := 64) (nA Y) 20 100 (by omega) (fun i lv M2 => ∃ o, lv = [some (vR 12 0 253), some (vI p), some (vI (Int32.ofNat (frs Y N (nB Y) 0))), some (vI (Int32.ofNat (sm (fun a => if bt (N 0 7) a then 0 else 1) i))), some (vI (Int32.ofNat i)), o] ∧ (∀ a s, a < i → s < nB Y → M2.1 274 (6 * a + s) = Int32.ofNat (fall Y a s 0 (nnt N) (Y 14 a) 0 40)) ∧ Fr ScW M' M2) ?_ ?_ (nA Y) 0 (by omega) _ _ M' (by omega) ⟨_, rfl, fun a s h => by omega, Fr.rf⟩
    · rintro i hi G2 lv M2 hG2 ⟨o, rfl, hl, f2⟩ z
      have hY2 := hY.sc f2
      have hN2 := hN.sc h6 f2
      have k1 := (hN2.r.n.2.1 i hi).1
      have hh := how_0 hN.i (show i < 32 by omega)
      have inner : ∀ (v : Nat), v = sm (fun a => if bt (N 0 7) a then 0 else 1) (i + 1) → Hm (lp (d + 39) 282 (G2 + 19) 96 [some (vR 12 0 253), some (vI p), some (vI (Int32.ofNat (frs Y N (nB Y) 0))), some (vI (Int32.ofNat v)), some (vI (Int32.ofNat i)), some (vI 0)] M2) (fun r M'' => r = some (vI (if p = -1 then Int32.ofNat (bs (gn Y N) (nA Y) (nB Y) (nA Y) 0 % 1000) else pcs Y N p.toNatClampNeg)) ∧ Fr ScW M' M'') := by
        rintro v rfl
        refine lp_for (d := d + 39) (x := 282) (pc := 96) (nB Y) 1 G2 (by omega) (fun j lv M3 => lv = [some (vR 12 0 253), some (vI p), some (vI (Int32.ofNat (frs Y N (nB Y) 0))), some (vI (Int32.ofNat (sm (fun a => if bt (N 0 7) a then 0 else 1) (i + 1)))), some (vI (Int32.ofNat i)), some (vI (Int32.ofNat j))] ∧ (∀ a s, a < i → s < nB Y → M3.1 274 (6 * a + s) = Int32.ofNat (fall Y a s 0 (nnt N) (Y 14 a) 0 40)) ∧ (∀ s, s < j → M3.1 274 (6 * i + s) = Int32.ofNat (fall Y i s 0 (nnt N) (Y 14 i) 0 40)) ∧ Fr ScW M' M3) ?_ ?_ (nB Y) 0 (by omega) _ _ M2 (by omega) ⟨rfl, hl, fun s hs => by omega, f2⟩
        · rintro j hj G3 lv M3 hG3 ⟨rfl, l1, l2, f3⟩ z3
          have hY3 := hY.sc f3
          have hN3 := hN.sc h6 f3
          have r1 := (hY3.r.1.2.2.2.1 i hi).2.1
          simp (disch := omega) only [e282_96, sp255 hY3.r hY3.n, i_nat, Nat.add_zero, Nat.not_lt_zero, i_neg, i_lt, i_le, i_eq, i_add, i_addl, i_addr, i_mulr, i_mull, i_subl, i_pred, i_ltl, i_ltr, i_eql, i_em1, cIn_s, cVd_s, cLo_s, ic_true, ic_false, ic_same, i10, eq_self, b2_0, b2_1, b2_and, b2_t, b2_f, ck', hj, sp198 (p := 1) 1 rfl, r1]
          refine Hm_cIv (sp283 hY3 hN3 hi hj) (fun M4 f4 => ?_)
          refine z3 _ _ _ (by omega) ⟨rfl, fun a s h1 h2 => ?_, fun s h1 => ?_, (f3.tr (W67 f4)).sI (by unfold ScW; omega)⟩
          · rw [sI_ne (by omega), f4.i (by omega)]; exact l1 a s h1 h2
          · by_cases y : s = j
            · subst y; rw [sI_eq]
            · rw [sI_ne (by omega), f4.i (by omega)]; exact l2 s (by omega)
        · rintro G3 lv M3 hG3 ⟨rfl, l1, l2, f3⟩
          have hY3 := hY.sc f3
          simp (disch := omega) only [e282_96, sp255 hY3.r hY3.n, i_nat, Nat.add_zero, Nat.not_lt_zero, i_neg, i_lt, i_le, i_eq, i_add, i_addl, i_addr, i_mulr, i_mull, i_subl, i_pred, i_ltl, i_ltr, i_eql, i_em1, cIn_s, cVd_s, cLo_s, ic_true, ic_false, ic_same, i10, eq_self, b2_0, b2_1, b2_and, b2_t, b2_f, ck', Nat.lt_irrefl]
          refine z _ _ _ (by omega) ⟨_, rfl, fun a s h1 h2 => ?_, f3⟩
          by_cases y : a = i
          · subst y; exact l2 s h2
          · exact l1 a s (by omega) h2
      simp (disch := omega) only [e282_64, sp197 hY2.r hY2.n, i_nat, Nat.add_zero, Nat.not_lt_zero, i_neg, i_lt, i_le, i_eq, i_add, i_addl, i_addr, i_mulr, i_mull, i_subl, i_pred, i_ltl, i_ltr, i_eql, i_em1, cIn_s, cVd_s, cLo_s, ic_true, ic_false, ic_same, i10, eq_self, b2_0, b2_1, b2_and, b2_t, b2_f, ck', hi, k1, Int32.add_zero]
      refine Hm_ic (fun h => ?_) (fun h => ?_)
      · exact inner _ (by simp only [sm]; rw [hh.mp h]; rfl)
      · have : bt (N 0 7) i = true := by
          cases q : bt (N 0 7) i
          · exact absurd (hh.mpr q) h
          · rfl
        exact inner _ (by simp only [sm]; rw [this]; rfl)
    · rintro G2 lv M2 hG2 ⟨o, rfl, hl, f2⟩
      have hY2 := hY.sc f2
      have hop : sm (fun a => if bt (N 0 7) a then 0 else 1) (nA Y) = opn N (nA Y) (nA Y) := by
        have := opn_sm (N := N) (n := nA Y) (nA Y) (Nat.le_refl _)
        rw [Nat.sub_self] at this; simp only [sm] at this; omega
      have hol := opn_le (N := N) (A := nA Y) (nA Y)
      rw [hop]
      obtain ⟨nm, eb, hnm⟩ := bs_form (Y := Y) (N := N) (B := nB Y) h6 (nA Y) (Nat.le_refl _) 0
      have fin : ∀ P, P = min (opn N (nA Y) (nA Y)) (frs Y N (nB Y) 0) → Hm (cVd (evD (d + 39) 284 [vR 12 0 253, vI 0, vI 0, vI 0, vI 0] (sI (sI M2 253 37 (Int32.ofNat P)) 253 36 (-1))) fun M4 => ic (p < 0) (some (some (vI (M4.1 253 36)), M4)) (ic (p < 0 ∨ 6 ≤ p.toNatClampNeg) none (some (some (vI (M4.1 276 p.toNatClampNeg)), M4)))) (fun r M'' => r = some (vI (if p = -1 then Int32.ofNat (bs (gn Y N) (nA Y) (nB Y) (nA Y) 0 % 1000) else pcs Y N p.toNatClampNeg)) ∧ Fr ScW M' M'') := by
        intro P hP
        have f3 : Fr ScW M' (sI (sI M2 253 37 (Int32.ofNat P)) 253 36 (-1)) := (f2.sI (by unfold ScW; omega)).sI (by unfold ScW; omega)
        have hps : PS Y N t P (0, fun i => M2.1 276 i) (nA Y - nA Y) (fun _ => 0) (sI (sI M2 253 37 (Int32.ofNat P)) 253 36 (-1)) := by
          refine ⟨hY.sc f3, hN.sc h6 f3, by rw [sI_ne (by omega), sI_eq], by rw [sI_eq]; rfl, fun i hi => by rw [sI_ne (by omega), sI_ne (by omega)], fun i hi => by omega, fun a s h1 h2 => by rw [sI_ne (by omega), sI_ne (by omega)]; exact hl a s h1 h2⟩
        have call := sp284 (t := t) (N := N) hn (P := P) (by omega) (nA Y) (Nat.le_refl _) (d + 33 - nA Y) _ _ _ 0 0 0 hps (Nat.two_pow_pos _) (by omega) (by omega) (by show 0 ≤ 400; omega)
        rw [show d + 33 - nA Y + nA Y + 6 = d + 39 by omega, Nat.sub_self] at call
        refine Hm_cVv call (fun M4 h4 => ?_)
        obtain ⟨⟨-, -, -, q4, q5, -, -⟩, f4⟩ := h4
        have eU : UP P 0 0 (0, fun i => M2.1 276 i) (bs (gn Y N) (nA Y) (nB Y) (nA Y) 0) (rJ 0 (fun _ => 0) (rwS Y N (nA Y) (nB Y) (nA Y) 0)) = (0 + bs (gn Y N) (nA Y) (nB Y) (nA Y) 0 % 1000 + 1, rJ 0 (fun _ => 0) (rwS Y N (nA Y) (nB Y) (nA Y) 0)) := by
          unfold UP; rw [if_pos]
          rw [eb]; exact ⟨by omega, by show 0 ≤ _; omega⟩
        rw [eU] at q4 q5
        dsimp only at q4 q5
        have f5 : Fr ScW M' M4 := f3.tr (f4.up (fun c j h => by unfold PW ScW at *; omega))
        rcases hp with rfl | ⟨i, hi, rfl⟩
        · rw [ic_t (by decide), q4, if_pos rfl, i_subl (by omega), Nat.add_sub_cancel, Nat.zero_add]
          exact Hm_some ⟨rfl, f5⟩
        · have e5 := q5 i hi
          have er : rJ 0 (fun _ => 0) (rwS Y N (nA Y) (nB Y) (nA Y) 0) i = pcs Y N i := by
            unfold rJ; rw [if_neg (by omega)]; exact rwS_pcs (nA Y) 0 (by omega) i (by omega) hi
          rw [er] at e5
          simp (disch := omega) only [i_nat, Nat.add_zero, Nat.not_lt_zero, i_neg, i_lt, i_le, i_eq, i_add, i_addl, i_addr, i_mulr, i_mull, i_subl, i_pred, i_ltl, i_ltr, i_eql, i_em1, cIn_s, cVd_s, cLo_s, ic_true, ic_false, ic_same, i10, eq_self, b2_0, b2_1, b2_and, b2_t, b2_f, ck', e5, if_false]
          exact Hm_some ⟨rfl, f5⟩
      simp (disch := omega) only [e282_64, sp197 hY2.r hY2.n, i_nat, Nat.add_zero, Nat.not_lt_zero, i_neg, i_lt, i_le, i_eq, i_add, i_addl, i_addr, i_mulr, i_mull, i_subl, i_pred, i_ltl, i_ltr, i_eql, i_em1, cIn_s, cVd_s, cLo_s, ic_true, ic_false, ic_same, i10, eq_self, b2_0, b2_1, b2_and, b2_t, b2_f, ck', Nat.lt_irrefl]
      refine Hm_ic (fun h => ?_) (fun h => ?_)
      · exact fin _ (by omega)
      · exact fin _ (by omega)
theorem ro_places (hn : YN Y) : RO 163 282 [vR 11 0 0, vI p] [vR 12 0 253, vI p] Y t N := by
  have h6 := hn.A6
  by_cases hp1 : p = -1
  · refine ⟨Int32.ofNat (bs (gn Y N) (nA Y) (nB Y) (nA Y) 0 % 1000), fun d M hY hN => ?_, fun d M hY hN => ?_⟩
    · simp only [e163, ic_t hp1]
      exact Hm_mono (Hm_cIn (sp164 hY hN) (fun a M1 h => ⟨_, h.1, Hm_some (Q := fun r M' => r = some (vI (Int32.ofNat (bs (gn Y N) (nA Y) (nB Y) (nA Y) 0 % 1000))) ∧ Fr ScW M M') ⟨rfl, h.2.2⟩⟩)) (fun r M' h => h)
    · have := places_r (d := d) (p := p) hY.th (hN.th h6) (.inl hp1)
      rw [if_pos hp1] at this
      simp only [e282, ic_t hp1, lp0_eq]
      exact Hm_mono this (fun r M' h => ⟨h.1, th0.tr h.2⟩)
  · by_cases hp : isIn p (nA Y) = true
    · obtain ⟨i, hi, rfl⟩ := isIn_ex (show nA Y < 2147483648 by omega) hp
      refine ⟨pcs Y N i, fun d M hY hN => ?_, fun d M hY hN => ?_⟩
      · simp only [e163, ic_f hp1, sp94 hY.c hY.n, hp, cIn_s, b2_t, i10, ic_false]
        refine Hm_cIn (sp164 hY hN) (fun a M1 h => ⟨_, h.1, ?_⟩)
        simp (disch := omega) only [i_nat, Nat.add_zero, Nat.not_lt_zero, i_neg, i_lt, i_le, i_eq, i_add, i_addl, i_addr, i_mulr, i_mull, i_subl, i_pred, i_ltl, i_ltr, i_eql, i_em1, cIn_s, cVd_s, cLo_s, ic_true, ic_false, ic_same, i10, eq_self, b2_0, b2_1, b2_and, b2_t, b2_f, ck', h.2.1 i hi]
        exact Hm_some ⟨rfl, h.2.2⟩
      · have := places_r (d := d) (p := Int32.ofNat i) hY.th (hN.th h6) (.inr ⟨i, hi, rfl⟩)
        rw [if_neg hp1, i_nat (by omega)] at this
        simp only [e282, ic_f hp1, sp237 hY.th.r hY.th.n, hp, cIn_s, b2_t, i10, ic_false, lp0_eq]
        exact Hm_mono this (fun r M' h => ⟨h.1, th0.tr h.2⟩)
    · have hp' : isIn p (nA Y) = false := by simpa using hp
      exact ⟨-2, fun d M hY hN => Hm_p (by simp only [e163, ic_f hp1, sp94 hY.c hY.n, hp', cIn_s, cVd_s, cLo_s, ic_true, ic_false, ic_same, i10, eq_self, b2_0, b2_1, b2_and, b2_t, b2_f]) Fr.rf, fun d M hY hN => Hm_p (by simp only [e282, ic_f hp1, sp237 hY.th.r hY.th.n, hp', cIn_s, cVd_s, cLo_s, ic_true, ic_false, ic_same, i10, eq_self, b2_0, b2_1, b2_and, b2_t, b2_f]) th0⟩
end PLACES5
