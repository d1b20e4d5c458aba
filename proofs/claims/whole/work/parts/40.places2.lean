/-! places: the class -/
section PLACES2
variable {Y N S : YT} {t a s n c b d e u k j met B : Nat} {M : Mem} {p q x f set props deg : Int32}
theorem i_or {a b : Nat} (ha : a < 4294967296) (hb : b < 4294967296) : Int32.ofNat a ||| Int32.ofNat b = Int32.ofNat (a ||| b) := by
  refine bt_ext (fun e he => ?_)
  rw [bt_or, bt_nat ha, bt_nat hb, bt_nat (show a ||| b < 2 ^ 32 from Nat.or_lt_two_pow ha hb), Nat.testBit_or]
theorem or_64 (h : met < 64) (hs : s < 6) : met ||| 2 ^ s < 64 := Nat.or_lt_two_pow (n := 6) h (Nat.pow_lt_pow_right (by omega) hs)
theorem or_B (h : met < 2 ^ B) (hs : s < B) : met ||| 2 ^ s < 2 ^ B := Nat.or_lt_two_pow h (Nat.pow_lt_pow_right (by omega) hs)
theorem i_setb (h : met < 64) (hs : s < 6) : Int32.ofNat met ||| 1 <<< (Int32.ofNat s &&& 31) = Int32.ofNat (met ||| 2 ^ s) := by
  have := pow64 (n := s) (by omega)
  rw [sh_pow (by omega), i_or (by omega) (by omega)]
def GM (Y N : YT) (n : Nat) (M : Mem) : Prop := ∀ a, a < n → ∀ s, s < nB Y → M.1 (84 + a) s = Int32.ofNat (gn Y N a s)
theorem sp165 (hY : IY Y M) (hN : IN Y t N M) : Hm (evD (d + 8) 165 [vR 3 0 69] M) (fun r M' => r = none ∧ GM Y N (nA Y) M' ∧ Fr ScW M M') := by
  have h6 := hY.n.A6
  have hB := hY.n.B6
  have ht := hN.t
  have hnb := hN.i.nb
  rw [e165]; simp only [lp0_eq]
  refine lp_for (d := d + 7) (x := 165) (pc := 2) (nA Y) 20 0 (by omega) (fun i lv M' => ∃ o, lv = [some (vR 3 0 69), some (vI (Int32.ofNat i)), o] ∧ GM Y N i M' ∧ Fr ScW M M') ?_ ?_ (nA Y) 0 (by omega) 20000 _ M (by omega) ⟨_, rfl, fun a ha => by omega, Fr.rf⟩
  · rintro i hi G lv M' - ⟨o, rfl, hg, hf⟩ z
    have hY' := hY.sc hf
    simp (disch := omega) only [e165_2, i_nat, Nat.add_zero, Nat.not_lt_zero, i_neg, i_lt, i_le, i_eq, i_add, i_addl, i_addr, i_mulr, i_mull, i_subl, i_pred, i_ltl, i_ltr, i_eql, i_em1, cIn_s, cVd_s, cLo_s, ic_true, ic_false, ic_same, i10, eq_self, b2_0, b2_1, b2_and, b2_t, b2_f, ck', hY'.c, hY'.n.A, hi]
    refine lp_for (d := d + 7) (x := 165) (pc := 18) (nB Y) 1 G (by omega) (fun j lv M2 => lv = [some (vR 3 0 69), some (vI (Int32.ofNat i)), some (vI (Int32.ofNat j))] ∧ GM Y N i M2 ∧ (∀ s, s < j → M2.1 (84 + i) s = Int32.ofNat (gn Y N i s)) ∧ Fr ScW M M2) ?_ ?_ (nB Y) 0 (by omega) _ _ M' (by omega) ⟨rfl, hg, fun s hs => by omega, hf⟩
    · rintro j hj G2 lv M2 hG2 ⟨rfl, g2, r2, f2⟩ z2
      have hY2 := hY.sc f2
      have hN2 := hN.sc h6 f2
      have fin : ∀ M3 v, Fr (fun c _ => c = 22) M2 M3 → v = Int32.ofNat (gn Y N i j) → GM Y N i (sI M3 (84 + i) j v) ∧ (∀ s, s < j + 1 → (sI M3 (84 + i) j v).1 (84 + i) s = Int32.ofNat (gn Y N i s)) ∧ Fr ScW M (sI M3 (84 + i) j v) := fun M3 v f3 hv => by
        refine ⟨fun a ha s hs => ?_, fun s hs => ?_, (f2.tr (W22 f3)).sI (by unfold ScW; omega)⟩
        · rw [sI_ne (by omega), f3.i (by omega)]; exact g2 a ha s hs
        · by_cases y : s = j
          · subst y; rw [sI_eq, hv]
          · rw [sI_ne (.inr y), f3.i (by omega)]; exact r2 s (by omega)
      simp (disch := omega) only [e165_18, i_nat, Nat.add_zero, Nat.not_lt_zero, i_neg, i_lt, i_le, i_eq, i_add, i_addl, i_addr, i_mulr, i_mull, i_subl, i_pred, i_ltl, i_ltr, i_eql, i_em1, cIn_s, cVd_s, cLo_s, ic_true, ic_false, ic_same, i10, eq_self, b2_0, b2_1, b2_and, b2_t, b2_f, ck', hY2.c, hY2.n.B, hj, sp118 hY2.c hY2.n hN2.c, Nat.reduceAdd, hN2.c.n, hN2.i.n]
      cases hm : mayB Y N i (Int32.ofNat j)
      · simp only [ic_true]
        obtain ⟨q1, q2, q3⟩ := fin M2 0 Fr.rf (by rw [gn_0.mpr hm]; rfl)
        exact z2 _ _ _ (by omega) ⟨rfl, q1, q2, q3⟩
      · simp only [Bool.true_eq_false, ic_false]
        refine Hm_cIv (sp148 (c := 40) hY2.c hY2.n hY2.l (by omega) (by omega) (by omega) (by omega)) (fun M3 f3 => ?_)
        have hl := fall_le (Y := Y) (a := i) (s := j) (props := 0) (n := nnt N) 40 (Y 14 i) 0
        simp (disch := omega) only [i_nat, Nat.add_zero, Nat.not_lt_zero, i_neg, i_lt, i_le, i_eq, i_add, i_addl, i_addr, i_mulr, i_mull, i_subl, i_pred, i_ltl, i_ltr, i_eql, i_em1, cIn_s, cVd_s, cLo_s, ic_true, ic_false, ic_same, i10, eq_self, b2_0, b2_1, b2_and, b2_t, b2_f, ck']
        obtain ⟨q1, q2, q3⟩ := fin M3 (Int32.ofNat (1000 + fall Y i j 0 (nnt N) (Y 14 i) 0 40)) f3 (by unfold gn; rw [hm]; rfl)
        exact z2 _ _ _ (by omega) ⟨rfl, q1, q2, q3⟩
    · rintro G2 lv M2 hG2 ⟨rfl, g2, r2, f2⟩
      have hY2 := hY.sc f2
      simp (disch := omega) only [e165_18, i_nat, Nat.add_zero, Nat.not_lt_zero, i_neg, i_lt, i_le, i_eq, i_add, i_addl, i_addr, i_mulr, i_mull, i_subl, i_pred, i_ltl, i_ltr, i_eql, i_em1, cIn_s, cVd_s, cLo_s, ic_true, ic_false, ic_same, i10, eq_self, b2_0, b2_1, b2_and, b2_t, b2_f, ck', hY2.c, hY2.n.B, Nat.lt_irrefl]
      refine z _ _ _ (by omega) ⟨_, rfl, fun a ha s hs => ?_, f2⟩
      by_cases y : a = i
      · subst y; exact r2 s hs
      · exact g2 a (by omega) s hs
  · rintro G lv M' - ⟨o, rfl, hg, hf⟩
    have hY' := hY.sc hf
    simp (disch := omega) only [e165_2, i_nat, Nat.add_zero, Nat.not_lt_zero, i_neg, i_lt, i_le, i_eq, i_add, i_addl, i_addr, i_mulr, i_mull, i_subl, i_pred, i_ltl, i_ltr, i_eql, i_em1, cIn_s, cVd_s, cLo_s, ic_true, ic_false, ic_same, i10, eq_self, b2_0, b2_1, b2_and, b2_t, b2_f, ck', hY'.c, hY'.n.A, Nat.lt_irrefl]
    exact Hm_some ⟨rfl, hg, hf⟩
theorem opn_le {A : Nat} : ∀ k, opn N A k ≤ k
  | 0 => Nat.le_refl _
  | k + 1 => by
    have := opn_le (A := A) k
    show opn N A k + (if bt (N 0 7) (A - (k + 1)) then 0 else 1) ≤ k + 1
    split <;> omega
theorem bs_bd {A : Nat} (hA : A ≤ 6) (hk : k ≤ A) : bs (gn Y N) A B k met ≤ 7000 := by
  obtain ⟨nm, e, h⟩ := bs_form (Y := Y) (N := N) (B := B) hA k hk met
  have := opn_le (N := N) (A := A) k
  rw [e]; omega
/-- the class's table of the best, for the k last acts -/
def BM (Y N : YT) (k : Nat) (M : Mem) : Prop := ∀ k', k' ≤ k → ∀ u, u < 2 ^ nB Y → M.1 (91 + (nA Y - k')) u = Int32.ofNat (bs (gn Y N) (nA Y) (nB Y) k' u)
theorem sp166 (hY : IY Y M) (hG : GM Y N (nA Y) M) : Hm (evD (d + 2) 166 [vR 3 0 69] M) (fun r M' => r = none ∧ BM Y N (nA Y) M' ∧ Fr (fun c _ => 91 ≤ c ∧ c ≤ 97) M M') := by
  have h6 := hY.n.A6
  have hB := hY.n.B6
  have h64 := pow64 hB
  have e8 := hY.c.2.2.2.1
  rw [e166]
  simp (disch := omega) only [e8, hY.n.A, i_nat, Nat.add_zero, Nat.not_lt_zero, i_neg, i_lt, i_le, i_eq, i_add, i_addl, i_addr, i_mulr, i_mull, i_subl, i_pred, i_ltl, i_ltr, i_eql, i_em1, cIn_s, cVd_s, cLo_s, ic_true, ic_false, ic_same, i10, eq_self, b2_0, b2_1, b2_and, b2_t, b2_f, ck', sp2, hY.c, hY.n.B, Nat.reduceAdd, flI_ne, sh_pow hB, lp0_eq]
  refine lp_for (d := d + 1) (x := 166) (pc := 45) (nA Y) 1000 0 (by omega) (fun i lv M' => ∃ o3 o4 o5, lv = [some (vR 3 0 69), some (vI (Int32.ofNat (2 ^ nB Y))), some (vI (Int32.ofNat (nA Y - i) - 1)), o3, o4, o5] ∧ BM Y N i M' ∧ Fr (fun c _ => 91 ≤ c ∧ c ≤ 97) M M') ?_ ?_ (nA Y) 0 (by omega) 20000 _ _ (by omega) ⟨_, _, _, rfl, fun k' hk u hu => ?_, Fr.rf.flI (fun j _ => by omega)⟩
  · rintro i hi G lv M' - ⟨o3, o4, o5, rfl, hb, hf⟩ z
    have gM : ∀ s, s < nB Y → M'.1 (84 + (nA Y - (i + 1))) s = Int32.ofNat (gn Y N (nA Y - (i + 1)) s) := fun s hs => (hf.i (by omega)).trans (hG _ (by omega) s hs)
    have ea : nA Y - i - 1 = nA Y - (i + 1) := by omega
    have hY' : IY Y M' := hY.fr hf (fun c j hc => by unfold yc at *; omega)
    rw [show G + 1000 = (G + 999) + 1 from rfl, e166_45, i_subl (by omega), ea]
    simp (disch := omega) only [i_nat, Nat.add_zero, Nat.not_lt_zero, i_neg, i_lt, i_le, i_eq, i_add, i_addl, i_addr, i_mulr, i_mull, i_subl, i_pred, i_ltl, i_ltr, i_eql, i_em1, cIn_s, cVd_s, cLo_s, ic_true, ic_false, ic_same, i10, eq_self, b2_0, b2_1, b2_and, b2_t, b2_f, ck']
    generalize hA : nA Y - (i + 1) = a at *
    refine lp_for (d := d + 1) (x := 166) (pc := 51) (2 ^ nB Y) 10 (G + 100) (by omega) (fun u lv M2 => ∃ o4 o5, lv = [some (vR 3 0 69), some (vI (Int32.ofNat (2 ^ nB Y))), some (vI (Int32.ofNat a)), some (vI (Int32.ofNat u)), o4, o5] ∧ (∀ w, w < u → M2.1 (91 + a) w = Int32.ofNat (bs (gn Y N) (nA Y) (nB Y) (i + 1) w)) ∧ Fr (fun c _ => c = 91 + a) M' M2) ?_ ?_ (2 ^ nB Y) 0 (by omega) _ _ M' (by omega) ⟨_, _, rfl, fun w hw => by omega, Fr.rf⟩
    · rintro u hu G2 lv M2 hG2 ⟨o4, o5, rfl, r2, f2⟩ z2
      have bM : ∀ w, w < 2 ^ nB Y → M2.1 (91 + (a + 1)) w = Int32.ofNat (bs (gn Y N) (nA Y) (nB Y) i w) := fun w hw => by
        rw [f2.i (by omega)]
        have := hb i (Nat.le_refl _) w hw
        rwa [show nA Y - i = a + 1 by omega] at this
      have gM2 : ∀ s, s < nB Y → M2.1 (84 + a) s = Int32.ofNat (gn Y N a s) := fun s hs => (f2.i (by omega)).trans (gM s hs)
      have hY2 : IY Y M2 := hY'.fr f2 (fun c j hc => by unfold yc at *; omega)
      simp (disch := omega) only [e166_51, i_nat, Nat.add_zero, Nat.not_lt_zero, i_neg, i_lt, i_le, i_eq, i_add, i_addl, i_addr, i_mulr, i_mull, i_subl, i_pred, i_ltl, i_ltr, i_eql, i_em1, cIn_s, cVd_s, cLo_s, ic_true, ic_false, ic_same, i10, eq_self, b2_0, b2_1, b2_and, b2_t, b2_f, ck', hu, Nat.reduceAdd, bM]
      refine lp_for (d := d + 1) (x := 166) (pc := 71) (nB Y) 1 (G2 + 1) (by omega) (fun j lv M3 => lv = [some (vR 3 0 69), some (vI (Int32.ofNat (2 ^ nB Y))), some (vI (Int32.ofNat a)), some (vI (Int32.ofNat u)), some (vI (Int32.ofNat (rf (fun m s => max m (wv (gn Y N a) (bs (gn Y N) (nA Y) (nB Y) i) u s)) (bs (gn Y N) (nA Y) (nB Y) i u) j))), some (vI (Int32.ofNat j))] ∧ rf (fun m s => max m (wv (gn Y N a) (bs (gn Y N) (nA Y) (nB Y) i) u s)) (bs (gn Y N) (nA Y) (nB Y) i u) j ≤ 10000 ∧ M3 = M2) ?_ ?_ (nB Y) 0 (by omega) _ _ M2 (by omega) ⟨rfl, by have := bs_bd (Y := Y) (N := N) (B := nB Y) (met := u) h6 (show i ≤ nA Y by omega); show bs (gn Y N) (nA Y) (nB Y) i u ≤ 10000; omega, rfl⟩
      · rintro j hj G3 lv M3 hG3 ⟨rfl, bd, rfl⟩ z3
        have es : rf (fun m s => max m (wv (gn Y N a) (bs (gn Y N) (nA Y) (nB Y) i) u s)) (bs (gn Y N) (nA Y) (nB Y) i u) (j + 1) = max (rf (fun m s => max m (wv (gn Y N a) (bs (gn Y N) (nA Y) (nB Y) i) u s)) (bs (gn Y N) (nA Y) (nB Y) i u) j) (wv (gn Y N a) (bs (gn Y N) (nA Y) (nB Y) i) u j) := rfl
        rw [es] at z3
        generalize rf (fun m s => max m (wv (gn Y N a) (bs (gn Y N) (nA Y) (nB Y) i) u s)) (bs (gn Y N) (nA Y) (nB Y) i u) j = g at *
        have hg := gn_rg (Y := Y) (N := N) (a := a) (s := j)
        have hw := bs_bd (Y := Y) (N := N) (B := nB Y) (met := u ||| 2 ^ j) h6 (show i ≤ nA Y by omega)
        have o64 := or_64 (met := u) (s := j) (by omega) (by omega)
        have oB := or_B hu hj
        simp (disch := omega) only [e166_71, i_nat, Nat.add_zero, Nat.not_lt_zero, i_neg, i_lt, i_le, i_eq, i_add, i_addl, i_addr, i_mulr, i_mull, i_subl, i_pred, i_ltl, i_ltr, i_eql, i_em1, cIn_s, cVd_s, cLo_s, ic_true, ic_false, ic_same, i10, eq_self, b2_0, b2_1, b2_and, b2_t, b2_f, ck', hY2.c, hY2.n.B, hj, Nat.reduceAdd, gM2, sp64, bt_nat, i_setb]
        by_cases h0 : gn Y N a j = 0
        · have e0 : wv (gn Y N a) (bs (gn Y N) (nA Y) (nB Y) i) u j = 0 := by unfold wv; rw [if_pos (.inl h0)]
          rw [e0, show max g 0 = g by omega] at z3
          simp only [h0, Nat.lt_irrefl, ic_false]
          exact z3 _ _ _ (by omega) ⟨rfl, bd, rfl⟩
        · simp only [eq_true (show 0 < gn Y N a j by omega), ic_true]
          cases hb' : u.testBit j
          · have e0 : wv (gn Y N a) (bs (gn Y N) (nA Y) (nB Y) i) u j = gn Y N a j + bs (gn Y N) (nA Y) (nB Y) i (u ||| 2 ^ j) := by unfold wv; rw [if_neg (by simp [h0, hb'])]
            rw [e0] at z3
            simp (disch := omega) only [ic_true, bM, sp21, cIn_s, i_add, imaxN]
            exact z3 _ _ _ (by omega) ⟨rfl, by omega, rfl⟩
          · have e0 : wv (gn Y N a) (bs (gn Y N) (nA Y) (nB Y) i) u j = 0 := by unfold wv; rw [if_pos (.inr hb')]
            rw [e0, show max g 0 = g by omega] at z3
            simp only [Bool.true_eq_false, ic_false]
            exact z3 _ _ _ (by omega) ⟨rfl, bd, rfl⟩
      · rintro G3 lv M3 hG3 ⟨rfl, bd, rfl⟩
        simp (disch := omega) only [e166_71, i_nat, Nat.add_zero, Nat.not_lt_zero, i_neg, i_lt, i_le, i_eq, i_add, i_addl, i_addr, i_mulr, i_mull, i_subl, i_pred, i_ltl, i_ltr, i_eql, i_em1, cIn_s, cVd_s, cLo_s, ic_true, ic_false, ic_same, i10, eq_self, b2_0, b2_1, b2_and, b2_t, b2_f, ck', hY2.c, hY2.n.B, Nat.lt_irrefl, Nat.reduceAdd]
        refine z2 _ _ _ (by omega) ⟨_, _, rfl, fun w hw => ?_, f2.sI rfl⟩
        by_cases y : w = u
        · subst y; rw [sI_eq, ← hA]; rfl
        · rw [sI_ne (.inr y)]; exact r2 w (by omega)
    · rintro G2 lv M2 hG2 ⟨o4, o5, rfl, r2, f2⟩
      simp (disch := omega) only [e166_51, i_nat, Nat.add_zero, Nat.not_lt_zero, i_neg, i_lt, i_le, i_eq, i_add, i_addl, i_addr, i_mulr, i_mull, i_subl, i_pred, i_ltl, i_ltr, i_eql, i_em1, cIn_s, cVd_s, cLo_s, ic_true, ic_false, ic_same, i10, eq_self, b2_0, b2_1, b2_and, b2_t, b2_f, ck', Nat.lt_irrefl]
      refine z _ _ _ (by omega) ⟨some (vI (Int32.ofNat (2 ^ nB Y))), o4, o5, by rw [Int32.sub_eq_add_neg], fun k' hk u hu => ?_, hf.tr (f2.up (fun c j h => by omega))⟩
      by_cases y : k' = i + 1
      · subst y; rw [hA]; exact r2 u hu
      · rw [f2.i (by omega)]; exact hb k' (by omega) u hu
  · rintro G lv M' - ⟨o3, o4, o5, rfl, hb, hf⟩
    rw [show G + 1000 = (G + 999) + 1 from rfl, e166_45, Nat.sub_self, ic_t (by decide)]
    exact Hm_some ⟨rfl, hb, hf⟩
  · obtain rfl : k' = 0 := by omega
    rw [Nat.sub_zero, flI_eq (by omega)]; rfl
/-- the row that is taken -/
def mt (Y N : YT) : Nat → Nat
  | 0 => 0
  | i + 1 => if chs (gn Y N i) (bs (gn Y N) (nA Y) (nB Y) (nA Y - (i + 1))) (mt Y N i) (nB Y) = -1 then mt Y N i else mt Y N i ||| 2 ^ (chs (gn Y N i) (bs (gn Y N) (nA Y) (nB Y) (nA Y - (i + 1))) (mt Y N i) (nB Y)).toNatClampNeg
def pcs (Y N : YT) (i : Nat) : Int32 := chs (gn Y N i) (bs (gn Y N) (nA Y) (nB Y) (nA Y - (i + 1))) (mt Y N i) (nB Y)
theorem chs_ex {g nx : Nat → Nat} : chs g nx met B = -1 ∨ ∃ s, s < B ∧ chs g nx met B = Int32.ofNat s := by
  unfold chs
  split
  · rcases rn_at (g := g) (nx := nx) (met := met) B with ⟨-, h⟩ | ⟨s, hs, h, -⟩
    · exact .inl h
    · exact .inr ⟨s, hs, h⟩
  · exact .inl rfl
theorem mt_B (hn : YN Y) : ∀ i, mt Y N i < 2 ^ nB Y
  | 0 => Nat.two_pow_pos _
  | i + 1 => by
    have ih := mt_B hn i
    have hB := hn.B6
    unfold mt
    split
    · exact ih
    · rename_i h
      rcases chs_ex (g := gn Y N i) (nx := bs (gn Y N) (nA Y) (nB Y) (nA Y - (i + 1))) (met := mt Y N i) (B := nB Y) with q | ⟨s, hs, q⟩
      · exact absurd q h
      · rw [q, i_nat (by omega)]; exact or_B ih hs
theorem sp167 (hY : IY Y M) (hG : GM Y N (nA Y) M) (hb : BM Y N (nA Y) M) (ha : a < nA Y) (hu : u < 2 ^ nB Y) : evD (d + 2) 167 [vR 3 0 69, vI (Int32.ofNat a), vI (Int32.ofNat u)] M = some (some (vI (chs (gn Y N a) (bs (gn Y N) (nA Y) (nB Y) (nA Y - (a + 1))) u (nB Y))), M) := by
  have h6 := hY.n.A6
  have hB := hY.n.B6
  have h64 := pow64 hB
  obtain ⟨k, hk⟩ : ∃ k, nA Y = a + 1 + k := ⟨nA Y - (a + 1), by omega⟩
  have ek : nA Y - (a + 1) = k := by omega
  have ea : nA Y - (k + 1) = a := by omega
  rw [ek]
  have bM : ∀ w, w < 2 ^ nB Y → M.1 (91 + (a + 1)) w = Int32.ofNat (bs (gn Y N) (nA Y) (nB Y) k w) := fun w hw => by
    have := hb k (by omega) w hw
    rwa [show nA Y - k = a + 1 by omega] at this
  have bM1 : ∀ w, w < 2 ^ nB Y → M.1 (91 + a) w = Int32.ofNat (bs (gn Y N) (nA Y) (nB Y) (k + 1) w) := fun w hw => by
    have := hb (k + 1) (by omega) w hw
    rwa [ea] at this
  have hrn := bs_rn (g := gn Y N) (A := nA Y) (B := nB Y) (k := k) (met := u)
  rw [ea] at hrn
  have hat := rn_at (g := gn Y N a) (nx := bs (gn Y N) (nA Y) (nB Y) k) (met := u) (nB Y)
  have hge := rn_ge (g := gn Y N a) (nx := bs (gn Y N) (nA Y) (nB Y) k) (met := u) (nB Y)
  have h : Hm (evD (d + 2) 167 [vR 3 0 69, vI (Int32.ofNat a), vI (Int32.ofNat u)] M) (fun r M' => r = some (vI (chs (gn Y N a) (bs (gn Y N) (nA Y) (nB Y) k) u (nB Y))) ∧ M' = M) := by
    rw [e167]; simp only [lp0_eq]
    refine lp_for (d := d + 1) (x := 167) (pc := 2) (nB Y) 1 0 (by omega) (fun i lv M' => lv = [some (vR 3 0 69), some (vI (Int32.ofNat a)), some (vI (Int32.ofNat u)), some (vI (Int32.ofNat i))] ∧ (∀ s, s < i → wv (gn Y N a) (bs (gn Y N) (nA Y) (nB Y) k) u s ≠ 0 → wv (gn Y N a) (bs (gn Y N) (nA Y) (nB Y) k) u s ≠ bs (gn Y N) (nA Y) (nB Y) (k + 1) u) ∧ M' = M) ?_ ?_ (nB Y) 0 (by omega) 20000 _ M (by omega) ⟨rfl, fun s hs => by omega, rfl⟩
    · rintro i hi G lv M' - ⟨rfl, hq, rfl⟩ z
      have hg := gn_rg (Y := Y) (N := N) (a := a) (s := i)
      have gM := hG a ha i hi
      have hw := bs_bd (Y := Y) (N := N) (B := nB Y) (met := u ||| 2 ^ i) h6 (show k ≤ nA Y by omega)
      have hw1 := bs_bd (Y := Y) (N := N) (B := nB Y) (met := u) h6 (show k + 1 ≤ nA Y by omega)
      have o64 := or_64 (met := u) (s := i) (by omega) (by omega)
      have oB := or_B hu hi
      have step : (wv (gn Y N a) (bs (gn Y N) (nA Y) (nB Y) k) u i ≠ 0 → wv (gn Y N a) (bs (gn Y N) (nA Y) (nB Y) k) u i ≠ bs (gn Y N) (nA Y) (nB Y) (k + 1) u) → Hm (lp (d + 1) 167 G 2 [some (vR 3 0 69), some (vI (Int32.ofNat a)), some (vI (Int32.ofNat u)), some (vI (Int32.ofNat (i + 1)))] M') (fun r M'' => r = some (vI (chs (gn Y N a) (bs (gn Y N) (nA Y) (nB Y) k) u (nB Y))) ∧ M'' = M') := fun hn => by
        refine z _ _ _ (by omega) ⟨rfl, fun s hs => ?_, rfl⟩
        by_cases y : s = i
        · subst y; exact hn
        · exact hq s (by omega)
      simp (disch := omega) only [e167_2, i_nat, Nat.add_zero, Nat.not_lt_zero, i_neg, i_lt, i_le, i_eq, i_add, i_addl, i_addr, i_mulr, i_mull, i_subl, i_pred, i_ltl, i_ltr, i_eql, i_em1, cIn_s, cVd_s, cLo_s, ic_true, ic_false, ic_same, i10, eq_self, b2_0, b2_1, b2_and, b2_t, b2_f, ck', hY.c, hY.n.B, hi, Nat.reduceAdd, gM, sp64, bt_nat, i_setb]
      by_cases h0 : gn Y N a i = 0
      · have e0 : wv (gn Y N a) (bs (gn Y N) (nA Y) (nB Y) k) u i = 0 := by unfold wv; rw [if_pos (.inl h0)]
        simp only [h0, Nat.lt_irrefl, ic_false]
        exact step (fun q => absurd e0 q)
      · simp only [eq_true (show 0 < gn Y N a i by omega), ic_true]
        cases hb' : u.testBit i
        · have e0 : wv (gn Y N a) (bs (gn Y N) (nA Y) (nB Y) k) u i = gn Y N a i + bs (gn Y N) (nA Y) (nB Y) k (u ||| 2 ^ i) := by unfold wv; rw [if_neg (by simp [h0, hb'])]
          simp (disch := omega) only [ic_true, bM, bM1, i_add, i_eq]
          rw [← e0]
          refine Hm_ic (fun h => ?_) (fun h => step (fun _ => h))
          refine Hm_some ⟨?_, rfl⟩
          have hi1 := hge i hi
          rcases hat with ⟨q1, -⟩ | ⟨s0, hs0, q2, q3, q4, q5⟩
          · omega
          · have es : s0 = i := by
              rcases Nat.lt_trichotomy s0 i with y | y | y
              · exact absurd (show wv (gn Y N a) (bs (gn Y N) (nA Y) (nB Y) k) u s0 = bs (gn Y N) (nA Y) (nB Y) (k + 1) u by omega) (hq s0 y q4)
              · exact y
              · have := q5 i y; omega
            unfold chs
            rw [if_pos (by omega), q2, es]
        · have e0 : wv (gn Y N a) (bs (gn Y N) (nA Y) (nB Y) k) u i = 0 := by unfold wv; rw [if_pos (.inr hb')]
          simp only [Bool.true_eq_false, ic_false]
          exact step (fun q => absurd e0 q)
    · rintro G lv M' - ⟨rfl, hq, rfl⟩
      simp (disch := omega) only [e167_2, i_nat, Nat.add_zero, Nat.not_lt_zero, i_neg, i_lt, i_le, i_eq, i_add, i_addl, i_addr, i_mulr, i_mull, i_subl, i_pred, i_ltl, i_ltr, i_eql, i_em1, cIn_s, cVd_s, cLo_s, ic_true, ic_false, ic_same, i10, eq_self, b2_0, b2_1, b2_and, b2_t, b2_f, ck', hY.c, hY.n.B, Nat.lt_irrefl]
      refine Hm_some ⟨?_, rfl⟩
      unfold chs
      split
      · rename_i hle
        rcases hat with ⟨-, q1⟩ | ⟨s0, hs0, q2, q3, q4, q5⟩
        · rw [q1]
        · exact absurd (show wv (gn Y N a) (bs (gn Y N) (nA Y) (nB Y) k) u s0 = bs (gn Y N) (nA Y) (nB Y) (k + 1) u by omega) (hq s0 hs0 q4)
      · rfl
  obtain ⟨a, M', h1, h2, h3⟩ := h
  rw [h1, h2, h3]
theorem sp164 (hY : IY Y M) (hN : IN Y t N M) : Hm (evD (d + 9) 164 [vR 3 0 69] M) (fun r M' => r = some (vI (Int32.ofNat (bs (gn Y N) (nA Y) (nB Y) (nA Y) 0 % 1000))) ∧ (∀ i, i < nA Y → M'.1 71 i = pcs Y N i) ∧ Fr ScW M M') := by
  have h6 := hY.n.A6
  have hB := hY.n.B6
  have h64 := pow64 hB
  rw [e164]
  refine Hm_cVv (sp165 hY hN) (fun M1 h1 => ?_)
  obtain ⟨g1, f1⟩ := h1
  refine Hm_cVv (sp166 (hY.sc f1) g1) (fun M2 h2 => ?_)
  obtain ⟨b2', f2⟩ := h2
  have f2' : Fr ScW M M2 := f1.tr (f2.up (fun c j h => by unfold ScW; omega))
  have g2 : GM Y N (nA Y) M2 := fun a ha s hs => (f2.i (by omega)).trans (g1 a ha s hs)
  simp only [lp0_eq]
  refine lp_for (d := d + 8) (x := 164) (pc := 12) (nA Y) 1 0 (by omega) (fun i lv M' => lv = [some (vR 3 0 69), some (vI (Int32.ofNat (mt Y N i))), some (vI (Int32.ofNat i))] ∧ (∀ j, j < i → M'.1 71 j = pcs Y N j) ∧ Fr (fun c _ => c = 71) M2 M') ?_ ?_ (nA Y) 0 (by omega) 20000 _ M2 (by omega) ⟨rfl, fun j hj => by omega, Fr.rf⟩
  · rintro i hi G lv M' - ⟨rfl, hp, hf⟩ z
    have f3 : Fr ScW M M' := f2'.tr (hf.up (fun c j h => by unfold ScW; omega))
    have hY' := hY.sc f3
    have g3 : GM Y N (nA Y) M' := fun a ha s hs => (hf.i (by omega)).trans (g2 a ha s hs)
    have b3 : BM Y N (nA Y) M' := fun k' hk u hu => (hf.i (by omega)).trans (b2' k' hk u hu)
    have hm := mt_B (N := N) hY.n i
    have em : mt Y N (i + 1) = if pcs Y N i = -1 then mt Y N i else mt Y N i ||| 2 ^ (pcs Y N i).toNatClampNeg := rfl
    have ep : chs (gn Y N i) (bs (gn Y N) (nA Y) (nB Y) (nA Y - (i + 1))) (mt Y N i) (nB Y) = pcs Y N i := rfl
    have hx := chs_ex (g := gn Y N i) (nx := bs (gn Y N) (nA Y) (nB Y) (nA Y - (i + 1))) (met := mt Y N i) (B := nB Y)
    rw [ep] at hx
    simp (disch := omega) only [e164_12, i_nat, Nat.add_zero, Nat.not_lt_zero, i_neg, i_lt, i_le, i_eq, i_add, i_addl, i_addr, i_mulr, i_mull, i_subl, i_pred, i_ltl, i_ltr, i_eql, i_em1, cIn_s, cVd_s, cLo_s, ic_true, ic_false, ic_same, i10, eq_self, b2_0, b2_1, b2_and, b2_t, b2_f, ck', hY'.c, hY'.n.A, hi, sp167 hY' g3 b3 hi hm, ep, sI_eq, sI_eq', sI_ne, sJ_1, sR_1]
    have keep : ∀ j, j < i + 1 → (sI M' 71 i (pcs Y N i)).1 71 j = pcs Y N j := fun j hj => by
      by_cases y : j = i
      · subst y; rw [sI_eq]
      · rw [sI_ne (.inr y)]; exact hp j (by omega)
    refine Hm_ic (fun h => ?_) (fun h => ?_)
    · exact z _ _ _ (by omega) ⟨by rw [em, if_pos h]; simp, keep, hf.sI rfl⟩
    · rcases hx with q | ⟨s, hs, q⟩
      · exact absurd q h
      · refine z _ _ _ (by omega) ⟨?_, keep, hf.sI rfl⟩
        rw [em, if_neg h, q, i_nat (by omega), i_setb (by omega) (by omega)]
  · rintro G lv M' - ⟨rfl, hp, hf⟩
    have f3 : Fr ScW M M' := f2'.tr (hf.up (fun c j h => by unfold ScW; omega))
    have hY' := hY.sc f3
    have e0 : M'.1 91 0 = Int32.ofNat (bs (gn Y N) (nA Y) (nB Y) (nA Y) 0) := by
      have := b2' (nA Y) (Nat.le_refl _) 0 (Nat.two_pow_pos _)
      rw [Nat.sub_self] at this
      exact (hf.i (by omega)).trans this
    have hw := bs_bd (Y := Y) (N := N) (B := nB Y) (met := 0) h6 (Nat.le_refl (nA Y))
    simp (disch := omega) only [e164_12, i_nat, Nat.add_zero, Nat.not_lt_zero, i_neg, i_lt, i_le, i_eq, i_add, i_addl, i_addr, i_mulr, i_mull, i_subl, i_pred, i_ltl, i_ltr, i_eql, i_em1, cIn_s, cVd_s, cLo_s, ic_true, ic_false, ic_same, i10, eq_self, b2_0, b2_1, b2_and, b2_t, b2_f, ck', hY'.c, hY'.n.A, Nat.lt_irrefl, Nat.reduceAdd, e0]
    generalize bs (gn Y N) (nA Y) (nB Y) (nA Y) 0 = w at *
    refine Hm_some ⟨?_, hp, f3⟩
    rw [show (1000 : Int32) = Int32.ofNat 1000 from rfl, i_div (by omega) (by omega) (by omega), i_mul, i_sub (by omega), show w - w / 1000 * 1000 = w % 1000 by omega]
end PLACES2
