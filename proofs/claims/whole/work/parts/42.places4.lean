/-! places: the reference's search, whole -/
section PLACES4
variable {Y N S : YT} {t a s n c b d e u k j met B P cn : Nat} {M : Mem} {p q x f set props deg : Int32}
theorem wv_form {A : Nat} (hA : A ≤ 6) (hk : k + 1 ≤ A) (hs : s < B) (hw : wv (gn Y N (A - (k + 1))) (bs (gn Y N) A B k) met s ≠ 0) :
    bt (N 0 7) (A - (k + 1)) = false ∧ free Y N (Int32.ofNat s) = true ∧ met.testBit s = false ∧ ∃ L nm, L = fall Y (A - (k + 1)) s 0 (nnt N) (Y 14 (A - (k + 1))) 0 40 ∧ L ≤ 41 ∧ bs (gn Y N) A B k (met ||| 2 ^ s) = 1000 * min (opn N A k) (frs Y N B (met ||| 2 ^ s)) + nm ∧ nm ≤ 41 * k ∧ wv (gn Y N (A - (k + 1))) (bs (gn Y N) A B k) met s = 1000 + L + bs (gn Y N) A B k (met ||| 2 ^ s) ∧ min (opn N A (k + 1)) (frs Y N B met) = min (opn N A k) (frs Y N B (met ||| 2 ^ s)) + 1 := by
  unfold wv at hw ⊢
  by_cases z : gn Y N (A - (k + 1)) s = 0 ∨ met.testBit s = true
  · rw [if_pos z] at hw; exact absurd rfl hw
  · rw [if_neg z]
    have z1 : gn Y N (A - (k + 1)) s ≠ 0 := fun q => z (.inl q)
    have z2 : met.testBit s = false := by
      cases q : met.testBit s
      · rfl
      · exact absurd (.inr q) z
    have hb : mayB Y N (A - (k + 1)) (Int32.ofNat s) = true := by
      cases q : mayB Y N (A - (k + 1)) (Int32.ofNat s)
      · exact absurd (gn_0.mpr q) z1
      · rfl
    have eg : gn Y N (A - (k + 1)) s = 1000 + fall Y (A - (k + 1)) s 0 (nnt N) (Y 14 (A - (k + 1))) 0 40 := by unfold gn; rw [hb]; rfl
    unfold mayB at hb
    simp only [Bool.and_eq_true, Bool.not_eq_true'] at hb
    have hfr := frs_set hs hb.2 z2
    obtain ⟨n1, e1, b1⟩ := bs_form (Y := Y) (N := N) (B := B) hA k (by omega) (met ||| 2 ^ s)
    have hl := fall_le (Y := Y) (a := A - (k + 1)) (s := s) (props := 0) (n := nnt N) 40 (Y 14 (A - (k + 1))) 0
    refine ⟨hb.1, hb.2, z2, _, n1, rfl, by omega, e1, b1, by rw [eg], ?_⟩
    have eo : opn N A (k + 1) = opn N A k + (if bt (N 0 7) (A - (k + 1)) then 0 else 1) := rfl
    rw [eo, hb.1]
    simp only [Bool.false_eq_true, if_false]
    rw [← hfr]; omega
theorem begun_0 {A : Nat} (hb : bt (N 0 7) (A - (k + 1)) = true) : ∀ j, rn (gn Y N (A - (k + 1))) (bs (gn Y N) A B k) met j = (0, -1)
  | 0 => rfl
  | j + 1 => by
    have ih := begun_0 hb j
    have e : rn (gn Y N (A - (k + 1))) (bs (gn Y N) A B k) met (j + 1) = if (rn (gn Y N (A - (k + 1))) (bs (gn Y N) A B k) met j).1 < wv (gn Y N (A - (k + 1))) (bs (gn Y N) A B k) met j then (wv (gn Y N (A - (k + 1))) (bs (gn Y N) A B k) met j, Int32.ofNat j) else rn (gn Y N (A - (k + 1))) (bs (gn Y N) A B k) met j := rfl
    have hw : wv (gn Y N (A - (k + 1))) (bs (gn Y N) A B k) met j = 0 := by
      have : gn Y N (A - (k + 1)) j = 0 := gn_0.mpr (by unfold mayB; rw [hb]; rfl)
      unfold wv; rw [if_pos (.inl this)]
    rw [e, ih, hw]; rfl
theorem sp284 (hn : YN Y) (hP : P ≤ 100) : ∀ k, k ≤ nA Y → ∀ (d : Nat) (M : Mem) (g : Nat × (Nat → Int32)) (r : Nat → Int32) (met c n : Nat), PS Y N t P g (nA Y - k) r M → met < 2 ^ nB Y → c + min (opn N (nA Y) k) (frs Y N (nB Y) met) ≤ P → n ≤ 41 * (nA Y - k) → g.1 ≤ 400 → Hm (evD (d + k + 6) 284 [vR 12 0 253, vI (Int32.ofNat (nA Y - k)), vI (Int32.ofNat met), vI (Int32.ofNat c), vI (Int32.ofNat n)] M) (fun z M' => z = none ∧ PS Y N t P (UP P c n g (bs (gn Y N) (nA Y) (nB Y) k met) (rJ (nA Y - k) r (rwS Y N (nA Y) (nB Y) k met))) (nA Y - k) r M' ∧ Fr (PW (nA Y - k)) M M') := by
  have h6 := hn.A6
  have hB := hn.B6
  have h64 := pow64 hB
  intro k
  induction k with
  | zero =>
    intro hk d M g r met c n h hm hc hn1 hg
    exact sp284_0 (d := d + 4) h (by omega) (by omega) (by omega) (by omega) (by omega)
  | succ k ih =>
    intro hk d M g r met c n h hm hc hn1 hg
    obtain ⟨nmB, eB, bB⟩ := bs_form (Y := Y) (N := N) (B := nB Y) h6 (k + 1) hk met
    obtain ⟨nm0, e0, b0⟩ := bs_form (Y := Y) (N := N) (B := nB Y) h6 k (by omega) met
    have ea1 : nA Y - k = nA Y - (k + 1) + 1 := by omega
    have hform := fun (s : Nat) => wv_form (Y := Y) (N := N) (k := k) (s := s) (B := nB Y) (met := met) h6 (by omega)
    have hbrn := bs_rn (g := gn Y N) (A := nA Y) (B := nB Y) (k := k) (met := met)
    have hat := fun j => rn_at (g := gn Y N (nA Y - (k + 1))) (nx := bs (gn Y N) (nA Y) (nB Y) k) (met := met) j
    have hbeg := fun (hb : bt (N 0 7) (nA Y - (k + 1)) = true) => begun_0 (Y := Y) (B := nB Y) (met := met) hb (nB Y)
    have erw : ∀ i, rwS Y N (nA Y) (nB Y) (k + 1) met i = if i = nA Y - (k + 1) then chs (gn Y N (nA Y - (k + 1))) (bs (gn Y N) (nA Y) (nB Y) k) met (nB Y) else rwS Y N (nA Y) (nB Y) k (if chs (gn Y N (nA Y - (k + 1))) (bs (gn Y N) (nA Y) (nB Y) k) met (nB Y) = -1 then met else met ||| 2 ^ (chs (gn Y N (nA Y - (k + 1))) (bs (gn Y N) (nA Y) (nB Y) k) met (nB Y)).toNatClampNeg) i := fun i => rfl
    rw [ea1] at ih
    have eopn : opn N (nA Y) (k + 1) = opn N (nA Y) k + (if bt (N 0 7) (nA Y - (k + 1)) then 0 else 1) := rfl
    generalize hA : nA Y - (k + 1) = a at *
    have ha : a < nA Y := by omega
    have hopn : min (opn N (nA Y) k) (frs Y N (nB Y) met) ≤ min (opn N (nA Y) (k + 1)) (frs Y N (nB Y) met) := by rw [eopn]; split <;> omega
    -- one recursion, with a choice at a
    have call : ∀ (ch : Int32) (met' c' n' : Nat) (g' : Nat × (Nat → Int32)) (M2 : Mem), PS Y N t P g' a r M2 → met' < 2 ^ nB Y → c' + min (opn N (nA Y) k) (frs Y N (nB Y) met') ≤ P → n' ≤ 41 * (a + 1) → g'.1 ≤ 400 → Hm (evD (d + k + 6) 284 [vR 12 0 253, vI (Int32.ofNat (a + 1)), vI (Int32.ofNat met'), vI (Int32.ofNat c'), vI (Int32.ofNat n')] (sI M2 275 a ch)) (fun z M' => z = none ∧ PS Y N t P (UP P c' n' g' (bs (gn Y N) (nA Y) (nB Y) k met') (rJ a r (fun i => if i = a then ch else rwS Y N (nA Y) (nB Y) k met' i))) a r M' ∧ Fr (PW a) M2 M') := by
      intro ch met' c' n' g' M2 hps hm' hc' hn' hg'
      have hps' : PS Y N t P g' (a + 1) (fun i => if i = a then ch else r i) (sI M2 275 a ch) := hps.sc (v := 1) h6 (Fr.rf.sI (by omega)) rfl (fun i hi => by
        by_cases y : i = a
        · subst y; rw [sI_eq, if_pos rfl]
        · rw [sI_ne (.inr y), if_neg y]; exact hps.2.2.2.2.2.1 i (by omega))
      refine Hm_mono (ih (by omega) d (sI M2 275 a ch) g' _ met' c' n' hps' hm' hc' hn' hg') (fun z M' hz => ?_)
      obtain ⟨z1, z2, z3⟩ := hz
      refine ⟨z1, ?_, ?_⟩
      · have hlo : PS Y N t P (UP P c' n' g' (bs (gn Y N) (nA Y) (nB Y) k met') (rJ (a + 1) (fun i => if i = a then ch else r i) (rwS Y N (nA Y) (nB Y) k met'))) a r M' := by
          obtain ⟨q1, q2, q3, q4, q5, q6, q7⟩ := z2
          exact ⟨q1, q2, q3, q4, q5, fun i hi => by rw [q6 i (by omega)]; dsimp only; rw [if_neg (by omega)], q7⟩
        refine hlo.ext UP_fst (fun i hi => ?_)
        unfold UP
        split
        · dsimp only; unfold rJ
          by_cases y : i = a
          · subst y; simp
          · by_cases y2 : i < a
            · rw [if_pos (by omega)]; dsimp only; rw [if_neg y, if_pos y2]
            · rw [if_neg (by omega), if_neg y2]; dsimp only; rw [if_neg y]
        · rfl
      · intro cc jj hnw
        have hne : cc ≠ 275 ∨ jj ≠ a := by unfold PW at hnw; omega
        have := z3 cc jj (fun w => hnw (by unfold PW at *; omega))
        exact ⟨this.1.trans (sI_ne hne), this.2.1, this.2.2⟩
    -- the end: nothing is taken
    have tail : ∀ (M2 : Mem) (g2 : Nat × (Nat → Int32)), PS Y N t P g2 a r M2 → Fr (PW a) M M2 → g2.1 ≤ 400 → (g2 = if (rn (gn Y N a) (bs (gn Y N) (nA Y) (nB Y) k) met (nB Y)).1 = 0 then g else UP P c n g (rn (gn Y N a) (bs (gn Y N) (nA Y) (nB Y) k) met (nB Y)).1 (rJ a r (fun i => if i = a then (rn (gn Y N a) (bs (gn Y N) (nA Y) (nB Y) k) met (nB Y)).2 else rwS Y N (nA Y) (nB Y) k (met ||| 2 ^ (rn (gn Y N a) (bs (gn Y N) (nA Y) (nB Y) k) met (nB Y)).2.toNatClampNeg) i))) → Hm (cVd (evD (d + k + 6) 284 [vR 12 0 253, vI (Int32.ofNat (a + 1)), vI (Int32.ofNat met), vI (Int32.ofNat c), vI (Int32.ofNat n)] (sI M2 275 a (-1))) fun M3 => some (none, M3)) (fun z M' => z = none ∧ PS Y N t P (UP P c n g (bs (gn Y N) (nA Y) (nB Y) (k + 1) met) (rJ a r (rwS Y N (nA Y) (nB Y) (k + 1) met))) a r M' ∧ Fr (PW a) M M') := by
      intro M2 g2 hps f2 hg2 eg2
      refine Hm_cVv (call (-1) met c n g2 M2 hps hm (by omega) (by omega) hg2) (fun M3 h3 => Hm_some ⟨rfl, ?_, f2.tr h3.2⟩)
      refine h3.1.ext ?_ ?_
      · -- the worth
        rw [eg2]
        rcases hat (nB Y) with ⟨q1, q2⟩ | ⟨s, hs, q2, q3, q4, -⟩
        · rw [if_pos q1]
          have : bs (gn Y N) (nA Y) (nB Y) (k + 1) met = bs (gn Y N) (nA Y) (nB Y) k met := by rw [hbrn, q1]; omega
          rw [this]; exact UP_fst
        · rw [if_neg (by omega)]
          obtain ⟨-, -, -, L, nm, -, hL, eb, hnm, ew, emin⟩ := hform s hs q4
          have hcv : c + (rn (gn Y N a) (bs (gn Y N) (nA Y) (nB Y) k) met (nB Y)).1 / 1000 ≤ P := by rw [q3, ew, eb]; omega
          rcases Nat.lt_or_ge (rn (gn Y N a) (bs (gn Y N) (nA Y) (nB Y) k) met (nB Y)).1 (bs (gn Y N) (nA Y) (nB Y) k met) with y | y
          · rw [UP_lt y (by rw [e0]; omega)]
            have : bs (gn Y N) (nA Y) (nB Y) (k + 1) met = bs (gn Y N) (nA Y) (nB Y) k met := by rw [hbrn]; omega
            rw [this]; exact UP_fst
          · rw [UP_ge y hcv]
            have : bs (gn Y N) (nA Y) (nB Y) (k + 1) met = (rn (gn Y N a) (bs (gn Y N) (nA Y) (nB Y) k) met (nB Y)).1 := by rw [hbrn]; omega
            rw [this]; exact UP_fst
      · -- the row
        intro i hi
        rw [eg2]
        rcases hat (nB Y) with ⟨q1, q2⟩ | ⟨s, hs, q2, q3, q4, -⟩
        · rw [if_pos q1]
          have e1 : bs (gn Y N) (nA Y) (nB Y) (k + 1) met = bs (gn Y N) (nA Y) (nB Y) k met := by rw [hbrn, q1]; omega
          have ec : chs (gn Y N a) (bs (gn Y N) (nA Y) (nB Y) k) met (nB Y) = -1 := by unfold chs; rw [q2]; split <;> rfl
          rw [e1]
          unfold UP
          split
          · dsimp only; unfold rJ
            split
            · rfl
            · rw [erw, ec, if_pos rfl]
          · rfl
        · rw [if_neg (by omega)]
          obtain ⟨-, -, -, L, nm, -, hL, eb, hnm, ew, emin⟩ := hform s hs q4
          have hcv : c + (rn (gn Y N a) (bs (gn Y N) (nA Y) (nB Y) k) met (nB Y)).1 / 1000 ≤ P := by rw [q3, ew, eb]; omega
          rcases Nat.lt_or_ge (rn (gn Y N a) (bs (gn Y N) (nA Y) (nB Y) k) met (nB Y)).1 (bs (gn Y N) (nA Y) (nB Y) k met) with y | y
          · rw [UP_lt y (by rw [e0]; omega)]
            have e1 : bs (gn Y N) (nA Y) (nB Y) (k + 1) met = bs (gn Y N) (nA Y) (nB Y) k met := by rw [hbrn]; omega
            have ec : chs (gn Y N a) (bs (gn Y N) (nA Y) (nB Y) k) met (nB Y) = -1 := by unfold chs; rw [if_neg (by omega)]
            rw [e1]
            unfold UP
            split
            · dsimp only; unfold rJ
              split
              · rfl
              · rw [erw, ec, if_pos rfl]
            · rfl
          · rw [UP_ge y hcv]
            have e1 : bs (gn Y N) (nA Y) (nB Y) (k + 1) met = (rn (gn Y N a) (bs (gn Y N) (nA Y) (nB Y) k) met (nB Y)).1 := by rw [hbrn]; omega
            have ec : chs (gn Y N a) (bs (gn Y N) (nA Y) (nB Y) k) met (nB Y) = (rn (gn Y N a) (bs (gn Y N) (nA Y) (nB Y) k) met (nB Y)).2 := by unfold chs; rw [if_pos y]
            have en : ¬ (rn (gn Y N a) (bs (gn Y N) (nA Y) (nB Y) k) met (nB Y)).2 = -1 := by rw [q2, i_em1 (by omega)]; exact id
            rw [e1]
            unfold UP
            split
            · dsimp only; unfold rJ
              split
              · rfl
              · rw [erw, ec, if_neg en]
            · rfl
    obtain ⟨hY, hN, p3, p4, p5, p6, p7⟩ := h
    have hps : PS Y N t P g a r (sI M 275 a (-1)) := by
      have hh : PS Y N t P g a r M := ⟨hY, hN, p3, p4, p5, p6, p7⟩
      exact hh.sc (v := 0) h6 (Fr.rf.sI (by omega)) rfl (fun i hi => by rw [sI_ne (by omega)]; exact p6 i hi)
    have f0 : Fr (PW a) M (sI M 275 a (-1)) := Fr.rf.sI (by unfold PW; omega)
    rw [show d + (k + 1) + 6 = (d + k + 6) + 1 by omega]
    simp (disch := omega) only [e284, sp197 hY.r hY.n, i_nat, Nat.add_zero, Nat.not_lt_zero, i_neg, i_lt, i_le, i_eq, i_add, i_addl, i_addr, i_mulr, i_mull, i_subl, i_pred, i_ltl, i_ltr, i_eql, i_em1, cIn_s, cVd_s, cLo_s, ic_true, ic_false, ic_same, i10, eq_self, b2_0, b2_1, b2_and, b2_t, b2_f, ck', eq_false (show ¬ a = nA Y by omega), lp0_eq]
    cases hb : bt (N 0 7) a
    · -- the act is open: all spots are tried
      refine lp_for (d := d + k + 6) (x := 284) (pc := 71) (nB Y) 1 0 (by omega) (fun j lv M2 => lv = [some (vR 12 0 253), some (vI (Int32.ofNat a)), some (vI (Int32.ofNat met)), some (vI (Int32.ofNat c)), some (vI (Int32.ofNat n)), some (vI (Int32.ofNat j))] ∧ ∃ g2, (g2 = if (rn (gn Y N a) (bs (gn Y N) (nA Y) (nB Y) k) met j).1 = 0 then g else UP P c n g (rn (gn Y N a) (bs (gn Y N) (nA Y) (nB Y) k) met j).1 (rJ a r (fun i => if i = a then (rn (gn Y N a) (bs (gn Y N) (nA Y) (nB Y) k) met j).2 else rwS Y N (nA Y) (nB Y) k (met ||| 2 ^ (rn (gn Y N a) (bs (gn Y N) (nA Y) (nB Y) k) met j).2.toNatClampNeg) i))) ∧ g2.1 ≤ 400 ∧ PS Y N t P g2 a r M2 ∧ Fr (PW a) M M2) ?_ ?_ (nB Y) 0 (by omega) 20000 _ _ (by omega) ⟨rfl, g, rfl, hg, hps, f0⟩
      · rintro j hj G lv M2 - ⟨rfl, g2, eg2, hg2, hps2, f2⟩ z
        obtain ⟨hY2, hN2, -, -, -, -, l7⟩ := id hps2
        have hh : how N a = 0 := (how_0 hN.i (show a < 32 by omega)).mpr hb
        have k1 := (hN2.r.n.2.1 a ha).1
        have ern : rn (gn Y N a) (bs (gn Y N) (nA Y) (nB Y) k) met (j + 1) = if (rn (gn Y N a) (bs (gn Y N) (nA Y) (nB Y) k) met j).1 < wv (gn Y N a) (bs (gn Y N) (nA Y) (nB Y) k) met j then (wv (gn Y N a) (bs (gn Y N) (nA Y) (nB Y) k) met j, Int32.ofNat j) else rn (gn Y N a) (bs (gn Y N) (nA Y) (nB Y) k) met j := rfl
        have skip : wv (gn Y N a) (bs (gn Y N) (nA Y) (nB Y) k) met j = 0 → Hm (lp (d + k + 6) 284 G 71 [some (vR 12 0 253), some (vI (Int32.ofNat a)), some (vI (Int32.ofNat met)), some (vI (Int32.ofNat c)), some (vI (Int32.ofNat n)), some (vI (Int32.ofNat (j + 1)))] M2) (fun z M' => z = none ∧ PS Y N t P (UP P c n g (bs (gn Y N) (nA Y) (nB Y) (k + 1) met) (rJ a r (rwS Y N (nA Y) (nB Y) (k + 1) met))) a r M' ∧ Fr (PW a) M M') := fun h0 => by
          have e1 : rn (gn Y N a) (bs (gn Y N) (nA Y) (nB Y) k) met (j + 1) = rn (gn Y N a) (bs (gn Y N) (nA Y) (nB Y) k) met j := by rw [ern, h0, if_neg (by omega)]
          exact z _ _ _ (by omega) ⟨rfl, g2, by rw [e1]; exact eg2, hg2, hps2, f2⟩
        simp (disch := omega) only [e284_71, sp255 hY2.r hY2.n, i_nat, Nat.add_zero, Nat.not_lt_zero, i_neg, i_lt, i_le, i_eq, i_add, i_addl, i_addr, i_mulr, i_mull, i_subl, i_pred, i_ltl, i_ltr, i_eql, i_em1, cIn_s, cVd_s, cLo_s, ic_true, ic_false, ic_same, i10, eq_self, b2_0, b2_1, b2_and, b2_t, b2_f, ck', hj, k1, hh]
        have hbit : ((Int32.ofNat met >>> (Int32.ofNat j &&& 31)) &&& 1 = 0) ↔ met.testBit j = false := by
          have hh := bt_has (x := Int32.ofNat met) (n := j) (by omega)
          rw [bt_nat (by omega)] at hh
          have h01 : ∀ y : Int32, (y &&& 1 = 0) ∨ (y &&& 1 = 1) := fun y => by
            cases hy : bt y 0
            · left; refine bt_ext (fun e he => ?_)
              rw [bt_and, bt_0]
              by_cases ee : e = 0
              · subst ee; rw [hy]; rfl
              · have h1 : ∀ e : Fin 32, e.1 ≠ 0 → bt 1 e.1 = false := by decide
                rw [h1 ⟨e, he⟩ ee, Bool.and_false]
            · right; refine bt_ext (fun e he => ?_)
              rw [bt_and]
              by_cases ee : e = 0
              · subst ee; rw [hy]; rfl
              · have h1 : ∀ e : Fin 32, e.1 ≠ 0 → bt 1 e.1 = false := by decide
                rw [h1 ⟨e, he⟩ ee, Bool.and_false]
          rcases h01 (Int32.ofNat met >>> (Int32.ofNat j &&& 31)) with y | y
          · rw [y]; rw [y] at hh
            constructor
            · intro _; cases q : met.testBit j
              · rfl
              · have := hh.mpr q; exact absurd this (by decide)
            · intro _; rfl
          · rw [y]; rw [y] at hh
            constructor
            · intro q; exact absurd q (by decide)
            · intro q; rw [hh.mp rfl] at q; cases q
        refine Hm_ic (fun hbt => ?_) (fun hbt => ?_)
        · have hmt := hbit.mp hbt
          simp only [sp257 (B := 0) (b := 0) rfl hY2.r hY2.n hN2.r hN2.i (show 0 ≤ 1078 by omega) (show j < 1000 by omega), cIn_s, b2_0]
          cases hfr : free Y N (Int32.ofNat j)
          · simp only [ic_true]
            refine skip ?_
            have : gn Y N a j = 0 := gn_0.mpr (by unfold mayB; rw [hfr, Bool.and_false])
            unfold wv; rw [if_pos (.inl this)]
          · have hgne : gn Y N a j ≠ 0 := fun q => by
              have := gn_0.mp q
              unfold mayB at this; rw [hb, hfr] at this; cases this
            have hgr := gn_rg (Y := Y) (N := N) (a := a) (s := j)
            have hwne : wv (gn Y N a) (bs (gn Y N) (nA Y) (nB Y) k) met j ≠ 0 := by
              unfold wv; rw [if_neg (by simp [hgne, hmt])]; omega
            obtain ⟨-, -, -, L, nm, eL, hL, eb, hnm, ew, emin⟩ := hform j hj hwne
            have l8 := l7 a j ha hj
            rw [← eL] at l8
            simp (disch := omega) only [Bool.true_eq_false, ic_false, i_nat, Nat.add_zero, Nat.not_lt_zero, i_neg, i_lt, i_le, i_eq, i_add, i_addl, i_addr, i_mulr, i_mull, i_subl, i_pred, i_ltl, i_ltr, i_eql, i_em1, cIn_s, cVd_s, cLo_s, ic_true, ic_false, ic_same, i10, eq_self, b2_0, b2_1, b2_and, b2_t, b2_f, ck', sI_ne, l8, i_setb]
            refine Hm_cVv (call (Int32.ofNat j) (met ||| 2 ^ j) (c + 1) (n + L) g2 M2 hps2 (or_B hm hj) (by omega) (by omega) hg2) (fun M3 h3 => ?_)
            -- together
            have eUP : ∀ rr, UP P (c + 1) (n + L) g2 (bs (gn Y N) (nA Y) (nB Y) k (met ||| 2 ^ j)) rr = UP P c n g2 (wv (gn Y N a) (bs (gn Y N) (nA Y) (nB Y) k) met j) rr := fun rr => by
              unfold UP
              have d1 : wv (gn Y N a) (bs (gn Y N) (nA Y) (nB Y) k) met j / 1000 = bs (gn Y N) (nA Y) (nB Y) k (met ||| 2 ^ j) / 1000 + 1 := by rw [ew, eb]; omega
              have d2 : wv (gn Y N a) (bs (gn Y N) (nA Y) (nB Y) k) met j % 1000 = L + bs (gn Y N) (nA Y) (nB Y) k (met ||| 2 ^ j) % 1000 := by rw [ew, eb]; omega
              rw [d1, d2]
              have c1 : (c + 1 + bs (gn Y N) (nA Y) (nB Y) k (met ||| 2 ^ j) / 1000 = P ∧ g2.1 ≤ n + L + bs (gn Y N) (nA Y) (nB Y) k (met ||| 2 ^ j) % 1000) ↔ (c + (bs (gn Y N) (nA Y) (nB Y) k (met ||| 2 ^ j) / 1000 + 1) = P ∧ g2.1 ≤ n + (L + bs (gn Y N) (nA Y) (nB Y) k (met ||| 2 ^ j) % 1000)) := by omega
              simp only [c1]
              rw [show n + L + bs (gn Y N) (nA Y) (nB Y) k (met ||| 2 ^ j) % 1000 + 1 = n + (L + bs (gn Y N) (nA Y) (nB Y) k (met ||| 2 ^ j) % 1000) + 1 by omega]
            rw [eUP] at h3
            have hcw : c + wv (gn Y N a) (bs (gn Y N) (nA Y) (nB Y) k) met j / 1000 ≤ P := by rw [ew, eb]; omega
            have hnw : n + wv (gn Y N a) (bs (gn Y N) (nA Y) (nB Y) k) met j % 1000 < 400 := by rw [ew, eb]; omega
            refine z _ _ _ (by omega) ⟨rfl, _, ?_, UP_bd hg2 hnw, h3.1, f2.tr h3.2⟩
            rw [eg2, ern]
            rcases hat j with ⟨q1, q2⟩ | ⟨s, hs, q2, q3, q4, -⟩
            · have e1 : (if (rn (gn Y N a) (bs (gn Y N) (nA Y) (nB Y) k) met j).1 < wv (gn Y N a) (bs (gn Y N) (nA Y) (nB Y) k) met j then (wv (gn Y N a) (bs (gn Y N) (nA Y) (nB Y) k) met j, Int32.ofNat j) else rn (gn Y N a) (bs (gn Y N) (nA Y) (nB Y) k) met j) = (wv (gn Y N a) (bs (gn Y N) (nA Y) (nB Y) k) met j, Int32.ofNat j) := if_pos (by omega)
              rw [e1, if_pos q1]
              dsimp only
              rw [if_neg hwne, i_nat (by omega)]
            · obtain ⟨-, -, -, L', nm', -, hL', eb', hnm', ew', emin'⟩ := hform s (by omega) q4
              have hcv : c + (rn (gn Y N a) (bs (gn Y N) (nA Y) (nB Y) k) met j).1 / 1000 ≤ P := by rw [q3, ew', eb']; omega
              have hv0 : ¬ (rn (gn Y N a) (bs (gn Y N) (nA Y) (nB Y) k) met j).1 = 0 := by rw [q3]; exact q4
              rcases Nat.lt_or_ge (rn (gn Y N a) (bs (gn Y N) (nA Y) (nB Y) k) met j).1 (wv (gn Y N a) (bs (gn Y N) (nA Y) (nB Y) k) met j) with y | y
              · have e1 : (if (rn (gn Y N a) (bs (gn Y N) (nA Y) (nB Y) k) met j).1 < wv (gn Y N a) (bs (gn Y N) (nA Y) (nB Y) k) met j then (wv (gn Y N a) (bs (gn Y N) (nA Y) (nB Y) k) met j, Int32.ofNat j) else rn (gn Y N a) (bs (gn Y N) (nA Y) (nB Y) k) met j) = (wv (gn Y N a) (bs (gn Y N) (nA Y) (nB Y) k) met j, Int32.ofNat j) := if_pos y
                rw [e1, if_neg hv0, UP_lt y hcw]
                dsimp only
                rw [if_neg hwne, i_nat (by omega)]
              · have e1 : (if (rn (gn Y N a) (bs (gn Y N) (nA Y) (nB Y) k) met j).1 < wv (gn Y N a) (bs (gn Y N) (nA Y) (nB Y) k) met j then (wv (gn Y N a) (bs (gn Y N) (nA Y) (nB Y) k) met j, Int32.ofNat j) else rn (gn Y N a) (bs (gn Y N) (nA Y) (nB Y) k) met j) = rn (gn Y N a) (bs (gn Y N) (nA Y) (nB Y) k) met j := if_neg (by omega)
                rw [e1, if_neg hv0, UP_ge y hcv]
        · refine skip ?_
          have hmt : met.testBit j = true := by
            cases q : met.testBit j
            · exact absurd (hbit.mpr q) hbt
            · rfl
          unfold wv; rw [if_pos (.inr hmt)]
      · rintro G lv M2 - ⟨rfl, g2, eg2, hg2, hps2, f2⟩
        have hY2 := hps2.1
        simp (disch := omega) only [e284_71, sp255 hY2.r hY2.n, i_nat, Nat.add_zero, Nat.not_lt_zero, i_neg, i_lt, i_le, i_eq, i_add, i_addl, i_addr, i_mulr, i_mull, i_subl, i_pred, i_ltl, i_ltr, i_eql, i_em1, cIn_s, cVd_s, cLo_s, ic_true, ic_false, ic_same, i10, eq_self, b2_0, b2_1, b2_and, b2_t, b2_f, ck', Nat.lt_irrefl]
        exact tail M2 g2 hps2 f2 hg2 eg2
    · -- the act is begun
      have hh : (how N a = 0) = False := eq_false (fun q => by rw [how_0 hN.i (show a < 32 by omega)] at q; rw [hb] at q; cases q)
      have k1 := (hps.2.1.r.n.2.1 a ha).1
      have eg2 : g = if (rn (gn Y N a) (bs (gn Y N) (nA Y) (nB Y) k) met (nB Y)).1 = 0 then g else UP P c n g (rn (gn Y N a) (bs (gn Y N) (nA Y) (nB Y) k) met (nB Y)).1 (rJ a r (fun i => if i = a then (rn (gn Y N a) (bs (gn Y N) (nA Y) (nB Y) k) met (nB Y)).2 else rwS Y N (nA Y) (nB Y) k (met ||| 2 ^ (rn (gn Y N a) (bs (gn Y N) (nA Y) (nB Y) k) met (nB Y)).2.toNatClampNeg) i)) := by
        rw [hbeg hb, if_pos rfl]
      have tl := tail (sI M 275 a (-1)) g hps f0 hg eg2
      rw [show (20000 : Nat) = 19999 + 1 from rfl, e284_71]
      simp (disch := omega) only [sp255 hps.1.r hps.1.n, i_nat, Nat.add_zero, Nat.not_lt_zero, i_neg, i_lt, i_le, i_eq, i_add, i_addl, i_addr, i_mulr, i_mull, i_subl, i_pred, i_ltl, i_ltr, i_eql, i_em1, cIn_s, cVd_s, cLo_s, ic_true, ic_false, ic_same, i10, eq_self, b2_0, b2_1, b2_and, b2_t, b2_f, ck', k1, hh]
      exact tl
end PLACES4
