/-! states are kept for undo: the reference -/
section KEEP2
variable {Y N S : YT} {t u d : Nat} {P K : Nat → YT} {mk : Int32} {M M' : Mem}
theorem sp258 (hN : YN Y) (hu : u ≤ 16) (hU : UR Y u P M) (hS : SR Y N 0 M) : Hm (evD (d + 2) 258 [vR 12 0 253] M) (fun r M' => r = none ∧ UR Y (kU u) (kP N u P) M' ∧ Fr (fun c j => (c = 253 ∧ j = 26) ∨ (c = 269 ∧ 245 ≤ j ∧ j < 1029)) M M') := by
  have h6 := hN.A6
  obtain ⟨u1, u2⟩ := hU
  have fin : ∀ (M1 : Mem) (x : Nat) (Q : Nat → YT), x < 16 → M1.1 253 26 = Int32.ofNat x → (∀ i, i < x → SR Y (Q i) (49 * (5 + i)) M1) → SR Y N 0 M1 → Hm (cVd (evD (d + 1) 259 [vR 12 0 253, vI 0, vI (Int32.ofNat (49 * (5 + x)))] M1) fun M2 => some (none, sI M2 253 26 ((M2.1 253 26) + 1))) (fun r M' => r = none ∧ UR Y (x + 1) (fun i => if i = x then N else Q i) M' ∧ Fr (fun c j => (c = 253 ∧ j = 26) ∨ (c = 269 ∧ 245 ≤ j ∧ j < 1029)) M1 M') := by
    intro M1 x Q hx v1 v4 hS1
    refine Hm_cVv (sp259S (B := 0) (b := 0) (b' := 49 * (5 + x)) rfl rfl hN hS1 (by omega) (by omega) (by omega)) (fun M2 h2 => ?_)
    obtain ⟨c2, f2⟩ := h2
    have e8 : M2.1 253 26 = Int32.ofNat x := (f2.i (by omega)).trans v1
    refine Hm_some ⟨rfl, ⟨by rw [sI_eq, e8, i_addl], fun i hi => ?_⟩, (f2.up (fun c j' h => by omega)).sI (by omega)⟩
    have fs : Fr (fun c j => c = 253 ∧ j = 26) M2 (sI M2 253 26 (M2.1 253 26 + 1)) := Fr.rf.sI (by omega)
    show SR Y (if i = x then N else Q i) _ _
    by_cases y : i = x
    · subst y; rw [if_pos rfl]; exact c2.fr h6 fs (fun j a1 a2 => by omega)
    · rw [if_neg y]
      exact ((v4 i (by omega)).fr h6 f2 (fun j a1 a2 => by omega)).fr h6 fs (fun j a1 a2 => by omega)
  by_cases h16 : u < 16
  · have e := fin M u P h16 u1 u2 hS
    simp (disch := omega) only [e258, u1, i_nat, Nat.add_zero, Nat.not_lt_zero, i_neg, i_lt, i_le, i_eq, i_add, i_addl, i_addr, i_mulr, i_mull, i_subl, i_pred, i_ltl, i_ltr, i_eql, i_em1, cIn_s, cVd_s, cLo_s, ic_true, ic_false, ic_same, i10, eq_self, b2_0, b2_1, b2_and, b2_t, b2_f, ck', eq_false (show ¬ u = 16 by omega)]
    refine Hm_mono e (fun r M' h => ⟨h.1, ?_, h.2.2⟩)
    have := h.2.1
    unfold kU kP
    simp only [h16, if_true]
    exact this
  · have e16 : u = 16 := by omega
    subst e16
    simp (disch := omega) only [e258, u1, i_nat, Nat.add_zero, Nat.not_lt_zero, i_neg, i_lt, i_le, i_eq, i_add, i_addl, i_addr, i_mulr, i_mull, i_subl, i_pred, i_ltl, i_ltr, i_eql, i_em1, cIn_s, cVd_s, cLo_s, ic_true, ic_false, ic_same, i10, eq_self, b2_0, b2_1, b2_and, b2_t, b2_f, ck', lp0_eq]
    refine lp_for (d := d + 1) (x := 258) (pc := 11) 15 1 0 (by omega) (fun i lv M1 => lv = [some (vR 12 0 253), some (vI (Int32.ofNat (i + 1)))] ∧ M1.1 253 26 = Int32.ofNat 16 ∧ (∀ x, x < i → SR Y (P (x + 1)) (49 * (5 + x)) M1) ∧ (∀ x, i ≤ x → x < 16 → SR Y (P x) (49 * (5 + x)) M1) ∧ Fr (fun c j => (c = 253 ∧ j = 26) ∨ (c = 269 ∧ 245 ≤ j ∧ j < 1029)) M M1) ?_ ?_ 15 0 (by omega) 20000 _ M (by omega) ⟨rfl, u1, fun x hx => by omega, fun x _ hx => u2 x hx, Fr.rf⟩
    · rintro i hi G lv M1 - ⟨rfl, a1, a2, a3, f1⟩ z
      simp (disch := omega) only [e258_11, i_nat, Nat.add_zero, Nat.not_lt_zero, i_neg, i_lt, i_le, i_eq, i_add, i_addl, i_addr, i_mulr, i_mull, i_subl, i_pred, i_ltl, i_ltr, i_eql, i_em1, cIn_s, cVd_s, cLo_s, ic_true, ic_false, ic_same, i10, eq_self, b2_0, b2_1, b2_and, b2_t, b2_f, ck', eq_true (show i + 1 < 16 by omega)]
      rw [show 49 * (5 + (i + 1) - 1) = 49 * (5 + i) by omega]
      refine Hm_cVv (sp259S (b := 49 * (5 + (i + 1))) (b' := 49 * (5 + i)) rfl rfl hN (a3 (i + 1) (by omega) (by omega)) (by omega) (by omega) (by omega)) (fun M2 h2 => ?_)
      obtain ⟨c2, f2⟩ := h2
      refine z _ _ _ (by omega) ⟨rfl, (f2.i (by omega)).trans a1, fun x hx => ?_, fun x hx1 hx2 => ?_, f1.tr (f2.up (fun c j h => by omega))⟩
      · by_cases y : x = i
        · subst y; exact c2
        · exact (a2 x (by omega)).fr h6 f2 (fun j b1 b2' => by omega)
      · exact (a3 x (by omega) hx2).fr h6 f2 (fun j b1 b2' => by omega)
    · rintro G lv M1 - ⟨rfl, a1, a2, a3, f1⟩
      have e15 : Int32.ofNat 16 - 1 = Int32.ofNat 15 := rfl
      simp (disch := omega) only [e258_11, i_nat, Nat.add_zero, Nat.not_lt_zero, i_neg, i_lt, i_le, i_eq, i_add, i_addl, i_addr, i_mulr, i_mull, i_subl, i_pred, i_ltl, i_ltr, i_eql, i_em1, cIn_s, cVd_s, cLo_s, ic_true, ic_false, ic_same, i10, eq_self, b2_0, b2_1, b2_and, b2_t, b2_f, ck', eq_false (show ¬ 15 + 1 < 16 by omega), a1, e15, sI_eq]
      have fs : Fr (fun c j => (c = 253 ∧ j = 26) ∨ (c = 269 ∧ 245 ≤ j ∧ j < 1029)) M (sI M1 253 26 (Int32.ofNat 15)) := f1.sI (by omega)
      have fs1 : Fr (fun c j => c = 253 ∧ j = 26) M1 (sI M1 253 26 (Int32.ofNat 15)) := Fr.rf.sI (by omega)
      have e := fin (sI M1 253 26 (Int32.ofNat 15)) 15 (fun i => P (i + 1)) (by omega) (by rw [sI_eq]) (fun i hi => (a2 i hi).fr h6 fs1 (fun j b1 b2' => by omega)) ((hS.fr h6 f1 (fun j b1 b2' => by omega)).fr h6 fs1 (fun j b1 b2' => by omega))
      refine Hm_mono e (fun r M' h => ⟨h.1, ?_, fs.tr h.2.2⟩)
      have := h.2.1
      unfold kU kP
      simp only [Nat.lt_irrefl, if_false]
      exact this
theorem kU_le : kU u ≤ 16 := by unfold kU; split <;> omega
theorem kP_SI (hu : u ≤ 16) (hI : SI Y t N) (hP : ∀ i, i < u → SI Y t (P i)) : ∀ i, i < kU u → SI Y t (kP N u P i) := by
  intro i hi
  unfold kU at hi
  unfold kP
  by_cases h : u < 16
  · rw [if_pos h] at hi; rw [if_pos h]
    by_cases y : i = u
    · rw [if_pos y]; exact hI
    · rw [if_neg y]; exact hP i (by omega)
  · rw [if_neg h] at hi; rw [if_neg h]
    by_cases y : i = 15
    · rw [if_pos y]; exact hI
    · rw [if_neg y]; exact hP (i + 1) (by omega)
/-- after keeping: the class's things, with the states that are kept -/
theorem CI.keep {L Tn : Nat} {ln : Nat → Nat → Int32} {tp : Nat → Int32} {nm : Nat → Nat → List Nat} (h : CI Y N u P mk K L ln Tn tp nm M) (hL : L ≤ 40) {u' : Nat} {P' : Nat → YT} (hU : UC u' P' M') (hf : Fr (fun c j => (c = 0 ∧ j = 8) ∨ c = 67 ∨ (113 ≤ c ∧ c ≤ 224)) M M') : CI Y N u' P' mk K L ln Tn tp nm M' := by
  obtain ⟨h1, h2, -, ⟨k1, k2, k3⟩, ⟨l1, l2⟩, ⟨t1, t2⟩, n1, n2, n3⟩ := h
  refine ⟨h1.fr hf (fun c j hc => by unfold yc at *; omega), h2.fr hf (fun c j a1 a2 => by omega), hU, ⟨(hf.i (by omega)).trans k1, fun m hm => (hf.r (by omega)).trans (k2 m hm), fun m hm hb => (k3 m hm hb).fr hf (fun c j a1 a2 => by omega)⟩, ⟨(hf.i (by omega)).trans l1, fun i hi => ?_⟩, ⟨(hf.i (by omega)).trans t1, fun i hi => (hf.i (by omega)).trans (t2 i hi)⟩, fun i hi => (hf.j (by omega)).trans (n1 i hi), fun i hi => (hf.j (by omega)).trans (n2 i hi), fun i hi => (hf.j (by omega)).trans (n3 i hi)⟩
  rw [hf.i (by omega), hf.i (by omega), hf.i (by omega)]; exact l2 i hi
/-- after the state of now has changed -/
theorem CI.now {L Tn : Nat} {ln : Nat → Nat → Int32} {tp : Nat → Int32} {nm : Nat → Nat → List Nat} {N' : YT} (h : CI Y N u P mk K L ln Tn tp nm M) (hu : u ≤ 16) (hS : SC N' 60 M') (hf : Fr (fun c _ => c = 22 ∨ c = 25 ∨ (60 ≤ c ∧ c ≤ 66)) M M') : CI Y N' u P mk K L ln Tn tp nm M' := by
  obtain ⟨h1, -, ⟨u1, u2, u3, u4⟩, ⟨k1, k2, k3⟩, ⟨l1, l2⟩, ⟨t1, t2⟩, n1, n2, n3⟩ := h
  refine ⟨h1.fr hf (fun c j hc => by unfold yc at *; omega), hS, ⟨(hf.i (by omega)).trans u1, fun i hi => ?_, fun i i' a1 a2 a3 => ?_, fun i hi => ?_⟩, ⟨(hf.i (by omega)).trans k1, fun m hm => (hf.r (by omega)).trans (k2 m hm), fun m hm hb => (k3 m hm hb).fr hf (fun c j a1 a2 => by omega)⟩, ⟨(hf.i (by omega)).trans l1, fun i hi => ?_⟩, ⟨(hf.i (by omega)).trans t1, fun i hi => (hf.i (by omega)).trans (t2 i hi)⟩, fun i hi => (hf.j (by omega)).trans (n1 i hi), fun i hi => (hf.j (by omega)).trans (n2 i hi), fun i hi => (hf.j (by omega)).trans (n3 i hi)⟩
  · rw [hf.r (by omega)]; exact u2 i hi
  · rw [hf.r (by omega), hf.r (by omega)]; exact u3 i i' a1 a2 a3
  · rw [hf.r (by omega)]
    obtain ⟨j, hj, e⟩ := u2 i (by omega)
    exact (u4 i hi).fr hf (fun c j a1 a2 => by omega)
  · rw [hf.i (by omega), hf.i (by omega), hf.i (by omega)]; exact l2 i hi
/-- the reference: what the frame leaves -/
theorem RI.keep {L Tn : Nat} {ln : Nat → Nat → Int32} {tp : Nat → Int32} {nm : Nat → Nat → List Nat} (h : RI Y N u P mk K L ln Tn tp nm M) (hN : YN Y) (hL : L ≤ 40) {u' : Nat} {P' : Nat → YT} (hU : UR Y u' P' M') (hf : Fr (fun c j => (c = 253 ∧ j = 26) ∨ (c = 269 ∧ 245 ≤ j ∧ j < 1029)) M M') : RI Y N u' P' mk K L ln Tn tp nm M' := by
  have hA := hN.A6
  obtain ⟨h1, h2, -, k, ⟨l1, l2⟩, ⟨t1, t2⟩, ⟨kn, n0, n1, n2, n3⟩, w⟩ := h
  refine ⟨h1.fr hf (fun c j b1 b2' => by omega), h2.fr hA hf (fun j a1 a2 => by omega), hU, fun m hm => ⟨(hf.i (by omega)).trans (k m hm).1, fun hb => ((k m hm).2 hb).fr hA hf (fun j a1 a2 => by omega)⟩, ⟨(hf.i (by omega)).trans l1, fun i hi' => ?_⟩, ⟨(hf.i (by omega)).trans t1, fun i hi' => (hf.i (by omega)).trans (t2 i hi')⟩, ⟨kn, n0, (hf.i (by omega)).trans n1, fun k' hk => ?_, fun q i hq hi' => ?_⟩, fun i hi' => (hf.j (by omega)).trans (w i hi')⟩
  · rw [hf.i (by omega), hf.i (by omega), hf.i (by omega)]; exact l2 i hi'
  · rw [hf.i (by omega), hf.j (by omega)]; exact n2 k' hk
  · obtain ⟨k', a1, a2, a3⟩ := n3 q i hq hi'
    exact ⟨k', a1, by rw [hf.i (by omega)]; exact a2, by rw [hf.j (by omega)]; exact a3⟩
theorem RI.now {L Tn : Nat} {ln : Nat → Nat → Int32} {tp : Nat → Int32} {nm : Nat → Nat → List Nat} {N' : YT} (h : RI Y N u P mk K L ln Tn tp nm M) (hN : YN Y) (hS : SR Y N' 0 M') (hf : Fr (fun c j => c = 267 ∨ c = 268 ∨ (c = 269 ∧ j < 49) ∨ (c = 253 ∧ j = 0)) M M') : RI Y N' u P mk K L ln Tn tp nm M' := by
  have hA := hN.A6
  obtain ⟨h1, -, ⟨u1, u2⟩, k, ⟨l1, l2⟩, ⟨t1, t2⟩, ⟨kn, n0, n1, n2, n3⟩, w⟩ := h
  refine ⟨h1.fr hf (fun c j b1 b2' => by omega), hS, ⟨(hf.i (by omega)).trans u1, fun i hi => (u2 i hi).fr hA hf (fun j a1 a2 => by omega)⟩, fun m hm => ⟨(hf.i (by omega)).trans (k m hm).1, fun hb => ((k m hm).2 hb).fr hA hf (fun j a1 a2 => by omega)⟩, ⟨(hf.i (by omega)).trans l1, fun i hi' => ?_⟩, ⟨(hf.i (by omega)).trans t1, fun i hi' => (hf.i (by omega)).trans (t2 i hi')⟩, ⟨kn, n0, (hf.i (by omega)).trans n1, fun k' hk => ?_, fun q i hq hi' => ?_⟩, fun i hi' => (hf.j (by omega)).trans (w i hi')⟩
  · rw [hf.i (by omega), hf.i (by omega), hf.i (by omega)]; exact l2 i hi'
  · rw [hf.i (by omega), hf.j (by omega)]; exact n2 k' hk
  · obtain ⟨k', a1, a2, a3⟩ := n3 q i hq hi'
    exact ⟨k', a1, by rw [hf.i (by omega)]; exact a2, by rw [hf.j (by omega)]; exact a3⟩
theorem RI.th {L Tn : Nat} {ln : Nat → Nat → Int32} {tp : Nat → Int32} {nm : Nat → Nat → List Nat} (h : RI Y N u P mk K L ln Tn tp nm M) (hN : YN Y) : RI Y N u P mk K L ln Tn tp nm (sI M 253 0 0) := h.now hN (h.2.1.fr hN.A6 (W := fun c j => c = 253 ∧ j = 0) (Fr.rf.sI (by omega)) (fun j a1 a2 => by omega)) (Fr.rf.sI (by omega))
end KEEP2
