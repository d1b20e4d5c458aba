/-! undo, mark, count -/
section HAND2
variable {t : Nat} {p q : Int32} {M M' : Mem}
section
variable {Y N N' : YT} {u L Tn : Nat} {P K : Nat → YT} {mk : Int32} {ln : Nat → Nat → Int32} {tp : Nat → Int32} {nm : Nat → Nat → List Nat} {t' : Nat}
theorem UC.sub {u' : Nat} (h : UC u P M) (hu : u' ≤ u) (h16 : u ≤ 16) : UC u' P (sI M 0 8 (Int32.ofNat u')) := by
  obtain ⟨u1, u2, u3, u4⟩ := h
  have fs : Fr (fun c j => c = 0 ∧ j = 8) M (sI M 0 8 (Int32.ofNat u')) := Fr.rf.sI (by omega)
  refine ⟨sI_eq, u2, u3, fun i hi => ?_⟩
  obtain ⟨j, hj, e⟩ := u2 i (by omega)
  exact (u4 i (by omega)).fr fs (fun c j' a1 a2 => by omega)
theorem UR.sub {u' : Nat} (h : UR Y u P M) (hN : YN Y) (hu : u' ≤ u) : UR Y u' P (sI M 253 26 (Int32.ofNat u')) :=
  ⟨sI_eq, fun i hi => (h.2 i (by omega)).fr hN.A6 (W := fun c j => c = 253 ∧ j = 26) (Fr.rf.sI (by omega)) (fun j a1 a2 => by omega)⟩
/-- a mark is laid -/
theorem CI.mark {m : Nat} (h : CI Y N u P mk K L ln Tn tp nm M) (hm : m < 4) (hu : u ≤ 16) (hL : L ≤ 40) (hS : SC N (225 + 7 * m) M') (he : M'.1 0 10 = mk ||| 1 <<< (Int32.ofNat m &&& 31)) (hf : Fr (fun c j => (c = 0 ∧ j = 10) ∨ (225 + 7 * m ≤ c ∧ c ≤ 225 + 7 * m + 6)) M M') : CI Y N u P (mk ||| 1 <<< (Int32.ofNat m &&& 31)) (fun i => if i = m then N else K i) L ln Tn tp nm M' := by
  obtain ⟨h1, h2, ⟨u1, u2, u3, u4⟩, ⟨k1, k2, k3⟩, ⟨l1, l2⟩, ⟨t1, t2⟩, n1, n2, n3⟩ := h
  refine ⟨h1.fr hf (fun c j hc => by unfold yc at *; omega), h2.fr hf (fun c j a1 a2 => by omega), ⟨(hf.i (by omega)).trans u1, fun i hi => ?_, fun i i' a1 a2 a3 => ?_, fun i hi => ?_⟩, ⟨he, fun i hi => (hf.r (by omega)).trans (k2 i hi), fun i hi hb => ?_⟩, ⟨(hf.i (by omega)).trans l1, fun i hi => ?_⟩, ⟨(hf.i (by omega)).trans t1, fun i hi => (hf.i (by omega)).trans (t2 i hi)⟩, fun i hi => (hf.j (by omega)).trans (n1 i hi), fun i hi => (hf.j (by omega)).trans (n2 i hi), fun i hi => (hf.j (by omega)).trans (n3 i hi)⟩
  · rw [hf.r (by omega)]; exact u2 i hi
  · rw [hf.r (by omega), hf.r (by omega)]; exact u3 i i' a1 a2 a3
  · rw [hf.r (by omega)]
    obtain ⟨j, hj, e⟩ := u2 i (by omega)
    exact (u4 i hi).fr hf (fun c j a1 a2 => by omega)
  · show SC (if i = m then N else K i) _ _
    by_cases y : i = m
    · subst y; rw [if_pos rfl]; exact hS
    · rw [if_neg y]
      rw [bt_set (by omega) (by omega)] at hb
      simp [y] at hb
      exact (k3 i hi hb).fr hf (fun c j a1 a2 => by omega)
  · rw [hf.i (by omega), hf.i (by omega), hf.i (by omega)]; exact l2 i hi
theorem RI.mark {m : Nat} (h : RI Y N u P mk K L ln Tn tp nm M) (hN : YN Y) (hm : m < 4) (hL : L ≤ 40) (hS : SR Y N (49 * (1 + m)) M') (he : M'.1 270 m = 1) (hf : Fr (fun c j => (c = 270 ∧ j = m) ∨ (c = 269 ∧ 49 * (1 + m) ≤ j ∧ j < 49 * (1 + m) + 49)) M M') : RI Y N u P (mk ||| 1 <<< (Int32.ofNat m &&& 31)) (fun i => if i = m then N else K i) L ln Tn tp nm M' := by
  have hA := hN.A6
  obtain ⟨h1, h2, ⟨u1, u2⟩, k, ⟨l1, l2⟩, ⟨t1, t2⟩, ⟨kn, n0, n1, n2, n3⟩, w⟩ := h
  refine ⟨h1.fr hf (fun c j b1 b2' => by omega), h2.fr hA hf (fun j a1 a2 => by omega), ⟨(hf.i (by omega)).trans u1, fun i hi => (u2 i hi).fr hA hf (fun j a1 a2 => by omega)⟩, fun i hi => ⟨?_, fun hb => ?_⟩, ⟨(hf.i (by omega)).trans l1, fun i hi' => ?_⟩, ⟨(hf.i (by omega)).trans t1, fun i hi' => (hf.i (by omega)).trans (t2 i hi')⟩, ⟨kn, n0, (hf.i (by omega)).trans n1, fun k' hk => ?_, fun q i hq hi' => ?_⟩, fun i hi' => (hf.j (by omega)).trans (w i hi')⟩
  · rw [bt_set (by omega) (by omega)]
    by_cases y : i = m
    · subst y; rw [he]; simp [b2]
    · rw [hf.i (by omega), (k i hi).1]; simp [y]
  · show SR Y (if i = m then N else K i) _ _
    by_cases y : i = m
    · subst y; rw [if_pos rfl]; exact hS
    · rw [if_neg y]
      rw [bt_set (by omega) (by omega)] at hb
      simp [y] at hb
      exact ((k i hi).2 hb).fr hA hf (fun j a1 a2 => by omega)
  · rw [hf.i (by omega), hf.i (by omega), hf.i (by omega)]; exact l2 i hi'
  · rw [hf.i (by omega), hf.j (by omega)]; exact n2 k' hk
  · obtain ⟨k', a1, a2, a3⟩ := n3 q i hq hi'
    exact ⟨k', a1, by rw [hf.i (by omega)]; exact a2, by rw [hf.j (by omega)]; exact a3⟩
end
theorem cY {Y N : YT} {u L Tn : Nat} {P K : Nat → YT} {mk : Int32} {ln : Nat → Nat → Int32} {tp : Nat → Int32} {nm : Nat → Nat → List Nat} (h : CIt (Y, N, u, P, mk, K, L, ln, Tn, tp, nm) M) : YC Y M := (show CI Y N u P mk K L ln Tn tp nm M from h).1
theorem cN {Y N : YT} {u L Tn : Nat} {P K : Nat → YT} {mk : Int32} {ln : Nat → Nat → Int32} {tp : Nat → Int32} {nm : Nat → Nat → List Nat} (h : CIt (Y, N, u, P, mk, K, L, ln, Tn, tp, nm) M) : SC N 60 M := (show CI Y N u P mk K L ln Tn tp nm M from h).2.1
theorem cU {Y N : YT} {u L Tn : Nat} {P K : Nat → YT} {mk : Int32} {ln : Nat → Nat → Int32} {tp : Nat → Int32} {nm : Nat → Nat → List Nat} (h : CIt (Y, N, u, P, mk, K, L, ln, Tn, tp, nm) M) : UC u P M := (show CI Y N u P mk K L ln Tn tp nm M from h).2.2.1
theorem cL {Y N : YT} {u L Tn : Nat} {P K : Nat → YT} {mk : Int32} {ln : Nat → Nat → Int32} {tp : Nat → Int32} {nm : Nat → Nat → List Nat} (h : CIt (Y, N, u, P, mk, K, L, ln, Tn, tp, nm) M) : LC L ln M := (show CI Y N u P mk K L ln Tn tp nm M from h).2.2.2.2.1
theorem cTp {Y N : YT} {u L Tn : Nat} {P K : Nat → YT} {mk : Int32} {ln : Nat → Nat → Int32} {tp : Nat → Int32} {nm : Nat → Nat → List Nat} (h : CIt (Y, N, u, P, mk, K, L, ln, Tn, tp, nm) M) : TC Tn tp M := (show CI Y N u P mk K L ln Tn tp nm M from h).2.2.2.2.2.1
theorem two_undo : Two t t 134 271 [vR 11 0 0] [vR 12 0 253] := by
  refine Two_st ?_; rintro ⟨Y, N, u, P, mk, K, L, ln, Tn, tp, nm⟩ hp
  have hp : PI t Y N u P mk K L ln Tn tp nm := hp
  have hN := hp.1.1
  have hu := hp.2.2.1.1
  have hL := hp.2.2.2.2.1.1
  by_cases h0 : u = 0
  · subst h0
    refine ⟨0, (Y, N, 0, P, mk, K, L, ln, Tn, tp, nm), hp, fun d M hc => nopC ?_ hc, fun d M hr => nopR hN ?_ hr⟩
    · have hc : CI Y N 0 P mk K L ln Tn tp nm M := hc
      have h01 : (Int32.ofNat 0 < 1) = True := by decide
      simp only [e134, hc.2.2.1.1, h01, ic_true]
    · have hr1 := RI.th hr hN
      have h01 : (Int32.ofNat 0 = 0) = True := by decide
      simp only [e271, hr1.2.2.1.1, h01, ic_true]
  · obtain ⟨w, rfl⟩ : ∃ w, u = w + 1 := ⟨u - 1, by omega⟩
    refine ⟨1, (Y, P w, w, P, mk, K, L, ln, Tn, tp, nm), ⟨hp.1, ⟨hp.2.2.1.2 w (by omega), hp.2.1.2⟩, ⟨show w ≤ 16 by omega, fun i hi => hp.2.2.1.2 i (by have : i < w := hi; omega)⟩, hp.2.2.2⟩, fun d M hc => ?_, fun d M hr => ?_⟩
    · have hc : CI Y N (w + 1) P mk K L ln Tn tp nm M := hc
      have c1 := hc.keep hL (hc.2.2.1.sub (u' := w) (by omega) (by omega)) (Fr.rf.sI (by omega))
      have es : Int32.ofNat (w + 1) - 1 = Int32.ofNat w := i_subl (n := 1) (show 1 ≤ w + 1 by omega)
      simp (disch := omega) only [e134, hc.2.2.1.1, es, sI_eq, i_nat, Nat.add_zero, Nat.not_lt_zero, i_neg, i_lt, i_le, i_eq, i_add, i_addl, i_addr, i_mulr, i_mull, i_subl, i_pred, i_ltl, i_ltr, i_eql, i_em1, cIn_s, cVd_s, cLo_s, ic_true, ic_false, ic_same, i10, eq_self, b2_0, b2_1, b2_and, b2_t, b2_f, ck', eq_false (show ¬ w + 1 < 1 by omega), eq_false (show ¬ 16 < w + 1 by omega)]
      obtain ⟨j, hj, ej⟩ := c1.2.2.1.2.1 w (by omega)
      refine Hm_cVv (sp121 (hc.2.2.1.2.2.2 w (by omega) |>.fr (W := fun c j => c = 0 ∧ j = 8) (Fr.rf.sI (by omega)) (fun c j' a1 a2 => by have : M.2.2 67 w = 113 + 7 * j := ej; omega)) (by have : M.2.2 67 w = 113 + 7 * j := ej; omega)) (fun M2 h2 => ?_)
      exact Hm_some ⟨rfl, c1.now (by omega) h2.1 (h2.2.up (fun c j h => by omega)), (Fr.rf.sI (by unfold ClW; omega)).tr (h2.2.up (fun c j h => by unfold ClW; omega))⟩
    · have hr : RI Y N (w + 1) P mk K L ln Tn tp nm M := hr
      have hr1 := hr.th hN
      have es : Int32.ofNat (w + 1) - 1 = Int32.ofNat w := i_subl (n := 1) (show 1 ≤ w + 1 by omega)
      have c1 := hr1.keep hN hL (hr1.2.2.1.sub (u' := w) hN (by omega)) (Fr.rf.sI (by omega))
      simp (disch := omega) only [e271, hr1.2.2.1.1, es, sI_eq, i_nat, Nat.add_zero, Nat.not_lt_zero, i_neg, i_lt, i_le, i_eq, i_add, i_addl, i_addr, i_mulr, i_mull, i_subl, i_pred, i_ltl, i_ltr, i_eql, i_em1, cIn_s, cVd_s, cLo_s, ic_true, ic_false, ic_same, i10, eq_self, b2_0, b2_1, b2_and, b2_t, b2_f, ck', eq_false (show ¬ w + 1 = 0 by omega)]
      refine Hm_cVv (sp259S (B' := 0) (b' := 0) (b := 49 * (5 + w)) rfl rfl hN ((hr1.2.2.1.2 w (by omega)).fr hN.A6 (W := fun c j => c = 253 ∧ j = 26) (Fr.rf.sI (by omega)) (fun j a1 a2 => by omega)) (by omega) (by omega) (by omega)) (fun M2 h2 => ?_)
      exact Hm_some ⟨rfl, c1.now hN h2.1 (h2.2.up (fun c j h => by omega)), ((Fr.rf.sI (by unfold ReW; omega)).sI (by unfold ReW; omega)).tr (h2.2.up (fun c j h => by unfold ReW; omega))⟩
theorem two_mark : Two t t 135 302 [vR 11 0 0, vI p, vI q] [vR 12 0 253, vI p, vI q] := by
  refine Two_st ?_; rintro ⟨Y, N, u, P, mk, K, L, ln, Tn, tp, nm⟩ hp
  have hp : PI t Y N u P mk K L ln Tn tp nm := hp
  have hN := hp.1.1
  have hu := hp.2.2.1.1
  have hL := hp.2.2.2.2.1.1
  by_cases hw : wi p 0 3 = true
  · obtain ⟨m, hm, rfl⟩ := wi_ex (m := 3) (by omega) hw
    have n1 : vp_nar .boolean 1 = 1 := by decide
    by_cases hq : q = 0
    · refine ⟨1, (Y, N, u, P, mk ||| 1 <<< (Int32.ofNat m &&& 31), fun i => if i = m then N else K i, L, ln, Tn, tp, nm), ⟨hp.1, hp.2.1, hp.2.2.1, fun i hi hb => ?_, hp.2.2.2.2⟩, fun d M hc => ?_, fun d M hr => ?_⟩
      · by_cases y : i = m
        · subst y; show SI Y t (if i = i then N else K i); rw [if_pos rfl]; exact hp.2.1.1
        · show SI Y t (if i = m then N else K i)
          rw [if_neg y]
          have hb : bt (mk ||| 1 <<< (Int32.ofNat m &&& 31)) i = true := hb
          rw [bt_set (by omega) (by omega)] at hb
          simp [y] at hb
          exact hp.2.2.2.1 i hi hb
      · have hc : CI Y N u P mk K L ln Tn tp nm M := hc
        simp (disch := omega) only [e135, eq_true hq, hc.2.2.2.1.2.1 m (by omega), eq_true (show m < 4 by omega), i_nat, Nat.add_zero, Nat.not_lt_zero, i_neg, i_lt, i_le, i_eq, i_add, i_addl, i_addr, i_mulr, i_mull, i_subl, i_pred, i_ltl, i_ltr, i_eql, i_em1, cIn_s, cVd_s, cLo_s, ic_true, ic_false, ic_same, i10, eq_self, b2_0, b2_1, b2_and, b2_t, b2_f, ck']
        refine Hm_cVv (sp121 hc.2.1 (by omega)) (fun M2 h2 => ?_)
        have e10 : M2.1 0 10 = mk := (h2.2.i (by omega)).trans hc.2.2.2.1.1
        rw [e10]
        refine Hm_some ⟨rfl, CI.mark hc (by omega) hu hL (h2.1.fr (W := fun c j => c = 0 ∧ j = 10) (Fr.rf.sI (by omega)) (fun c j a1 a2 => by omega)) sI_eq ((h2.2.up (fun c j h => by omega)).sI (by omega)), (h2.2.up (fun c j h => by unfold ClW; omega)).sI (by unfold ClW; omega)⟩
      · have hr : RI Y N u P mk K L ln Tn tp nm M := hr
        have hr1 := hr.th hN
        simp (disch := omega) only [e302, e302_29, e302_68, e302_84, lp0_eq, sp222, hw, eq_true hq, n1, i_nat, Nat.add_zero, Nat.not_lt_zero, i_neg, i_lt, i_le, i_eq, i_add, i_addl, i_addr, i_mulr, i_mull, i_subl, i_pred, i_ltl, i_ltr, i_eql, i_em1, cIn_s, cVd_s, cLo_s, ic_true, ic_false, ic_same, i10, eq_self, b2_0, b2_1, b2_and, b2_t, b2_f, ck']
        refine Hm_cVv (sp259S (B := 0) (b := 0) (b' := 49 * (1 + m)) rfl rfl hN (hr1.2.1.fr hN.A6 (W := fun c j => c = 270) (Fr.rf.sI (by omega)) (fun j a1 a2 => by omega)) (by omega) (by omega) (by omega)) (fun M2 h2 => ?_)
        simp only [sI_id]
        have e1 : M2.1 270 m = 1 := (h2.2.i (by omega)).trans sI_eq
        exact Hm_some ⟨rfl, RI.mark hr1 hN (by omega) hL h2.1 e1 ((Fr.rf.sI (by omega)).tr (h2.2.up (fun c j h => by omega))), ((Fr.rf.sI (by unfold ReW; omega)).sI (by unfold ReW; omega)).tr (h2.2.up (fun c j h => by unfold ReW; omega))⟩
    · by_cases hb : bt mk m = true
      · refine ⟨1, (Y, K m, 0, P, mk, K, L, ln, Tn, tp, nm), ⟨hp.1, ⟨hp.2.2.2.1 m (by omega) hb, hp.2.1.2⟩, ⟨show 0 ≤ 16 by omega, fun i hi => absurd (show i < 0 from hi) (by omega)⟩, hp.2.2.2⟩, fun d M hc => ?_, fun d M hr => ?_⟩
        · have hc : CI Y N u P mk K L ln Tn tp nm M := hc
          simp (disch := omega) only [e135, eq_false hq, hc.2.2.2.1.2.1 m (by omega), hc.2.2.2.1.1, sp64 (show m < 32 by omega), hb, eq_true (show m < 4 by omega), i_nat, Nat.add_zero, Nat.not_lt_zero, i_neg, i_lt, i_le, i_eq, i_add, i_addl, i_addr, i_mulr, i_mull, i_subl, i_pred, i_ltl, i_ltr, i_eql, i_em1, cIn_s, cVd_s, cLo_s, ic_true, ic_false, ic_same, i10, eq_self, b2_0, b2_1, b2_and, b2_t, b2_f, ck']
          refine Hm_cVv (sp121 (hc.2.2.2.1.2.2 m (by omega) hb) (by omega)) (fun M2 h2 => ?_)
          have c1 := CI.now hc hu h2.1 (h2.2.up (fun c j h => by omega))
          exact Hm_some ⟨rfl, c1.keep hL (c1.2.2.1.sub (u' := 0) (by omega) (by omega)) (Fr.rf.sI (by omega)), (h2.2.up (fun c j h => by unfold ClW; omega)).sI (by unfold ClW; omega)⟩
        · have hr : RI Y N u P mk K L ln Tn tp nm M := hr
          have hr1 := hr.th hN
          have hm1 : (sI M 253 0 0).1 270 m = 1 := by rw [(hr1.2.2.2.1 m (by omega)).1, hb]; rfl
          have e270 : sI (sI M 253 0 0) 270 m 1 = sI M 253 0 0 := by
            have := sI_id (M := sI M 253 0 0) (k := 270) (j := m)
            rw [hm1] at this; exact this
          simp (disch := omega) only [e302, e302_29, lp0_eq, sp222, hw, hm1, eq_false hq, n1, e270, i_nat, Nat.add_zero, Nat.not_lt_zero, i_neg, i_lt, i_le, i_eq, i_add, i_addl, i_addr, i_mulr, i_mull, i_subl, i_pred, i_ltl, i_ltr, i_eql, i_em1, cIn_s, cVd_s, cLo_s, ic_true, ic_false, ic_same, i10, eq_self, b2_0, b2_1, b2_and, b2_t, b2_f, ck']
          refine Hm_cVv (sp259S (B' := 0) (b' := 0) (b := 49 * (1 + m)) rfl rfl hN ((hr1.2.2.2.1 m (by omega)).2 hb) (by omega) (by omega) (by omega)) (fun M2 h2 => ?_)
          have c1 := hr1.now hN h2.1 (h2.2.up (fun c j h => by omega))
          simp (disch := omega) only [e302_68, e302_84, lp0_eq, eq_false hq, i_nat, Nat.add_zero, Nat.not_lt_zero, i_neg, i_lt, i_le, i_eq, i_add, i_addl, i_addr, i_mulr, i_mull, i_subl, i_pred, i_ltl, i_ltr, i_eql, i_em1, cIn_s, cVd_s, cLo_s, ic_true, ic_false, ic_same, i10, eq_self, b2_0, b2_1, b2_and, b2_t, b2_f, ck']
          exact Hm_some ⟨rfl, c1.keep hN hL (c1.2.2.1.sub (u' := 0) hN (by omega)) (Fr.rf.sI (by omega)), ((Fr.rf.sI (by unfold ReW; omega)).tr (h2.2.up (fun c j h => by unfold ReW; omega))).sI (by unfold ReW; omega)⟩
      · refine ⟨0, (Y, N, u, P, mk, K, L, ln, Tn, tp, nm), hp, fun d M hc => nopC ?_ hc, fun d M hr => nopR hN ?_ hr⟩
        · have hc : CI Y N u P mk K L ln Tn tp nm M := hc
          simp (disch := omega) only [e135, eq_false hq, hc.2.2.2.1.1, sp64 (show m < 32 by omega), nf hb, eq_true (show m < 4 by omega), i_nat, Nat.add_zero, Nat.not_lt_zero, i_neg, i_lt, i_le, i_eq, i_add, i_addl, i_addr, i_mulr, i_mull, i_subl, i_pred, i_ltl, i_ltr, i_eql, i_em1, cIn_s, cVd_s, cLo_s, ic_true, ic_false, ic_same, i10, eq_self, b2_0, b2_1, b2_and, b2_t, b2_f, ck']
        · have hr1 := RI.th hr hN
          have hm1 : (sI M 253 0 0).1 270 m = 0 := by rw [(hr1.2.2.2.1 m (by omega)).1, nf hb]; rfl
          simp (disch := omega) only [e302, e302_27, lp0_eq, sp222, hw, hm1, eq_false hq, i_nat, Nat.add_zero, Nat.not_lt_zero, i_neg, i_lt, i_le, i_eq, i_add, i_addl, i_addr, i_mulr, i_mull, i_subl, i_pred, i_ltl, i_ltr, i_eql, i_em1, cIn_s, cVd_s, cLo_s, ic_true, ic_false, ic_same, i10, eq_self, b2_0, b2_1, b2_and, b2_t, b2_f, ck']
  · have hw' := nf hw
    refine ⟨0, (Y, N, u, P, mk, K, L, ln, Tn, tp, nm), hp, fun d M hc => nopC ?_ hc, fun d M hr => nopR hN ?_ hr⟩
    · have hc : CI Y N u P mk K L ln Tn tp nm M := hc
      by_cases h4 : p < 0
      · simp only [e135, eq_true h4, ic_true]
      · have h5 : ¬ p < Int32.ofNat 4 := by
          intro h5
          obtain ⟨n, hn, rfl⟩ := i_ex h4 h5 (by omega)
          have : wi (Int32.ofNat n) 0 3 = true := by
            unfold wi
            have a1 := i_neg (n := n) (by omega)
            have a2 : ¬ 3 < n := by omega
            rw [decide_eq_true_eq]
            exact ⟨a1, by rw [show (3 : Int32) = Int32.ofNat 3 from rfl, i_lt (by omega) (by omega)]; exact a2⟩
          rw [this] at hw'; exact absurd hw' (by decide)
        simp only [e135, eq_false h4, eq_false h5, ic_false]
    · have hr1 := RI.th hr hN
      simp (disch := omega) only [e302, e302_27, lp0_eq, sp222, hw', i_nat, Nat.add_zero, Nat.not_lt_zero, i_neg, i_lt, i_le, i_eq, i_add, i_addl, i_addr, i_mulr, i_mull, i_subl, i_pred, i_ltl, i_ltr, i_eql, i_em1, cIn_s, cVd_s, cLo_s, ic_true, ic_false, ic_same, i10, eq_self, b2_0, b2_1, b2_and, b2_t, b2_f, ck']
theorem two_count : Two t t 112 303 [vR 11 0 0, vI p] [vR 12 0 253, vI p] := by
  refine Two_st ?_; rintro ⟨Y, N, u, P, mk, K, L, ln, Tn, tp, nm⟩ hp
  have hp : PI t Y N u P mk K L ln Tn tp nm := hp
  have hN := hp.1.1
  have hI := hp.2.1.1
  have ht := hp.2.1.2
  have hn := hI.nb
  by_cases q0 : p = Int32.ofInt 0
  · refine ⟨Y 4 0, (Y, N, u, P, mk, K, L, ln, Tn, tp, nm), hp, fun d M hc => nopC ?_ hc, fun d M hr => nopR hN ?_ hr⟩
    · simp only [e112, eq_true q0, ic_true, cY hc]
    · subst q0; simp (disch := omega) only [e303, ic_true, (RI.th hr hN).1.1.1, show (Int32.ofInt 0) = Int32.ofNat 0 from rfl, eq_self, i_nat, Nat.add_zero, Nat.not_lt_zero, i_neg, i_lt, i_le, i_eq, i_add, i_addl, i_addr, i_mulr, i_mull, i_subl, i_pred, i_ltl, i_ltr, i_eql, i_em1, cIn_s, cVd_s, cLo_s, ic_true, ic_false, ic_same, i10, eq_self, b2_0, b2_1, b2_and, b2_t, b2_f, ck']
  by_cases q1 : p = Int32.ofInt 1
  · refine ⟨Y 6 0, (Y, N, u, P, mk, K, L, ln, Tn, tp, nm), hp, fun d M hc => nopC ?_ hc, fun d M hr => nopR hN ?_ hr⟩
    · simp only [e112, eq_false q0, eq_true q1, ic_true, ic_false, cY hc]
    · simp only [e303, eq_false q0, eq_true q1, ic_true, ic_false]; subst q1; simp (disch := omega) only [(RI.th hr hN).1.1.1, show (Int32.ofInt 1) = Int32.ofNat 1 from rfl, i_nat, Nat.add_zero, Nat.not_lt_zero, i_neg, i_lt, i_le, i_eq, i_add, i_addl, i_addr, i_mulr, i_mull, i_subl, i_pred, i_ltl, i_ltr, i_eql, i_em1, cIn_s, cVd_s, cLo_s, ic_true, ic_false, ic_same, i10, eq_self, b2_0, b2_1, b2_and, b2_t, b2_f, ck']
  by_cases q2 : p = Int32.ofInt 2
  · refine ⟨Y 8 0, (Y, N, u, P, mk, K, L, ln, Tn, tp, nm), hp, fun d M hc => nopC ?_ hc, fun d M hr => nopR hN ?_ hr⟩
    · simp only [e112, eq_false q0, eq_false q1, eq_true q2, ic_true, ic_false, cY hc]
    · simp only [e303, eq_false q0, eq_false q1, eq_true q2, ic_true, ic_false]; subst q2; simp (disch := omega) only [(RI.th hr hN).1.1.1, show (Int32.ofInt 2) = Int32.ofNat 2 from rfl, i_nat, Nat.add_zero, Nat.not_lt_zero, i_neg, i_lt, i_le, i_eq, i_add, i_addl, i_addr, i_mulr, i_mull, i_subl, i_pred, i_ltl, i_ltr, i_eql, i_em1, cIn_s, cVd_s, cLo_s, ic_true, ic_false, ic_same, i10, eq_self, b2_0, b2_1, b2_and, b2_t, b2_f, ck']
  by_cases q3 : p = Int32.ofInt 3
  · refine ⟨Y 3 12, (Y, N, u, P, mk, K, L, ln, Tn, tp, nm), hp, fun d M hc => nopC ?_ hc, fun d M hr => nopR hN ?_ hr⟩
    · simp only [e112, eq_false q0, eq_false q1, eq_false q2, eq_true q3, ic_true, ic_false, cY hc]
    · simp only [e303, eq_false q0, eq_false q1, eq_false q2, eq_true q3, ic_true, ic_false]; subst q3; simp (disch := omega) only [(RI.th hr hN).1.1.1, show (Int32.ofInt 3) = Int32.ofNat 3 from rfl, i_nat, Nat.add_zero, Nat.not_lt_zero, i_neg, i_lt, i_le, i_eq, i_add, i_addl, i_addr, i_mulr, i_mull, i_subl, i_pred, i_ltl, i_ltr, i_eql, i_em1, cIn_s, cVd_s, cLo_s, ic_true, ic_false, ic_same, i10, eq_self, b2_0, b2_1, b2_and, b2_t, b2_f, ck']
  by_cases q4 : p = Int32.ofInt 4
  · refine ⟨N 0 0, (Y, N, u, P, mk, K, L, ln, Tn, tp, nm), hp, fun d M hc => nopC ?_ hc, fun d M hr => nopR hN ?_ hr⟩
    · simp only [e112, eq_false q0, eq_false q1, eq_false q2, eq_false q3, eq_true q4, ic_true, ic_false, (cN hc).1.1]
    · simp only [e303, eq_false q0, eq_false q1, eq_false q2, eq_false q3, eq_true q4, ic_true, ic_false, (RI.th hr hN).2.1.1]
  by_cases q5 : p = Int32.ofInt 5
  · refine ⟨warm Y (nnt N), (Y, N, u, P, mk, K, L, ln, Tn, tp, nm), hp, fun d M hc => nopC ?_ hc, fun d M hr => nopR hN ?_ hr⟩
    · simp only [e112, eq_false q0, eq_false q1, eq_false q2, eq_false q3, eq_false q4, eq_true q5, ic_true, ic_false, (cN hc).1.1]
      rw [hI.n]; simp only [sp101 (cY hc) hN (show nnt N < 1000000 by omega), cIn_s]
    · simp only [e303, eq_false q0, eq_false q1, eq_false q2, eq_false q3, eq_false q4, eq_true q5, ic_true, ic_false, (RI.th hr hN).2.1.1]
      rw [hI.n]; simp only [sp243 (RI.th hr hN).1 (show nnt N < 1000000 by omega), cIn_s, if_true, Int32.add_zero]
  by_cases q6 : p = Int32.ofInt 6
  · refine ⟨N 0 7 &&& (N 0 8 ^^^ (-1)), (Y, N, u, P, mk, K, L, ln, Tn, tp, nm), hp, fun d M hc => nopC ?_ hc, fun d M hr => nopR hN ?_ hr⟩
    · simp only [e112, eq_false q0, eq_false q1, eq_false q2, eq_false q3, eq_false q4, eq_false q5, eq_true q6, ic_true, ic_false, sp98 (cN hc), cIn_s]
    · simp only [e303, eq_false q0, eq_false q1, eq_false q2, eq_false q3, eq_false q4, eq_false q5, eq_true q6, ic_true, ic_false, sp304 (RI.th hr hN).1 hN (RI.th hr hN).2.1, upM hN hI, cIn_s]
  by_cases q7 : p = Int32.ofInt 7
  · refine ⟨N 0 8, (Y, N, u, P, mk, K, L, ln, Tn, tp, nm), hp, fun d M hc => nopC ?_ hc, fun d M hr => nopR hN ?_ hr⟩
    · simp only [e112, eq_false q0, eq_false q1, eq_false q2, eq_false q3, eq_false q4, eq_false q5, eq_false q6, eq_true q7, ic_true, ic_false, (cN hc).1]
    · simp only [e303, eq_false q0, eq_false q1, eq_false q2, eq_false q3, eq_false q4, eq_false q5, eq_false q6, eq_true q7, ic_true, ic_false, sp304 (RI.th hr hN).1 hN (RI.th hr hN).2.1, faM hN hI, cIn_s]
  by_cases q8 : p = Int32.ofInt 8
  · refine ⟨wor Y (force Y N), (Y, N, u, P, mk, K, L, ln, Tn, tp, nm), hp, fun d M hc => nopC ?_ hc, fun d M hr => nopR hN ?_ hr⟩
    · simp only [e112, eq_false q0, eq_false q1, eq_false q2, eq_false q3, eq_false q4, eq_false q5, eq_false q6, eq_false q7, eq_true q8, ic_true, ic_false, sp113 (cY hc) hN (cN hc), cIn_s]
    · simp only [e303, eq_false q0, eq_false q1, eq_false q2, eq_false q3, eq_false q4, eq_false q5, eq_false q6, eq_false q7, eq_true q8, ic_true, ic_false, sp250 (B := 0) (b := 0) rfl (RI.th hr hN).1 hN (RI.th hr hN).2.1 hI (by omega), sp252 (RI.th hr hN).1 hN, cIn_s]
  by_cases q9 : p = Int32.ofInt 9
  · refine ⟨Int32.ofNat L, (Y, N, u, P, mk, K, L, ln, Tn, tp, nm), hp, fun d M hc => nopC ?_ hc, fun d M hr => nopR hN ?_ hr⟩
    · simp only [e112, eq_false q0, eq_false q1, eq_false q2, eq_false q3, eq_false q4, eq_false q5, eq_false q6, eq_false q7, eq_false q8, eq_true q9, ic_true, ic_false, (cL hc).1]
    · simp only [e303, eq_false q0, eq_false q1, eq_false q2, eq_false q3, eq_false q4, eq_false q5, eq_false q6, eq_false q7, eq_false q8, eq_true q9, ic_true, ic_false, (RI.th hr hN).2.2.2.2.1.1]
  by_cases q10 : p = Int32.ofInt 10
  · refine ⟨toldN Y N, (Y, N, u, P, mk, K, L, ln, Tn, tp, nm), hp, fun d M hc => nopC ?_ hc, fun d M hr => nopR hN ?_ hr⟩
    · simp only [e112, eq_false q0, eq_false q1, eq_false q2, eq_false q3, eq_false q4, eq_false q5, eq_false q6, eq_false q7, eq_false q8, eq_false q9, eq_true q10, ic_true, ic_false, sp115 (cY hc) hN (cN hc), cIn_s]
    · simp only [e303, eq_false q0, eq_false q1, eq_false q2, eq_false q3, eq_false q4, eq_false q5, eq_false q6, eq_false q7, eq_false q8, eq_false q9, eq_true q10, ic_true, ic_false, sp305 (RI.th hr hN).1 hN (RI.th hr hN).2.1 hI, cIn_s]
  by_cases q11 : p = Int32.ofInt 11
  · refine ⟨Int32.ofNat u, (Y, N, u, P, mk, K, L, ln, Tn, tp, nm), hp, fun d M hc => nopC ?_ hc, fun d M hr => nopR hN ?_ hr⟩
    · simp only [e112, eq_false q0, eq_false q1, eq_false q2, eq_false q3, eq_false q4, eq_false q5, eq_false q6, eq_false q7, eq_false q8, eq_false q9, eq_false q10, eq_true q11, ic_true, ic_false, (cU hc).1]
    · simp only [e303, eq_false q0, eq_false q1, eq_false q2, eq_false q3, eq_false q4, eq_false q5, eq_false q6, eq_false q7, eq_false q8, eq_false q9, eq_false q10, eq_true q11, ic_true, ic_false, (RI.th hr hN).2.2.1.1]
  by_cases q12 : p = Int32.ofInt 12
  · refine ⟨Int32.ofNat Tn, (Y, N, u, P, mk, K, L, ln, Tn, tp, nm), hp, fun d M hc => nopC ?_ hc, fun d M hr => nopR hN ?_ hr⟩
    · simp only [e112, eq_false q0, eq_false q1, eq_false q2, eq_false q3, eq_false q4, eq_false q5, eq_false q6, eq_false q7, eq_false q8, eq_false q9, eq_false q10, eq_false q11, eq_true q12, ic_true, ic_false, (cTp hc).1]
    · simp only [e303, eq_false q0, eq_false q1, eq_false q2, eq_false q3, eq_false q4, eq_false q5, eq_false q6, eq_false q7, eq_false q8, eq_false q9, eq_false q10, eq_false q11, eq_true q12, ic_true, ic_false, (RI.th hr hN).2.2.2.2.2.1.1]
  · refine ⟨-1, (Y, N, u, P, mk, K, L, ln, Tn, tp, nm), hp, fun d M hc => nopC ?_ hc, fun d M hr => nopR hN ?_ hr⟩
    · simp only [e112, eq_false q0, eq_false q1, eq_false q2, eq_false q3, eq_false q4, eq_false q5, eq_false q6, eq_false q7, eq_false q8, eq_false q9, eq_false q10, eq_false q11, eq_false q12, ic_false]
    · simp only [e303, eq_false q0, eq_false q1, eq_false q2, eq_false q3, eq_false q4, eq_false q5, eq_false q6, eq_false q7, eq_false q8, eq_false q9, eq_false q10, eq_false q11, eq_false q12, ic_false]
end HAND2
