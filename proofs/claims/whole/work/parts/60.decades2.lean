/-! DECADES: the reference -/
section DECADES2
variable {Y S N : YT} {t n d : Nat} {p q r : Int32} {M M' : Mem} {G m : Nat}
def DRr (Y : YT) (p : YT × Nat) (M : Mem) : Prop := SR Y p.1 1078 M ∧ M.2.1 253 39 = Int64.ofNat p.2
theorem DRr.j {p : YT × Nat} (hN : YN Y) (h : DRr Y p M) (g : Nat) : DRr Y (p.1, g) (sJ M 253 39 (Int64.ofNat g)) :=
  ⟨h.1.fr hN.A6 (W := fun c j => c = 253) (Fr.rf.sJ (by omega)) (fun j a1 a2 => by omega), sJ_eq⟩
theorem dcar1 {p : YT × Nat} {c : Nat} (h : mayC Y p.1 c (DV p.2 (nA Y)) = true) : (dcar Y p c).1 = carS Y p.1 c (DV p.2 (nA Y)) := by unfold dcar; dsimp only; rw [if_pos h]
theorem dcar0 {p : YT × Nat} {c : Nat} (h : ¬ mayC Y p.1 c (DV p.2 (nA Y)) = true) : (dcar Y p c).1 = p.1 := by unfold dcar; dsimp only; rw [if_neg h]
theorem sp300 {p : YT × Nat} (hR : YR Y M) (hN : YN Y) (hL : YL Y) (hD : DRr Y p M) (hI : SI Y n p.1 ∧ p.2 < 2147483648) (hn : n < 1000000) : Hm (evD (d + 7) 300 [vR 12 0 253] M) (fun r M' => r = some (vI (nitC Y (dday Y p).1 (dmil Y p))) ∧ DRr Y (nitS Y (dday Y p).1 (dmil Y p), DR (dday Y p).2) M' ∧ Fr RW M M') := by
  have h6 := hN.A6
  have h6b := hN.B6
  have h6c := hN.C6
  -- the end of a day
  have fin : ∀ M1, YR Y M1 → DRr Y (dday Y p) M1 → Fr RW M M1 → Hm (cIn (evD (d + 6) 301 [vR 12 0 253, vI 10] M1) fun v4 M3 =>
    ic (v4 < M3.1 259 5) (
      cIn (evD (d + 6) 269 [vR 12 0 253, vI 1078, vI 1] M3) fun v8 M7 =>
      some (some (vI v8), M7)) (
      cIn (evD (d + 6) 269 [vR 12 0 253, vI 1078, vI 0] M3) fun v6 M5 =>
      some (some (vI v6), M5))) (fun r M' => r = some (vI (nitC Y (dday Y p).1 (dmil Y p))) ∧ DRr Y (nitS Y (dday Y p).1 (dmil Y p), DR (dday Y p).2) M' ∧ Fr RW M M') := by
    intro M1 hR1 hD1 f1
    have hI1 := dday_SI hN hI
    have hD2 := hD1.j hN (DR (dday Y p).2)
    have f2 : Fr RW M (sJ M1 253 39 (Int64.ofNat (DR (dday Y p).2))) := f1.sJ (by unfold RW; omega)
    have hR2 : YR Y (sJ M1 253 39 (Int64.ofNat (DR (dday Y p).2))) := hR.fr f2 (fun c j a1 a2 => by unfold RW; omega)
    simp only [show (10 : Int32) = Int32.ofNat 10 from rfl, sp301 (d := d + 5) (m := 10) hI1.2 hD1.2 (by omega) (by omega), cIn_s]
    rw [hR2.1.1.2.2.2.2]
    by_cases hm : Int32.ofNat (DV (dday Y p).2 10) < Y 3 15
    · have e : dmil Y p = md3 1 := by unfold dmil; rw [if_pos hm]; rfl
      rw [ic_t hm, e]
      refine Hm_cIv (sp269 (d := d) (B := 1078) (b := 1078) (m := 1) rfl hR2 hN hL hD2.1 hI1.1 hn (by omega)) (fun M4 h4 => ?_)
      refine Hm_some ⟨rfl, ⟨h4.1, ?_⟩, f2.tr (h4.2.up (fun c j h => by unfold RW; omega))⟩
      rw [h4.2.j (by omega), sJ_eq]
    · have e : dmil Y p = md3 0 := by unfold dmil; rw [if_neg hm]; rfl
      rw [ic_f hm, e]
      refine Hm_cIv (sp269 (d := d) (B := 1078) (b := 1078) (m := 0) rfl hR2 hN hL hD2.1 hI1.1 hn (by omega)) (fun M4 h4 => ?_)
      refine Hm_some ⟨rfl, ⟨h4.1, ?_⟩, f2.tr (h4.2.up (fun c j h => by unfold RW; omega))⟩
      rw [h4.2.j (by omega), sJ_eq]
  have lp55 : ∀ (q : YT × Nat) (M1 : Mem) (o2 : Option AV), 0 < nA Y → rf (dcar Y) q (nC Y) = dday Y p → YR Y M1 → DRr Y q M1 → SI Y n q.1 ∧ q.2 < 2147483648 → Fr RW M M1 → Hm (lp0 (d + 6) 300 55 [some (vR 12 0 253), some (vI 0), o2] M1) (fun r M' => r = some (vI (nitC Y (dday Y p).1 (dmil Y p))) ∧ DRr Y (nitS Y (dday Y p).1 (dmil Y p), DR (dday Y p).2) M' ∧ Fr RW M M') := by
    intro q M1 o2 hA heq hR1 hD1 hI1 f1
    rw [lp0_eq]
    refine lp_for (d := d + 6) (x := 300) (pc := 55) (nC Y) 1 0 (by omega) (fun i lv M2 => (∃ o, lv = [some (vR 12 0 253), some (vI (Int32.ofNat i)), o]) ∧ DRr Y (rf (dcar Y) q i) M2 ∧ YR Y M2 ∧ Fr RW M M2) ?_ ?_ (nC Y) 0 (by omega) 20000 _ _ (by omega) ⟨⟨o2, rfl⟩, hD1, hR1, f1⟩
    · rintro i hi G lv M2 - ⟨⟨o, rfl⟩, hD2, hR2, f2⟩ z
      have hI2 := dcars_SI hN hA hI1 i (by omega)
      simp (disch := omega) only [e300_55, sp248 hR2 hN, sp197 hR2 hN, eq_true hi, eq_true hA, sp301 hI2.2 hD2.2 (show nA Y ≤ 10 by omega) (show 1 ≤ nA Y by omega), i_nat, Nat.add_zero, Nat.not_lt_zero, i_neg, i_lt, i_le, i_eq, i_add, i_addl, i_addr, i_mulr, i_mull, i_subl, i_pred, i_ltl, i_ltr, i_eql, i_em1, cIn_s, cVd_s, cLo_s, ic_true, ic_false, ic_same, i10, eq_self, b2_0, b2_1, b2_and, b2_t, b2_f, ck']
      have hD3 := hD2.j hN (DR (rf (dcar Y) q i).2)
      have f3 : Fr RW M (sJ M2 253 39 (Int64.ofNat (DR (rf (dcar Y) q i).2))) := f2.sJ (by unfold RW; omega)
      have hR3 : YR Y (sJ M2 253 39 (Int64.ofNat (DR (rf (dcar Y) q i).2))) := hR.fr f3 (fun c j a1 a2 => by unfold RW; omega)
      have hv := DV_lt (G := (rf (dcar Y) q i).2) (show 1 ≤ nA Y by omega)
      have s262 := sp262 (d := d + 2) (B := 1078) (b := 1078) rfl hR3 hN hD3.1 hI2.1 (by omega) (show i < 6 by omega) hv
      by_cases hm : mayC Y (rf (dcar Y) q i).1 i (DV (rf (dcar Y) q i).2 (nA Y)) = true
      · simp (disch := omega) only [s262, hm, i_nat, Nat.add_zero, Nat.not_lt_zero, i_neg, i_lt, i_le, i_eq, i_add, i_addl, i_addr, i_mulr, i_mull, i_subl, i_pred, i_ltl, i_ltr, i_eql, i_em1, cIn_s, cVd_s, cLo_s, ic_true, ic_false, ic_same, i10, eq_self, b2_0, b2_1, b2_and, b2_t, b2_f, ck']
        refine Hm_cIv (sp263 (d := d + 3) (B := 1078) (b := 1078) rfl hR3 hN hL hD3.1 (by omega) hi hv) (fun M4 h4 => ?_)
        have f4 : Fr RW M M4 := f3.tr (h4.2.up (fun c j h => by unfold RW; omega))
        refine z _ _ _ (by omega) ⟨⟨_, rfl⟩, ⟨?_, ?_⟩, hR.fr f4 (fun c j a1 a2 => by unfold RW; omega), f4⟩
        · show SR Y (dcar Y (rf (dcar Y) q i) i).1 1078 M4
          rw [dcar1 hm]; exact h4.1
        · rw [h4.2.j (by omega), sJ_eq]; rfl
      · simp (disch := omega) only [s262, nf hm, i_nat, Nat.add_zero, Nat.not_lt_zero, i_neg, i_lt, i_le, i_eq, i_add, i_addl, i_addr, i_mulr, i_mull, i_subl, i_pred, i_ltl, i_ltr, i_eql, i_em1, cIn_s, cVd_s, cLo_s, ic_true, ic_false, ic_same, i10, eq_self, b2_0, b2_1, b2_and, b2_t, b2_f, ck']
        refine z _ _ _ (by omega) ⟨⟨_, rfl⟩, ⟨?_, ?_⟩, hR3, f3⟩
        · show SR Y (dcar Y (rf (dcar Y) q i) i).1 1078 _
          rw [dcar0 hm]; exact hD3.1
        · rw [sJ_eq]; rfl
    · rintro G lv M2 - ⟨⟨o, rfl⟩, hD2, hR2, f2⟩
      rw [heq] at hD2
      simp (disch := omega) only [e300_55, sp248 hR2 hN, Nat.lt_irrefl, i_nat, Nat.add_zero, Nat.not_lt_zero, i_neg, i_lt, i_le, i_eq, i_add, i_addl, i_addr, i_mulr, i_mull, i_subl, i_pred, i_ltl, i_ltr, i_eql, i_em1, cIn_s, cVd_s, cLo_s, ic_true, ic_false, ic_same, i10, eq_self, b2_0, b2_1, b2_and, b2_t, b2_f, ck']
      exact fin M2 hR2 hD2 f2
  by_cases hA : 0 < nA Y
  · have ed : dday Y p = rf (dcar Y) (dbeg Y p) (nC Y) := by unfold dday; rw [if_pos hA]
    by_cases hB : 0 < nB Y
    · simp (disch := omega) only [e300, sp197 hR hN, sp255 hR hN, eq_true hA, eq_true hB, sp301 hI.2 hD.2 (show nA Y ≤ 10 by omega) (show 1 ≤ nA Y by omega), i_nat, Nat.add_zero, Nat.not_lt_zero, i_neg, i_lt, i_le, i_eq, i_add, i_addl, i_addr, i_mulr, i_mull, i_subl, i_pred, i_ltl, i_ltr, i_eql, i_em1, cIn_s, cVd_s, cLo_s, ic_true, ic_false, ic_same, i10, eq_self, b2_0, b2_1, b2_and, b2_t, b2_f, ck']
      have f1 : Fr RW M (sJ M 253 39 (Int64.ofNat (DR p.2))) := Fr.rf.sJ (by unfold RW; omega)
      have hR1 := hR.fr f1 (fun c j a1 a2 => by unfold RW; omega)
      have hD1 := (hD.j hN (DR p.2)).j hN (DR (DR p.2))
      have f2 : Fr RW M (sJ (sJ M 253 39 (Int64.ofNat (DR p.2))) 253 39 (Int64.ofNat (DR (DR p.2)))) := f1.sJ (by unfold RW; omega)
      have hR2 := hR.fr f2 (fun c j a1 a2 => by unfold RW; omega)
      have hv := DV_lt (G := p.2) (show 1 ≤ nA Y by omega)
      have hv2 := DV_lt (G := DR p.2) (show 1 ≤ nB Y by omega)
      have s256 := sp256 (d := d + 1) (B := 1078) (b := 1078) rfl hR2 hN hD1.1 hI.1 (by omega) hv (show DV (DR p.2) (nB Y) < 1000 by omega)
      simp (disch := omega) only [sp255 hR1 hN, sp301 (M := sJ M 253 39 (Int64.ofNat (DR p.2))) DR_lt sJ_eq (show nB Y ≤ 10 by omega) (show 1 ≤ nB Y by omega), s256, i_nat, Nat.add_zero, Nat.not_lt_zero, i_neg, i_lt, i_le, i_eq, i_add, i_addl, i_addr, i_mulr, i_mull, i_subl, i_pred, i_ltl, i_ltr, i_eql, i_em1, cIn_s, cVd_s, cLo_s, ic_true, ic_false, ic_same, i10, eq_self, b2_0, b2_1, b2_and, b2_t, b2_f, ck']
      have eb : dbeg Y p = (if mayB Y p.1 (DV p.2 (nA Y)) (Int32.ofNat (DV (DR p.2) (nB Y))) then begS p.1 (DV p.2 (nA Y)) (Int32.ofNat (DV (DR p.2) (nB Y))) else p.1, DR (DR p.2)) := by unfold dbeg; rw [if_pos ⟨hA, hB⟩]
      by_cases hm : mayB Y p.1 (DV p.2 (nA Y)) (Int32.ofNat (DV (DR p.2) (nB Y))) = true
      · have hg : bt (p.1 0 7) (DV p.2 (nA Y)) = false := by have h3 := hm; unfold mayB at h3; revert h3; cases bt (p.1 0 7) (DV p.2 (nA Y)) <;> simp
        simp (disch := omega) only [hm, Bool.true_eq_false, i_nat, Nat.add_zero, Nat.not_lt_zero, i_neg, i_lt, i_le, i_eq, i_add, i_addl, i_addr, i_mulr, i_mull, i_subl, i_pred, i_ltl, i_ltr, i_eql, i_em1, cIn_s, cVd_s, cLo_s, ic_true, ic_false, ic_same, i10, eq_self, b2_0, b2_1, b2_and, b2_t, b2_f, ck']
        refine Hm_cVv (sp260 (B := 1078) (b := 1078) rfl hN hD1.1 hI.1 (by omega) hv hg) (fun M4 h4 => ?_)
        have f4 : Fr RW M M4 := f2.tr (h4.2.up (fun c j h => by unfold RW; omega))
        refine lp55 (dbeg Y p) M4 _ hA ed.symm (hR.fr f4 (fun c j a1 a2 => by unfold RW; omega)) ?_ (dbeg_SI hN hI) f4
        rw [eb, if_pos hm]
        exact ⟨h4.1, by rw [h4.2.j (by omega), sJ_eq]⟩
      · simp (disch := omega) only [nf hm, i_nat, Nat.add_zero, Nat.not_lt_zero, i_neg, i_lt, i_le, i_eq, i_add, i_addl, i_addr, i_mulr, i_mull, i_subl, i_pred, i_ltl, i_ltr, i_eql, i_em1, cIn_s, cVd_s, cLo_s, ic_true, ic_false, ic_same, i10, eq_self, b2_0, b2_1, b2_and, b2_t, b2_f, ck']
        refine lp55 (dbeg Y p) _ _ hA ed.symm hR2 ?_ (dbeg_SI hN hI) f2
        rw [eb, if_neg hm]
        exact hD1
    · have eb : dbeg Y p = p := by unfold dbeg; rw [if_neg (fun h => hB h.2)]
      simp (disch := omega) only [e300, sp197 hR hN, sp255 hR hN, eq_true hA, eq_false hB, i_nat, Nat.add_zero, Nat.not_lt_zero, i_neg, i_lt, i_le, i_eq, i_add, i_addl, i_addr, i_mulr, i_mull, i_subl, i_pred, i_ltl, i_ltr, i_eql, i_em1, cIn_s, cVd_s, cLo_s, ic_true, ic_false, ic_same, i10, eq_self, b2_0, b2_1, b2_and, b2_t, b2_f, ck']
      exact lp55 p M _ hA (by rw [ed, eb]) hR hD hI Fr.rf
  · have ed : dday Y p = p := by unfold dday; rw [if_neg hA]
    simp (disch := omega) only [e300, sp197 hR hN, eq_false hA, i_nat, Nat.add_zero, Nat.not_lt_zero, i_neg, i_lt, i_le, i_eq, i_add, i_addl, i_addr, i_mulr, i_mull, i_subl, i_pred, i_ltl, i_ltr, i_eql, i_em1, cIn_s, cVd_s, cLo_s, ic_true, ic_false, ic_same, i10, eq_self, b2_0, b2_1, b2_and, b2_t, b2_f, ck']
    rw [lp0_eq, show (20000 : Nat) = 19999 + 1 from rfl, e300_55]
    by_cases hC : 0 < nC Y
    · simp (disch := omega) only [sp248 hR hN, sp197 hR hN, eq_true hC, eq_false hA, i_nat, Nat.add_zero, Nat.not_lt_zero, i_neg, i_lt, i_le, i_eq, i_add, i_addl, i_addr, i_mulr, i_mull, i_subl, i_pred, i_ltl, i_ltr, i_eql, i_em1, cIn_s, cVd_s, cLo_s, ic_true, ic_false, ic_same, i10, eq_self, b2_0, b2_1, b2_and, b2_t, b2_f, ck']
      exact fin M hR (by rw [ed]; exact hD) Fr.rf
    · simp (disch := omega) only [sp248 hR hN, eq_false hC, i_nat, Nat.add_zero, Nat.not_lt_zero, i_neg, i_lt, i_le, i_eq, i_add, i_addl, i_addr, i_mulr, i_mull, i_subl, i_pred, i_ltl, i_ltr, i_eql, i_em1, cIn_s, cVd_s, cLo_s, ic_true, ic_false, ic_same, i10, eq_self, b2_0, b2_1, b2_and, b2_t, b2_f, ck']
      exact fin M hR (by rw [ed]; exact hD) Fr.rf
theorem hurtN (hN : YN Y) (hI : SI Y n S) (hS : SR Y S 1078 M) : ∀ k, k ≤ 6 → rf (fun (x : Int32) c => x + (M.1 269 (1115 + c))) 0 k = Int32.ofNat (sm (fun e => if bt (S 0 9) e then 1 else 0) k)
  | 0, _ => rfl
  | k + 1, hk => by
    show rf (fun (x : Int32) c => x + (M.1 269 (1115 + c))) 0 k + M.1 269 (1115 + k) = _
    rw [hurtN hN hI hS k (by omega)]
    have e : M.1 269 (1115 + k) = b2 (bt (S 0 9) k) := (hS.2.2.1 k (by omega)).2
    rw [e]
    show Int32.ofNat _ + b2 (bt (S 0 9) k) = Int32.ofNat (sm (fun e => if bt (S 0 9) e then 1 else 0) k + if bt (S 0 9) k then 1 else 0)
    rw [← i_add]
    cases bt (S 0 9) k <;> rfl
theorem sm_6 {f : Nat → Nat} {k : Nat} (hk : k ≤ 6) (h : ∀ e, k ≤ e → e < 6 → f e = 0) : ∀ j, k + j ≤ 6 → sm f (k + j) = sm f k
  | 0, _ => rfl
  | j + 1, hj => by
    show sm f (k + j) + f (k + j) = _
    rw [sm_6 hk h j (by omega), h (k + j) (by omega) (by omega)]; rfl
theorem two_decades : Two t t 141 299 [vR 11 0 0, vI p, vI q, vI r] [vR 12 0 253, vI p, vI q, vI r] := by
  refine Two_st ?_; rintro ⟨Y, N, u, P, mk, K, L, ln, Tn, tp, nm⟩ hp
  have hp : PI t Y N u P mk K L ln Tn tp nm := hp
  have hN := hp.1.1
  have hI := hp.2.1.1
  have ht := hp.2.1.2
  have hu := hp.2.2.1.1
  have hL := hp.2.2.2.2.1.1
  have h6c := hN.C6
  have out : ∀ {x lo hi : Int32}, ¬ wi x lo hi = true → ¬ x < lo → hi < x := by
    intro x lo hi h h1
    by_cases h2 : hi < x
    · exact h2
    · exact absurd (by unfold wi; exact decide_eq_true ⟨h1, h2⟩) h
  have inn : ∀ {x lo hi : Int32}, wi x lo hi = true → ¬ x < lo ∧ ¬ hi < x := by
    intro x lo hi h; unfold wi at h; exact decide_eq_true_eq.mp h
  by_cases w1 : wi p 0 9999 = true
  · by_cases w2 : wi q 1 60 = true
    · by_cases w3 : wi r 0 2 = true
      · obtain ⟨G, hG, rfl⟩ := wi_ex (m := 9999) (by omega) w1
        obtain ⟨k, hk1, hk, rfl⟩ := wi_ex1 (l := 1) (m := 60) (by omega) (by omega) w2
        have hI1 := decs_SI (G := G) hN hI (by omega) ht k hk
        refine ⟨if r = 0 then (decs Y N G k).2.1 else if r = 1 then (decs Y N G k).2.2 else Int32.ofNat (sm (fun e => if bt ((decs Y N G k).1.1 0 9) e then 1 else 0) 6), (Y, N, u, P, mk, K, L, ln, Tn, tp, nm), hp, fun d M hc => ?_, fun d M hr => ?_⟩
        · have hc : CI Y N u P mk K L ln Tn tp nm M := hc
          simp only [e141, eq_false (inn w1).1, eq_false (inn w1).2, eq_false (inn w2).1, eq_false (inn w2).2, eq_false (inn w3).1, eq_false (inn w3).2, ic_false]
          refine Hm_cVv (sp142 hc.1 hN hp.1.2.1 hc.2.1 hI ht (by omega) hk) (fun M1 h1 => ?_)
          have fin : CI Y N u P mk K L ln Tn tp nm M1 ∧ Fr ClW M M1 := ⟨hc.fr hu hL h1.2.2.2 (fun c j hcc => by unfold CCo DW at *; omega), h1.2.2.2.up (fun c j h => by unfold DW at h; unfold ClW; omega)⟩
          by_cases p0 : r = 0
          · simp only [eq_true p0, ic_true, h1.1, if_true]; exact Hm_some ⟨rfl, fin⟩
          · by_cases p1 : r = 1
            · simp only [eq_false p0, eq_true p1, ic_true, ic_false, h1.2.1, if_true, if_false]; exact Hm_some ⟨rfl, fin⟩
            · simp only [eq_false p0, eq_false p1, ic_true, ic_false, h1.2.2.1, if_true, if_false]; exact Hm_some ⟨rfl, fin⟩
        · have hr : RI Y N u P mk K L ln Tn tp nm M := hr
          have hr1 := hr.th hN
          have fr0 : Fr RW M (sI M 253 0 0) := Fr.rf.sI (by unfold RW; omega)
          simp (disch := omega) only [e299, sp222, w1, w2, w3, i_nat, Nat.add_zero, Nat.not_lt_zero, i_neg, i_lt, i_le, i_eq, i_add, i_addl, i_addr, i_mulr, i_mull, i_subl, i_pred, i_ltl, i_ltr, i_eql, i_em1, cIn_s, cVd_s, cLo_s, ic_true, ic_false, ic_same, i10, eq_self, b2_0, b2_1, b2_and, b2_t, b2_f, ck']
          refine Hm_cVv (sp259S (B := 0) (b := 0) (B' := 1078) (b' := 1078) rfl rfl hN hr1.2.1 (by omega) (by omega) (by omega)) (fun M0 h0 => ?_)
          have eg : (Int32.ofNat G).toInt64 = Int64.ofNat G := by
            rw [← Int64.toInt_inj, l_ti (by omega), Int32.toInt_toInt64, i_toInt (by omega)]
          rw [lp0_eq, eg]
          have f0 : Fr RW M (sJ M0 253 39 (Int64.ofNat G)) := (fr0.tr (h0.2.up (fun c j h => by unfold RW; omega))).sJ (by unfold RW; omega)
          refine lp_for (d := d + 39) (x := 299) (pc := 63) k 1 10 (by omega) (fun i lv M1 => lv = [some (vR 12 0 253), some (vI (Int32.ofNat G)), some (vI (Int32.ofNat k)), some (vI r), some (vI (decs Y N G i).2.1), some (vI (decs Y N G i).2.2), some (vI 0), some (vI (Int32.ofNat i))] ∧ DRr Y (decs Y N G i).1 M1 ∧ Fr RW M M1) ?_ ?_ k 0 (by omega) 20000 _ _ (by omega) ⟨rfl, ⟨h0.1.fr hN.A6 (W := fun c j => c = 253) (Fr.rf.sJ (by omega)) (fun j a1 a2 => by omega), sJ_eq⟩, f0⟩
          · rintro i hi F lv M1 - ⟨rfl, hD, hf⟩ z
            have hR1 : YR Y M1 := hr.1.fr hf (fun c j a1 a2 => by unfold RW; omega)
            have hI2 := decs_SI (G := G) hN hI (by omega) ht i (by omega)
            simp (disch := omega) only [e299_63, eq_true hi, i_nat, Nat.add_zero, Nat.not_lt_zero, i_neg, i_lt, i_le, i_eq, i_add, i_addl, i_addr, i_mulr, i_mull, i_subl, i_pred, i_ltl, i_ltr, i_eql, i_em1, cIn_s, cVd_s, cLo_s, ic_true, ic_false, ic_same, i10, eq_self, b2_0, b2_1, b2_and, b2_t, b2_f, ck']
            refine Hm_cIv (sp300 (d := d + 32) hR1 hN hp.1.2.1 hD hI2 (by omega)) (fun M2 h2 => ?_)
            have f2 := hf.tr h2.2
            have hR2 : YR Y M2 := hr.1.fr f2 (fun c j a1 a2 => by unfold RW; omega)
            have hI3 := decs_SI (G := G) hN hI (by omega) ht (i + 1) (by omega)
            have s250 := sp250 (d := d + 34) (B := 1078) (b := 1078) rfl hR2 hN h2.1.1 hI3.1 (by omega)
            simp (disch := omega) only [s250, sp252 hR2 hN, i_nat, Nat.add_zero, Nat.not_lt_zero, i_neg, i_lt, i_le, i_eq, i_add, i_addl, i_addr, i_mulr, i_mull, i_subl, i_pred, i_ltl, i_ltr, i_eql, i_em1, cIn_s, cVd_s, cLo_s, ic_true, ic_false, ic_same, i10, eq_self, b2_0, b2_1, b2_and, b2_t, b2_f, ck']
            exact z _ _ _ (by omega) ⟨rfl, h2.1, f2⟩
          · rintro F lv M1 hF ⟨rfl, hD, hf⟩
            have hR1 : YR Y M1 := hr.1.fr hf (fun c j a1 a2 => by unfold RW; omega)
            simp (disch := omega) only [e299_63, Nat.lt_irrefl, i_nat, Nat.add_zero, Nat.not_lt_zero, i_neg, i_lt, i_le, i_eq, i_add, i_addl, i_addr, i_mulr, i_mull, i_subl, i_pred, i_ltl, i_ltr, i_eql, i_em1, cIn_s, cVd_s, cLo_s, ic_true, ic_false, ic_same, i10, eq_self, b2_0, b2_1, b2_and, b2_t, b2_f, ck']
            refine lp_for (d := d + 39) (x := 299) (pc := 103) (nC Y) 1 0 (by omega) (fun i lv M2 => lv = [some (vR 12 0 253), some (vI (Int32.ofNat G)), some (vI (Int32.ofNat k)), some (vI r), some (vI (decs Y N G k).2.1), some (vI (decs Y N G k).2.2), some (vI (rf (fun (x : Int32) c => x + (M1.1 269 (1115 + c))) 0 i)), some (vI (Int32.ofNat i))] ∧ M2 = M1) ?_ ?_ (nC Y) 0 (by omega) F _ _ (by omega) ⟨rfl, rfl⟩
            · rintro i hi F' lv M2 - ⟨rfl, rfl⟩ z
              simp (disch := omega) only [e299_103, sp248 hR1 hN, eq_true hi, i_nat, Nat.add_zero, Nat.not_lt_zero, i_neg, i_lt, i_le, i_eq, i_add, i_addl, i_addr, i_mulr, i_mull, i_subl, i_pred, i_ltl, i_ltr, i_eql, i_em1, cIn_s, cVd_s, cLo_s, ic_true, ic_false, ic_same, i10, eq_self, b2_0, b2_1, b2_and, b2_t, b2_f, ck']
              exact z _ _ _ (by omega) ⟨rfl, rfl⟩
            · rintro F' lv M2 - ⟨rfl, rfl⟩
              simp (disch := omega) only [e299_103, sp248 hR1 hN, Nat.lt_irrefl, i_nat, Nat.add_zero, Nat.not_lt_zero, i_neg, i_lt, i_le, i_eq, i_add, i_addl, i_addr, i_mulr, i_mull, i_subl, i_pred, i_ltl, i_ltr, i_eql, i_em1, cIn_s, cVd_s, cLo_s, ic_true, ic_false, ic_same, i10, eq_self, b2_0, b2_1, b2_and, b2_t, b2_f, ck']
              have fin : RI Y N u P mk K L ln Tn tp nm M2 ∧ Fr ReW M M2 := ⟨hr.fr hN hu hL hf (fun c j hcc => by unfold RCo RW at *; omega), hf.up (fun c j h => by unfold RW at h; unfold ReW; omega)⟩
              by_cases p0 : r = 0
              · simp only [eq_true p0, ic_true, if_true]; exact Hm_some ⟨rfl, fin⟩
              · by_cases p1 : r = 1
                · simp only [eq_false p0, eq_true p1, ic_true, ic_false, if_true, if_false]; exact Hm_some ⟨rfl, fin⟩
                · simp only [eq_false p0, eq_false p1, ic_true, ic_false, if_true, if_false]
                  refine Hm_some ⟨?_, fin⟩
                  rw [hurtN hN hI1.1 hD.1 (nC Y) h6c]
                  have := sm_6 (f := fun e => if bt ((decs Y N G k).1.1 0 9) e then 1 else 0) (k := nC Y) h6c (fun e he h6 => by
                    have hb := (hI1.1.bits (n := e) (by omega)).2.2
                    cases hc : bt ((decs Y N G k).1.1 0 9) e
                    · simp [hc]
                    · have := hb hc; omega) (6 - nC Y) (by omega)
                  rw [show nC Y + (6 - nC Y) = 6 by omega] at this
                  rw [this]
      · refine ⟨-1, (Y, N, u, P, mk, K, L, ln, Tn, tp, nm), hp, fun d M hc => nopC ?_ hc, fun d M hr => nopR hN ?_ hr⟩
        · simp only [e141, eq_false (inn w1).1, eq_false (inn w1).2, eq_false (inn w2).1, eq_false (inn w2).2, ic_false]
          by_cases h : r < 0
          · simp only [eq_true h, ic_true]
          · simp only [eq_false h, eq_true (out w3 h), ic_true, ic_false]
        · simp (disch := omega) only [e299, sp222, w1, w2, nf w3, i_nat, Nat.add_zero, Nat.not_lt_zero, i_neg, i_lt, i_le, i_eq, i_add, i_addl, i_addr, i_mulr, i_mull, i_subl, i_pred, i_ltl, i_ltr, i_eql, i_em1, cIn_s, cVd_s, cLo_s, ic_true, ic_false, ic_same, i10, eq_self, b2_0, b2_1, b2_and, b2_t, b2_f, ck']
    · refine ⟨-1, (Y, N, u, P, mk, K, L, ln, Tn, tp, nm), hp, fun d M hc => nopC ?_ hc, fun d M hr => nopR hN ?_ hr⟩
      · simp only [e141, eq_false (inn w1).1, eq_false (inn w1).2, ic_false]
        by_cases h : q < 1
        · simp only [eq_true h, ic_true]
        · simp only [eq_false h, eq_true (out w2 h), ic_true, ic_false]
      · simp (disch := omega) only [e299, sp222, w1, nf w2, i_nat, Nat.add_zero, Nat.not_lt_zero, i_neg, i_lt, i_le, i_eq, i_add, i_addl, i_addr, i_mulr, i_mull, i_subl, i_pred, i_ltl, i_ltr, i_eql, i_em1, cIn_s, cVd_s, cLo_s, ic_true, ic_false, ic_same, i10, eq_self, b2_0, b2_1, b2_and, b2_t, b2_f, ck']
  · refine ⟨-1, (Y, N, u, P, mk, K, L, ln, Tn, tp, nm), hp, fun d M hc => nopC ?_ hc, fun d M hr => nopR hN ?_ hr⟩
    · simp only [e141]
      by_cases h : p < 0
      · simp only [eq_true h, ic_true]
      · simp only [eq_false h, eq_true (out w1 h), ic_true, ic_false]
    · simp (disch := omega) only [e299, sp222, nf w1, i_nat, Nat.add_zero, Nat.not_lt_zero, i_neg, i_lt, i_le, i_eq, i_add, i_addl, i_addr, i_mulr, i_mull, i_subl, i_pred, i_ltl, i_ltr, i_eql, i_em1, cIn_s, cVd_s, cLo_s, ic_true, ic_false, ic_same, i10, eq_self, b2_0, b2_1, b2_and, b2_t, b2_f, ck']
end DECADES2
