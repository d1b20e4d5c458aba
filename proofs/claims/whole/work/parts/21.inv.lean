/-! STATES STAY RIGHT -/
section INV
/-- the ranges of a yard's numbers -/
def YG (Y : YT) : Prop := (∀ a, a < nA Y → rg (Y 14 a) 1 20 ∧ rg (Y 15 a) 1 99 ∧ rg (Y 16 a) 0 99) ∧ (∀ s, s < nB Y → rg (Y 10 s) 0 9) ∧ (∀ c, c < nC Y → rg (Y 11 c) 0 1 ∧ rg (Y 12 c) 0 9) ∧ (∀ i, i < nW Y → rg (Y 19 i) 0 9) ∧ rg (Y 3 15) 0 10 ∧ (∀ a e, a < nA Y → e < nA Y → bt (Y 18 a) e = bt (Y 18 e) a) ∧ (∀ a, a < nA Y → bt (Y 18 a) a = false) ∧ ∀ a, a < nA Y → ∀ e, e < 32 → bt (Y 18 a) e = true → e < nA Y
section
variable {Y S : YT} {b a c : Nat} {v m q : Int32}
theorem up_ne {S' : YT} {e : Nat} (h7 : bt (S' 0 7) e = bt (S 0 7) e) (h8 : bt (S' 0 8) e = bt (S 0 8) e) : up S' e = up S e := by unfold up; rw [h7, h8]
theorem spt_of {s : Nat} (h : S 4 a = Int32.ofNat s) (hs : s < 2147483648) : spt S a = s := by unfold spt; rw [h, i_nat hs]
theorem SI_los (h : SI Y b S) (hN : YN Y) (ha : a < nA Y) (hu : up S a = true) (hv : rg v 0 20) : SI Y b (losS S a v) := by
  have h6 := hN.A6
  obtain ⟨s1, s2, s3, s4, s5, s6, s7⟩ := h.a ha
  obtain ⟨-, -, f1⟩ := h.sp ha hu
  have hb := h.bits (show a < 32 by omega)
  have hu' := hu
  unfold up at hu'
  have hbg : bt (S 0 7) a = true := by revert hu'; cases bt (S 0 7) a <;> simp
  have hfa : bt (S 0 8) a = false := by revert hu'; cases bt (S 0 8) a <;> simp
  unfold rg at hv s4
  have ef : (imax 0 (S 1 a - v)).toInt = max 0 ((S 1 a).toInt - v.toInt) := by rw [t_max, t_sub (by omega) (by omega), t_0]
  unfold losS
  cases hf : losF S a v
  · simp only [Bool.false_eq_true, if_false]
    unfold losF at hf
    simp only [Bool.not_eq_false', decide_eq_true_eq, t_lt, t_0, ef] at hf
    refine ⟨⟨by simpa only [us_ne, nnt, ne_eq, Nat.zero_ne_one, not_false_eq_true, true_or] using h.n, by simpa only [us_ne, nnt, ne_eq, Nat.zero_ne_one, not_false_eq_true, true_or] using h.nb⟩, fun e he => ?_, fun c hc => ?_, fun n hn => ?_⟩
    · unfold SA
      have hue : up (us S 1 a (imax 0 (S 1 a - v))) e = up S e := by unfold up; simp (disch := omega) only [us_ne]
      obtain ⟨r1, r2, r3, r4, r5, r6, r7⟩ := h.a he
      unfold spt at r1 ⊢
      simp (disch := omega) only [us_ne, hue]
      refine ⟨r1, ?_, r3, ?_, r5, r6, r7⟩
      · by_cases z : e = a
        · subst z; rw [us_eq, ef]; intro; omega
        · rw [us_ne (.inr z)]; exact r2
      · by_cases z : e = a
        · subst z; rw [us_eq]; unfold rg; rw [ef]; omega
        · rw [us_ne (.inr z)]; exact r4
    · simp (disch := omega) only [us_ne]; exact h.c hc
    · simp (disch := omega) only [us_ne]; exact h.bits hn
  · simp only [if_true]
    unfold losF at hf
    simp only [Bool.not_eq_true', decide_eq_false_iff_not, t_lt, t_0, ef] at hf
    refine ⟨⟨by simpa (disch := omega) only [us_ne, nnt] using h.n, by simpa (disch := omega) only [us_ne, nnt] using h.nb⟩, fun e he => ?_, fun c hc => ?_, fun n hn => ?_⟩
    · unfold SA
      obtain ⟨r1, r2, r3, r4, r5, r6, r7⟩ := h.a he
      have h8 : bt (S 0 8 ||| 1 <<< (Int32.ofNat a &&& 31)) e = (bt (S 0 8) e || decide (e = a)) := by rw [bt_or, bt_sh (by omega) (by omega)]
      by_cases z : e = a
      · subst z
        have hue : up (us (us (us S 1 e (imax 0 (S 1 e - v))) 0 8 (S 0 8 ||| 1 <<< (Int32.ofNat e &&& 31))) 4 e (-1)) e = false := by unfold up; simp (disch := omega) only [us_ne, us_eq', h8]; simp
        simp (disch := omega) only [us_ne, us_eq', hue, h8, us_eq]
        refine ⟨by simp, by simp, by simp, ?_, r5, r6, r7⟩
        unfold rg; rw [ef]; omega
      · have hue : up (us (us (us S 1 a (imax 0 (S 1 a - v))) 0 8 (S 0 8 ||| 1 <<< (Int32.ofNat a &&& 31))) 4 a (-1)) e = up S e := by unfold up; simp (disch := omega) only [us_ne, us_eq', h8]; simp [z]
        unfold spt at r1 ⊢
        simp (disch := omega) only [us_ne, us_eq', hue, h8, us_eq]
        simp only [z, decide_false, Bool.or_false]
        exact ⟨r1, r2, r3, r4, r5, r6, r7⟩
    · simp (disch := omega) only [us_ne]; exact h.c hc
    · have h8 : bt (S 0 8 ||| 1 <<< (Int32.ofNat a &&& 31)) n = (bt (S 0 8) n || decide (n = a)) := by rw [bt_or, bt_sh (by omega) (by omega)]
      simp (disch := omega) only [us_ne, us_eq', h8]
      have hn' := h.bits hn
      refine ⟨fun z => ?_, hn'.2⟩
      by_cases y : n = a
      · subst y; exact hbg
      · simp only [y, decide_false, Bool.or_false] at z; exact hn'.1 z
theorem SI_hur (h : SI Y b S) (hN : YN Y) (ha : a < nA Y) : SI Y b (hurS Y S a) := by
  have hm := hN.mC ha
  have hc6 := hN.C6
  unfold hurS
  split
  · refine ⟨⟨by simpa (disch := omega) only [us_ne, nnt] using h.n, by simpa (disch := omega) only [us_ne, nnt] using h.nb⟩, fun e he => ?_, fun c hc => ?_, fun n hn => ?_⟩
    · have r := h.a he
      unfold SA up spt at r ⊢
      simp (disch := omega) only [us_ne]; exact r
    · simp (disch := omega) only [us_ne]; exact h.c hc
    · have r := h.bits hn
      simp (disch := omega) only [us_ne, us_eq', bt_or, bt_sh]
      refine ⟨r.1, r.2.1, fun z => ?_⟩
      by_cases y : n = mv Y a
      · subst y; exact hm
      · simp only [y, decide_false, Bool.or_false] at z; exact r.2.2 z
  · exact h
theorem melT_rg (h : SI Y b S) (ha : a < nA Y) : rg (melT Y S a m) 0 10 := by
  have := (h.a ha).2.2.2.2.2.1
  unfold rg at this
  exact melP_rg (by unfold rg; omega)
theorem SI_nitA (h : SI Y b S) (hN : YN Y) (ha : a < nA Y) {x : Int32} : SI Y b (nitA Y m (S, x) a).1 := by
  unfold nitA
  dsimp only
  by_cases hu : up S a = true
  · have hr := melT_rg (m := m) h ha
    have hl : SI Y b (losS S a (melT Y S a m)) := SI_los h hN ha hu ⟨hr.1, by have := hr.2; omega⟩
    simp only [hu, if_true]
    split
    · exact SI_hur hl hN ha
    · exact hl
  · simp only [hu]; exact h
theorem SI_nit (h : SI Y b S) (hN : YN Y) : ∀ n, n ≤ nA Y → SI Y b (nit Y m S n).1
  | 0, _ => h
  | n + 1, hn => by
    have ih := SI_nit h hN n (by omega)
    have := SI_nitA (m := m) (x := (nit Y m S n).2) ih hN (show n < nA Y by omega)
    exact this
theorem nnt_of {n : Nat} (h : S 0 0 = Int32.ofNat n) (hn : n < 2147483648) : nnt S = n := by unfold nnt; rw [h, i_nat hn]
theorem SI_end (h : SI Y b S) (hN : YN Y) (hb : b < 1000000) : SI Y (b + 1) (endN S) := by
  have hn := h.nb
  have h6 := hN.A6
  have e0 : S 0 0 + 1 = Int32.ofNat (nnt S + 1) := by rw [h.n, i_addl]
  have e1 : endN S 0 0 = Int32.ofNat (nnt S + 1) := by unfold endN; rw [us_eq, e0]
  have e2 : nnt (endN S) = nnt S + 1 := nnt_of e1 (by omega)
  refine ⟨⟨by rw [e2, e1], by omega⟩, fun e he => ?_, fun c hc => ?_, fun n hn => ?_⟩
  · have r := h.a he
    unfold SA up spt endN at *
    simp (disch := omega) only [us_ne, fls_ne, fls_eq]
    exact ⟨r.1, r.2.1, r.2.2.1, r.2.2.2.1, r.2.2.2.2.1, r.2.2.2.2.2.1, .inl trivial⟩
  · left; unfold endN; simp (disch := omega) only [us_ne, fls_ne, fls_eq]
  · have r := h.bits hn
    unfold endN; simp (disch := omega) only [us_ne, fls_ne]; exact r
theorem SI_nitS (h : SI Y b S) (hN : YN Y) (hb : b < 1000000) : SI Y (b + 1) (nitS Y S m) := SI_end (SI_nit h hN _ (Nat.le_refl _)) hN hb
theorem SI_beg {s : Nat} (h : SI Y b S) (hN : YN Y) (ha : a < nA Y) (hs : s < nB Y) (hg : bt (S 0 7) a = false) : SI Y b (begS S a (Int32.ofNat s)) := by
  have h6 := hN.A6
  have hB := hN.B6
  have e7 : ∀ e, e < 32 → bt (begS S a (Int32.ofNat s) 0 7) e = (bt (S 0 7) e || decide (e = a)) := fun e he => by
    unfold begS; simp (disch := omega) only [us_ne, us_eq', bt_or, bt_sh]
  have e8 : begS S a (Int32.ofNat s) 0 8 = S 0 8 := by unfold begS; simp (disch := omega) only [us_ne]
  refine ⟨⟨by unfold begS ; simpa (disch := omega) only [us_ne, nnt] using h.n, by unfold begS ; simpa (disch := omega) only [us_ne, nnt] using h.nb⟩, fun e he => ?_, fun c hc => ?_, fun n hn => ?_⟩
  · have r := h.a he
    by_cases z : e = a
    · subst z
      have hf : bt (S 0 8) e = false := by
        have := (h.bits (show e < 32 by omega)).1
        cases q : bt (S 0 8) e
        · rfl
        · rw [this q] at hg; cases hg
      have hu : up (begS S e (Int32.ofNat s)) e = true := by unfold up; rw [e7 e (by omega), e8, hf]; simp
      have e4 : begS S e (Int32.ofNat s) 4 e = Int32.ofNat s := by unfold begS; rw [us_eq]
      have es : spt (begS S e (Int32.ofNat s)) e = s := spt_of e4 (by omega)
      unfold SA at r ⊢
      rw [hu, es, e4, e8]
      unfold begS; simp (disch := omega) only [us_ne]
      exact ⟨fun _ => ⟨trivial, hs⟩, r.2.1, fun z => (by cases z), r.2.2.2⟩
    · have hu : up (begS S a (Int32.ofNat s)) e = up S e := by unfold up; rw [e7 e (by omega), e8]; simp [z]
      unfold SA at r ⊢
      rw [hu, e8]
      unfold spt begS at *
      simp (disch := omega) only [us_ne]; exact r
  · unfold begS; simp (disch := omega) only [us_ne]; exact h.c hc
  · have r := h.bits hn
    have e9 : begS S a (Int32.ofNat s) 0 9 = S 0 9 := by unfold begS; simp (disch := omega) only [us_ne]
    rw [e7 n hn, e8, e9]
    refine ⟨fun z => by rw [r.1 z]; rfl, fun z => ?_, r.2.2⟩
    by_cases y : n = a
    · omega
    · simp only [y, decide_false, Bool.or_false] at z; exact r.2.1 z
theorem chp_rg {tall done : Int32} (h : rg done 0 99) : rg (chp Y c tall done) 0 99 := by
  unfold chp rg at *
  have e : (imax 0 (imin 99 (lawv (Y 24) (nK Y) (Y 12 c) tall done))).toInt ≤ 99 := by rw [t_max, t_min, t_0, show (99 : Int32).toInt = 99 from rfl]; omega
  have e' : 0 ≤ (imax 0 (imin 99 (lawv (Y 24) (nK Y) (Y 12 c) tall done))).toInt := by rw [t_max, t_0]; omega
  rw [t_min, t_add (by omega) (by omega), show (99 : Int32).toInt = 99 from rfl]; omega
theorem SI_car (h : SI Y b S) (hN : YN Y) (ha : a < nA Y) (hc : c < nC Y) : SI Y b (carS Y S c a) := by
  have h6 := hN.A6
  have hC := hN.C6
  refine ⟨⟨by unfold carS ; simpa (disch := omega) only [us_ne, nnt] using h.n, by unfold carS ; simpa (disch := omega) only [us_ne, nnt] using h.nb⟩, fun e he => ?_, fun x hx => ?_, fun n hn => ?_⟩
  · have r := h.a he
    have hu : up (carS Y S c a) e = up S e := by unfold up carS; simp (disch := omega) only [us_ne]
    unfold SA at r ⊢
    rw [hu]
    unfold spt carS at *
    by_cases z : e = a
    · subst z
      simp (disch := omega) only [us_ne, us_eq']
      exact ⟨r.1, r.2.1, r.2.2.1, r.2.2.2.1, chp_rg r.2.2.2.2.1, r.2.2.2.2.2⟩
    · simp (disch := omega) only [us_ne]; exact r
  · unfold carS
    by_cases z : x = c
    · subst z; right; exact ⟨a, ha, by rw [us_eq]⟩
    · simp (disch := omega) only [us_ne]; exact h.c hx
  · unfold carS; simp (disch := omega) only [us_ne]; exact h.bits hn
theorem SI_prp (h : SI Y b S) (ha : a < nA Y) (h3 : S 3 a < 3) : SI Y b (us S 3 a (S 3 a + 1)) := by
  refine ⟨⟨by simpa (disch := omega) only [us_ne, nnt] using h.n, by simpa (disch := omega) only [us_ne, nnt] using h.nb⟩, fun e he => ?_, fun x hx => ?_, fun n hn => ?_⟩
  · have r := h.a he
    unfold SA up spt at *
    simp (disch := omega) only [us_ne]
    refine ⟨r.1, r.2.1, r.2.2.1, r.2.2.2.1, r.2.2.2.2.1, ?_, r.2.2.2.2.2.2⟩
    by_cases z : e = a
    · subst z; rw [us_eq]
      have := r.2.2.2.2.2.1
      rw [t_lt, show (3 : Int32).toInt = 3 from rfl] at h3
      unfold rg at *
      rw [t_add (by rw [t_1]; omega) (by rw [t_1]; omega), t_1]; omega
    · rw [us_ne (.inr z)]; exact r.2.2.2.2.2.1
  · simp (disch := omega) only [us_ne]; exact h.c hx
  · simp (disch := omega) only [us_ne]; exact h.bits hn
theorem SI_tel (h : SI Y b S) (hq : rg q 0 20) : SI Y b (us S 6 a q) := by
  refine ⟨⟨by simpa (disch := omega) only [us_ne, nnt] using h.n, by simpa (disch := omega) only [us_ne, nnt] using h.nb⟩, fun e he => ?_, fun x hx => ?_, fun n hn => ?_⟩
  · have r := h.a he
    unfold SA up spt at *
    simp (disch := omega) only [us_ne]
    refine ⟨r.1, r.2.1, r.2.2.1, r.2.2.2.1, r.2.2.2.2.1, r.2.2.2.2.2.1, ?_⟩
    by_cases z : e = a
    · subst z; rw [us_eq]; exact .inr hq
    · rw [us_ne (.inr z)]; exact r.2.2.2.2.2.2
  · simp (disch := omega) only [us_ne]; exact h.c hx
  · simp (disch := omega) only [us_ne]; exact h.bits hn
/-- the state of a yard's beginning -/
def staS (Y : YT) : YT := fun j i => if j = 1 then Y 14 i else if j = 4 ∨ j = 5 ∨ j = 6 then -1 else 0
theorem SI_sta (hN : YN Y) (hG : YG Y) : SI Y 0 (staS Y) := by
  have h6 := hN.A6
  have z7 : staS Y 0 7 = 0 := rfl
  have z8 : staS Y 0 8 = 0 := rfl
  have z9 : staS Y 0 9 = 0 := rfl
  refine ⟨⟨rfl, Nat.le_refl _⟩, fun e he => ?_, fun x hx => .inl rfl, fun n hn => ?_⟩
  · have g := (hG.1 e he).1
    have hu : up (staS Y) e = false := by unfold up; rw [z7, bt_0]; rfl
    unfold SA
    rw [hu]
    refine ⟨fun z => (by cases z), fun _ => ?_, fun _ => rfl, ?_, ?_, ?_, .inl rfl⟩
    · show 1 ≤ (Y 14 e).toInt; exact g.1
    · show rg (Y 14 e) 0 20; unfold rg at *; omega
    · show rg 0 0 99; unfold rg; rw [t_0]; omega
    · show rg 0 0 3; unfold rg; rw [t_0]; omega
  · rw [z7, z8, z9, bt_0]; exact ⟨fun z => z, fun z => (by cases z), fun z => (by cases z)⟩
end
end INV
section NIGHTS
variable {d : Nat} {Y S : YT} {k : Nat} {M : Mem} {p q v m : Int32} {a s n c b : Nat} {tall props deg done : Int32}
theorem losS_5 : losS S a v 5 c = S 5 c := by unfold losS; split <;> simp (disch := omega) only [us_ne]
theorem losS_9 : losS S a v 0 9 = S 0 9 := by unfold losS; split <;> simp (disch := omega) only [us_ne]
theorem sp133 (hY : YC Y M) (hN : YN Y) (hL : YL Y) (hS : SC S k M) (hI : SI Y b S) (hb : b < 1000000) (hk : 25 < k) :
    Hm (evD (d + 6) 133 [vR 6 0 k, vI m] M) (fun r M' => r = some (vI (nitC Y S m)) ∧ SC (nitS Y S m) k M' ∧ Fr (fun c _ => c = 22 ∨ k ≤ c ∧ c ≤ k + 6) M M') := by
  have h6 := hN.A6
  have hC := hN.C6
  rw [e133]; simp only [lp0_eq]
  refine lp_for (d := d + 5) (x := 133) (pc := 4) (nA Y) 1 0 (by omega) (fun i lv M' => lv = [some (vR 6 0 k), some (vI m), some (vI (nit Y m S i).2), some (vI (Int32.ofNat i))] ∧ SC (nit Y m S i).1 k M' ∧ Fr (fun c _ => c = 22 ∨ k ≤ c ∧ c ≤ k + 6) M M') ?_ ?_ (nA Y) 0 (by omega) 20000 _ M (by omega) ⟨rfl, hS, Fr.rf⟩
  · rintro i hi G lv M' - ⟨rfl, hs, hf⟩ z
    have hY' : YC Y M' := hY.fr hf (fun c j hc => by unfold yc at hc; omega)
    have hI' := SI_nit (m := m) hI hN i (by omega)
    have hm := hN.mC hi
    have hnx : nit Y m S (i + 1) = nitA Y m (nit Y m S i) i := rfl
    generalize nit Y m S i = pp at *
    obtain ⟨T, cnt⟩ := pp
    dsimp only at *
    simp (disch := omega) only [e133_4, i_nat, Nat.add_zero, Nat.not_lt_zero, i_neg, i_lt, i_le, i_eq, i_add, i_addl, i_addr, i_mulr, i_mull, i_subl, i_pred, i_ltl, i_ltr, i_eql, i_em1, cIn_s, cVd_s, cLo_s, ic_true, ic_false, ic_same, i10, eq_self, b2_0, b2_1, b2_and, b2_t, b2_f, ck', hY', hN.A, hi, sp97 hs]
    cases hu : up T i
    · simp only [cIn_s, cVd_s, cLo_s, ic_true, ic_false, ic_same]
      refine z _ _ _ (by omega) ⟨?_, ?_, hf⟩
      · rw [hnx]; simp [nitA, hu]
      · rw [hnx]; simp only [nitA, hu]; exact hs
    · simp only [cIn_s, cVd_s, cLo_s, ic_true, ic_false, ic_same, Bool.true_eq_false]
      refine Hm_cIv (sp100 hY' hN hL hs hI' hb hi hu) (fun M1 hf1 => ?_)
      have hs1 : SC T k M1 := hs.fr hf1 (fun c j h1 h2 => by omega)
      have hY1 : YC Y M1 := hY'.fr hf1 (fun c j hc => by unfold yc at hc; omega)
      refine Hm_cIv (sp131 hs1 (by omega)) (fun M2 h2 => ?_)
      obtain ⟨hs2, hf2⟩ := h2
      have hY2 : YC Y M2 := hY1.fr hf2 (fun c j hc => by unfold yc at hc; omega)
      have hF2 : Fr (fun c _ => c = 22 ∨ k ≤ c ∧ c ≤ k + 6) M M2 := (hf.tr (hf1.up (fun c j h => .inl h))).tr (hf2.up (fun c j h => .inr h))
      simp only [b2_0]
      cases hl : losF T i (melT Y T i m)
      · simp only [cIn_s, cVd_s, cLo_s, ic_true, ic_false, ic_same]
        refine z _ _ _ (by omega) ⟨?_, ?_, hF2⟩
        · rw [hnx]; simp [nitA, hu, hl]
        · rw [hnx]; simp only [nitA, hu, hl, if_true, Bool.false_eq_true, if_false]; exact hs2
      · simp (disch := omega) only [i_nat, Nat.add_zero, Nat.not_lt_zero, i_neg, i_lt, i_le, i_eq, i_add, i_addl, i_addr, i_mulr, i_mull, i_subl, i_pred, i_ltl, i_ltr, i_eql, i_em1, cIn_s, cVd_s, cLo_s, ic_true, ic_false, ic_same, i10, eq_self, b2_0, b2_1, b2_and, b2_t, b2_f, ck', Bool.true_eq_false, hY2, hN.m hi, hs2, losS_5]
        refine Hm_ic (fun h => ?_) (fun h => ?_)
        · refine z _ _ _ (by omega) ⟨?_, ?_, hF2.sI (by omega)⟩
          · rw [hnx]; simp [nitA, hu, hl]
          · rw [hnx]; simp only [nitA, hu, hl, if_true, hurS, losS_5, h, losS_9]; exact hs2.s0 _ _
        · refine z _ _ _ (by omega) ⟨?_, ?_, hF2⟩
          · rw [hnx]; simp [nitA, hu, hl]
          · rw [hnx]; simp only [nitA, hu, hl, if_true, hurS, losS_5, h, if_false]; exact hs2
  · rintro G lv M' - ⟨rfl, hs, hf⟩
    have hY' : YC Y M' := hY.fr hf (fun c j hc => by unfold yc at hc; omega)
    simp (disch := omega) only [e133_4, i_nat, Nat.add_zero, Nat.not_lt_zero, i_neg, i_lt, i_le, i_eq, i_add, i_addl, i_addr, i_mulr, i_mull, i_subl, i_pred, i_ltl, i_ltr, i_eql, i_em1, cIn_s, cVd_s, cLo_s, ic_true, ic_false, ic_same, i10, eq_self, b2_0, b2_1, b2_and, b2_t, b2_f, ck', hY', hN.A, Nat.lt_irrefl, sp2, flI_ne, hs]
    refine Hm_some ⟨rfl, ?_, ((hf.flI (fun j _ => by omega)).flI (fun j _ => by omega)).sI (by omega)⟩
    have := ((hs.f 5 (-1) (by omega)).f 6 (-1) (by omega)).s0 0 ((nit Y m S (nA Y)).1 0 0 + 1)
    exact this
end NIGHTS
