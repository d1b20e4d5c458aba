/-! THE CLASS'S STATES, further: nights, carving, what may be done -/
section STATE2
def rg (x : Int32) (lo hi : Int) : Prop := lo ≤ x.toInt ∧ x.toInt ≤ hi
def spt (S : YT) (a : Nat) : Nat := (S 4 a).toNatClampNeg
def nnt (S : YT) : Nat := (S 0 0).toNatClampNeg
/-- an act's own numbers are right -/
def SA (Y S : YT) (a : Nat) : Prop := (up S a = true → S 4 a = Int32.ofNat (spt S a) ∧ spt S a < nB Y) ∧ (bt (S 0 8) a = false → 1 ≤ (S 1 a).toInt) ∧ (up S a = false → S 4 a = -1) ∧ rg (S 1 a) 0 20 ∧ rg (S 2 a) 0 99 ∧ rg (S 3 a) 0 3 ∧ (S 6 a = -1 ∨ rg (S 6 a) 0 20)
/-- a state of a yard, at most b nights old -/
def SI (Y : YT) (b : Nat) (S : YT) : Prop := (S 0 0 = Int32.ofNat (nnt S) ∧ nnt S ≤ b) ∧ (∀ a, a < nA Y → SA Y S a) ∧ (∀ c, c < 6 → S 5 c = -1 ∨ ∃ a, a < nA Y ∧ S 5 c = Int32.ofNat a) ∧ ∀ n, n < 32 → (bt (S 0 8) n = true → bt (S 0 7) n = true) ∧ (bt (S 0 7) n = true → n < nA Y) ∧ (bt (S 0 9) n = true → n < nC Y)
theorem SI.n {Y S : YT} {b : Nat} (h : SI Y b S) : S 0 0 = Int32.ofNat (nnt S) := h.1.1
theorem SI.nb {Y S : YT} {b : Nat} (h : SI Y b S) : nnt S ≤ b := h.1.2
theorem SI.a {Y S : YT} {b : Nat} (h : SI Y b S) {a : Nat} (ha : a < nA Y) : SA Y S a := h.2.1 a ha
theorem SI.c {Y S : YT} {b : Nat} (h : SI Y b S) {c : Nat} (hc : c < 6) : S 5 c = -1 ∨ ∃ a, a < nA Y ∧ S 5 c = Int32.ofNat a := h.2.2.1 c hc
theorem SI.bits {Y S : YT} {b : Nat} (h : SI Y b S) {n : Nat} (hn : n < 32) : (bt (S 0 8) n = true → bt (S 0 7) n = true) ∧ (bt (S 0 7) n = true → n < nA Y) ∧ (bt (S 0 9) n = true → n < nC Y) := h.2.2.2 n hn
theorem SI.sp {Y S : YT} {b : Nat} (h : SI Y b S) {a : Nat} (ha : a < nA Y) (hu : up S a = true) : S 4 a = Int32.ofNat (spt S a) ∧ spt S a < nB Y ∧ 1 ≤ (S 1 a).toInt := ⟨((h.a ha).1 hu).1, ((h.a ha).1 hu).2, (h.a ha).2.1 (by unfold up at hu; revert hu; cases bt (S 0 8) a <;> simp)⟩
theorem SI.le {Y S : YT} {b b' : Nat} (h : SI Y b S) (hb : b ≤ b') : SI Y b' S := ⟨⟨h.1.1, Nat.le_trans h.1.2 hb⟩, h.2⟩
def melT (Y S : YT) (a : Nat) (m : Int32) : Int32 := melP Y a (spt S a) (S 1 a) (S 3 a) (warm Y (nnt S) + m)
def force (Y S : YT) : Int32 := rf (fun x a => x ||| (if inF Y S a then 1 <<< (Int32.ofNat a &&& 31) else 0)) 0 (nA Y)
def wor (Y : YT) (set : Int32) : Int32 := rf (fun x a => x + (if bt set a then Y 16 a else 0)) 0 (nA Y)
def toldN (Y S : YT) : Int32 := rf (fun x a => x + (if S 6 a = -1 then 0 else 1)) 0 (nA Y)
def free (Y S : YT) (q : Int32) : Bool := decide (∀ a, a < nA Y → S 4 a ≠ q)
def mayB (Y S : YT) (a : Nat) (q : Int32) : Bool := !bt (S 0 7) a && free Y S q
def mayC (Y S : YT) (c a : Nat) : Bool := !bt (S 0 9) c && decide (S 5 c = -1) && up S a && !isD Y S a
def mayP (S : YT) (a : Nat) : Bool := up S a && decide (S 3 a < 3)
def begS (S : YT) (a : Nat) (q : Int32) : YT := us (us S 0 7 (S 0 7 ||| (1 <<< (Int32.ofNat a &&& 31)))) 4 a q
def carS (Y S : YT) (c a : Nat) : YT := us (us S 2 a (chp Y c (S 1 a) (S 2 a))) 5 c (Int32.ofNat a)
/-- an act loses so much; has it fallen -/
def losF (S : YT) (a : Nat) (v : Int32) : Bool := !decide (0 < imax 0 (S 1 a - v))
def losS (S : YT) (a : Nat) (v : Int32) : YT :=
  if losF S a v then us (us (us S 1 a (imax 0 (S 1 a - v))) 0 8 (S 0 8 ||| (1 <<< (Int32.ofNat a &&& 31)))) 4 a (-1) else us S 1 a (imax 0 (S 1 a - v))
def hurS (Y S : YT) (a : Nat) : YT := if S 5 (mv Y a) = Int32.ofNat a then us S 0 9 (S 0 9 ||| (1 <<< (Int32.ofNat (mv Y a) &&& 31))) else S
def nitA (Y : YT) (m : Int32) (p : YT × Int32) (a : Nat) : YT × Int32 :=
  if up p.1 a then (if losF p.1 a (melT Y p.1 a m) then (hurS Y (losS p.1 a (melT Y p.1 a m)) a, p.2 + 1) else (losS p.1 a (melT Y p.1 a m), p.2)) else p
def endN (S : YT) : YT := us (fls (fls S 5 (-1)) 6 (-1)) 0 0 (S 0 0 + 1)
def nit (Y : YT) (m : Int32) (S : YT) (n : Nat) : YT × Int32 := rf (nitA Y m) (S, 0) n
def nitS (Y S : YT) (m : Int32) : YT := endN (nit Y m S (nA Y)).1
def nitC (Y S : YT) (m : Int32) : Int32 := (nit Y m S (nA Y)).2
/-- in how many nights it falls: so many are left, the i-th comes -/
def fall (Y : YT) (a s : Nat) (props : Int32) (n : Nat) (tall : Int32) (i : Nat) : Nat → Nat
  | 0 => i + 1
  | k + 1 => if 0 < tall - melP Y a s tall props (warm Y (n + i)) then fall Y a s props n (tall - melP Y a s tall props (warm Y (n + i))) (i + 1) k else i + 1
section
variable {d : Nat} {Y S : YT} {k : Nat} {M : Mem} {p q v m : Int32} {a s n c b : Nat} {tall props deg done : Int32}
theorem mel0_rg : rg (mel0 Y a s tall deg) 0 10 := by
  have h1 : (imax 0 (imin 9 (lawv (Y 21) (nM Y) deg (Y 10 s) tall))).toInt ≤ 9 := by rw [t_max, t_min, t_0, show (9 : Int32).toInt = 9 from rfl]; omega
  have h2 : 0 ≤ (imax 0 (imin 9 (lawv (Y 21) (nM Y) deg (Y 10 s) tall))).toInt := by rw [t_max, t_0]; omega
  unfold mel0
  generalize imax 0 (imin 9 (lawv (Y 21) (nM Y) deg (Y 10 s) tall)) = x at *
  split
  · unfold rg; rw [t_add (by rw [t_1]; omega) (by rw [t_1]; omega), t_1]; omega
  · split
    · unfold rg
      rw [Int32.toInt_div, show (2 : Int32).toInt = 2 from rfl]
      have : x.toInt.tdiv 2 = x.toInt / 2 := Int.tdiv_eq_ediv_of_nonneg h2
      rw [this, bm (by omega) (by omega)]; omega
    · exact ⟨h2, by omega⟩
theorem melP_rg (hp : rg props 0 4) : rg (melP Y a s tall props deg) 0 10 := by
  have h := mel0_rg (Y := Y) (a := a) (s := s) (tall := tall) (deg := deg)
  unfold melP
  unfold rg at h hp ⊢
  split
  · rw [t_0]; omega
  · rw [t_max, t_sub (by omega) (by omega), t_0]; omega
theorem sp100 (hY : YC Y M) (hN : YN Y) (hL : YL Y) (hS : SC S k M) (hI : SI Y b S) (hb : b < 1000000) (ha : a < nA Y) (hu : up S a = true) :
    Hm (evD (d + 5) 100 [vR 6 0 k, vI (Int32.ofNat a), vI m] M) (fun r M' => r = some (vI (melT Y S a m)) ∧ Fr (fun c _ => c = 22) M M') := by
  have h6 := hN.A6
  have hB := hN.B6
  obtain ⟨e1, e2, -⟩ := hI.sp ha hu
  have hn := hI.nb
  simp (disch := omega) only [e100, i_nat, Nat.add_zero, Nat.not_lt_zero, i_neg, i_lt, i_le, i_eq, i_add, i_addl, i_addr, i_mulr, i_mull, i_subl, i_pred, i_ltl, i_ltr, i_eql, i_em1, cIn_s, cVd_s, cLo_s, ic_true, ic_false, ic_same, i10, eq_self, b2_0, b2_1, b2_and, b2_t, b2_f, ck', hS, hI.n, sp101 hY hN, e1]
  exact Hm_cIv (sp103 hY hL (by omega) (by omega)) (fun M1 hf => Hm_some ⟨rfl, hf⟩)
theorem sp126 (hY : YC Y M) (hL : YL Y) (hc : c < 6) :
    Hm (evD (d + 3) 126 [vR 9 0 3, vI (Int32.ofNat c), vI tall, vI done] M) (fun r M' => r = some (vI (chp Y c tall done)) ∧ Fr (fun c _ => c = 25) M M') := by
  simp (disch := omega) only [e126, i_nat, Nat.add_zero, Nat.not_lt_zero, i_neg, i_lt, i_le, i_eq, i_add, i_addl, i_addr, i_mulr, i_mull, i_subl, i_pred, i_ltl, i_ltr, i_eql, i_em1, cIn_s, cVd_s, cLo_s, ic_true, ic_false, ic_same, i10, eq_self, b2_0, b2_1, b2_and, b2_t, b2_f, ck']
  have hl := sp104 (d := d) (kL := 23) (n := nK Y) (x := M.1 (3 + 9) c) (y := tall) (z := done) (M := M) (by rw [← hL.2.2.1]; simp only [hY]) (by have := hL.2.2.2; simp only [Nat.reduceAdd, hY]; exact this)
  refine Hm_cIv hl (fun M1 hf => ?_)
  simp (disch := omega) only [sp22, sp21, i_nat, Nat.add_zero, Nat.not_lt_zero, i_neg, i_lt, i_le, i_eq, i_add, i_addl, i_addr, i_mulr, i_mull, i_subl, i_pred, i_ltl, i_ltr, i_eql, i_em1, cIn_s, cVd_s, cLo_s, ic_true, ic_false, ic_same, i10, eq_self, b2_0, b2_1, b2_and, b2_t, b2_f, ck', Nat.reduceAdd, hY]
  exact Hm_some ⟨rfl, hf⟩
theorem sp110 (hY : YC Y M) (hN : YN Y) (hS : SC S k M) : evD (d + 5) 110 [vR 6 0 k] M = some (some (vI (force Y S)), M) := by
  have h6 := hN.A6
  have h : Hm (evD (d + 5) 110 [vR 6 0 k] M) (fun r M' => r = some (vI (force Y S)) ∧ M' = M) := by
    rw [e110]; simp only [lp0_eq]
    refine lp_for (d := d + 4) (x := 110) (pc := 4) (nA Y) 1 0 (by omega) (fun i lv M' => lv = [some (vR 6 0 k), some (vI (rf (fun x a => x ||| (if inF Y S a then 1 <<< (Int32.ofNat a &&& 31) else 0)) 0 i)), some (vI (Int32.ofNat i))] ∧ M' = M) ?_ ?_ (nA Y) 0 (by omega) 20000 _ M (by omega) ⟨rfl, rfl⟩
    · rintro i hi G lv M' - ⟨rfl, rfl⟩ z
      simp (disch := omega) only [e110_4, i_nat, Nat.add_zero, Nat.not_lt_zero, i_neg, i_lt, i_le, i_eq, i_add, i_addl, i_addr, i_mulr, i_mull, i_subl, i_pred, i_ltl, i_ltr, i_eql, i_em1, cIn_s, cVd_s, cLo_s, ic_true, ic_false, ic_same, i10, eq_self, b2_0, b2_1, b2_and, b2_t, b2_f, ck', hY, hN.A, hi, sp96 hY hS (show i < 6 by omega)]
      cases hf : inF Y S i
      · simp only [cIn_s, cVd_s, cLo_s, ic_true, ic_false, ic_same]; exact z _ _ _ (by omega) ⟨by simp [rf, hf], rfl⟩
      · simp only [cIn_s, cVd_s, cLo_s, ic_true, ic_false, ic_same, Bool.true_eq_false]; exact z _ _ _ (by omega) ⟨by simp [rf, hf], rfl⟩
    · rintro G lv M' - ⟨rfl, rfl⟩
      simp (disch := omega) only [e110_4, i_nat, Nat.add_zero, Nat.not_lt_zero, i_neg, i_lt, i_le, i_eq, i_add, i_addl, i_addr, i_mulr, i_mull, i_subl, i_pred, i_ltl, i_ltr, i_eql, i_em1, cIn_s, cVd_s, cLo_s, ic_true, ic_false, ic_same, i10, eq_self, b2_0, b2_1, b2_and, b2_t, b2_f, ck', hY, hN.A, Nat.lt_irrefl]
      exact Hm_some ⟨rfl, rfl⟩
  obtain ⟨a, M', h1, h2, h3⟩ := h
  rw [h1, h2, h3]
theorem sp114 (hY : YC Y M) (hN : YN Y) : evD (d + 2) 114 [vR 9 0 3, vI v] M = some (some (vI (wor Y v)), M) := by
  have h6 := hN.A6
  have h : Hm (evD (d + 2) 114 [vR 9 0 3, vI v] M) (fun r M' => r = some (vI (wor Y v)) ∧ M' = M) := by
    rw [e114]; simp only [lp0_eq]
    refine lp_for (d := d + 1) (x := 114) (pc := 4) (nA Y) 1 0 (by omega) (fun i lv M' => lv = [some (vR 9 0 3), some (vI v), some (vI (rf (fun x a => x + (if bt v a then Y 16 a else 0)) 0 i)), some (vI (Int32.ofNat i))] ∧ M' = M) ?_ ?_ (nA Y) 0 (by omega) 20000 _ M (by omega) ⟨rfl, rfl⟩
    · rintro i hi G lv M' - ⟨rfl, rfl⟩ z
      simp (disch := omega) only [e114_4, i_nat, Nat.add_zero, Nat.not_lt_zero, i_neg, i_lt, i_le, i_eq, i_add, i_addl, i_addr, i_mulr, i_mull, i_subl, i_pred, i_ltl, i_ltr, i_eql, i_em1, cIn_s, cVd_s, cLo_s, ic_true, ic_false, ic_same, i10, eq_self, b2_0, b2_1, b2_and, b2_t, b2_f, ck', hY, hN.A, hi, sp64, Nat.reduceAdd]
      cases hf : bt v i
      · simp only [cIn_s, cVd_s, cLo_s, ic_true, ic_false, ic_same]; exact z _ _ _ (by omega) ⟨by simp [rf, hf], rfl⟩
      · simp (disch := omega) only [i_nat, Nat.add_zero, Nat.not_lt_zero, i_neg, i_lt, i_le, i_eq, i_add, i_addl, i_addr, i_mulr, i_mull, i_subl, i_pred, i_ltl, i_ltr, i_eql, i_em1, cIn_s, cVd_s, cLo_s, ic_true, ic_false, ic_same, i10, eq_self, b2_0, b2_1, b2_and, b2_t, b2_f, ck', Bool.true_eq_false]; exact z _ _ _ (by omega) ⟨by simp [rf, hf], rfl⟩
    · rintro G lv M' - ⟨rfl, rfl⟩
      simp (disch := omega) only [e114_4, i_nat, Nat.add_zero, Nat.not_lt_zero, i_neg, i_lt, i_le, i_eq, i_add, i_addl, i_addr, i_mulr, i_mull, i_subl, i_pred, i_ltl, i_ltr, i_eql, i_em1, cIn_s, cVd_s, cLo_s, ic_true, ic_false, ic_same, i10, eq_self, b2_0, b2_1, b2_and, b2_t, b2_f, ck', hY, hN.A, Nat.lt_irrefl, Nat.reduceAdd]
      exact Hm_some ⟨rfl, rfl⟩
  obtain ⟨a, M', h1, h2, h3⟩ := h
  rw [h1, h2, h3]
theorem sp113 (hY : YC Y M) (hN : YN Y) (hS : SC S k M) : evD (d + 6) 113 [vR 6 0 k] M = some (some (vI (wor Y (force Y S))), M) := by
  simp only [e113, sp110 hY hN hS, sp114 hY hN, cIn_s]
theorem sp115 (hY : YC Y M) (hN : YN Y) (hS : SC S k M) : evD (d + 1) 115 [vR 6 0 k] M = some (some (vI (toldN Y S)), M) := by
  have h6 := hN.A6
  have h : Hm (evD (d + 1) 115 [vR 6 0 k] M) (fun r M' => r = some (vI (toldN Y S)) ∧ M' = M) := by
    rw [e115]; simp only [lp0_eq]
    refine lp_for (d := d) (x := 115) (pc := 4) (nA Y) 1 0 (by omega) (fun i lv M' => lv = [some (vR 6 0 k), some (vI (rf (fun x a => x + (if S 6 a = -1 then 0 else 1)) 0 i)), some (vI (Int32.ofNat i))] ∧ M' = M) ?_ ?_ (nA Y) 0 (by omega) 20000 _ M (by omega) ⟨rfl, rfl⟩
    · rintro i hi G lv M' - ⟨rfl, rfl⟩ z
      simp (disch := omega) only [e115_4, i_nat, Nat.add_zero, Nat.not_lt_zero, i_neg, i_lt, i_le, i_eq, i_add, i_addl, i_addr, i_mulr, i_mull, i_subl, i_pred, i_ltl, i_ltr, i_eql, i_em1, cIn_s, cVd_s, cLo_s, ic_true, ic_false, ic_same, i10, eq_self, b2_0, b2_1, b2_and, b2_t, b2_f, ck', hY, hN.A, hi, hS]
      refine Hm_ic (fun h => ?_) (fun h => ?_)
      · exact z _ _ _ (by omega) ⟨by simp [rf, h], rfl⟩
      · exact z _ _ _ (by omega) ⟨by simp [rf, h], rfl⟩
    · rintro G lv M' - ⟨rfl, rfl⟩
      simp (disch := omega) only [e115_4, i_nat, Nat.add_zero, Nat.not_lt_zero, i_neg, i_lt, i_le, i_eq, i_add, i_addl, i_addr, i_mulr, i_mull, i_subl, i_pred, i_ltl, i_ltr, i_eql, i_em1, cIn_s, cVd_s, cLo_s, ic_true, ic_false, ic_same, i10, eq_self, b2_0, b2_1, b2_and, b2_t, b2_f, ck', hY, hN.A, Nat.lt_irrefl]
      exact Hm_some ⟨rfl, rfl⟩
  obtain ⟨a, M', h1, h2, h3⟩ := h
  rw [h1, h2, h3]
theorem sp119 (hY : YC Y M) (hN : YN Y) (hS : SC S k M) : evD (d + 1) 119 [vR 6 0 k, vI q] M = some (some (vI (b2 (free Y S q))), M) := by
  have h6 := hN.A6
  have h : Hm (evD (d + 1) 119 [vR 6 0 k, vI q] M) (fun r M' => r = some (vI (b2 (free Y S q))) ∧ M' = M) := by
    rw [e119]; simp only [lp0_eq]
    refine lp_for (d := d) (x := 119) (pc := 2) (nA Y) 1 0 (by omega) (fun i lv M' => lv = [some (vR 6 0 k), some (vI q), some (vI (Int32.ofNat i))] ∧ M' = M ∧ ∀ a, a < i → S 4 a ≠ q) ?_ ?_ (nA Y) 0 (by omega) 20000 _ M (by omega) ⟨rfl, rfl, fun a ha => by omega⟩
    · rintro i hi G lv M' - ⟨rfl, rfl, hq⟩ z
      simp (disch := omega) only [e119_2, i_nat, Nat.add_zero, Nat.not_lt_zero, i_neg, i_lt, i_le, i_eq, i_add, i_addl, i_addr, i_mulr, i_mull, i_subl, i_pred, i_ltl, i_ltr, i_eql, i_em1, cIn_s, cVd_s, cLo_s, ic_true, ic_false, ic_same, i10, eq_self, b2_0, b2_1, b2_and, b2_t, b2_f, ck', hY, hN.A, hi, hS]
      refine Hm_ic (fun h => ?_) (fun h => ?_)
      · refine Hm_some ⟨?_, rfl⟩
        have : free Y S q = false := by simp only [free, decide_eq_false_iff_not]; exact fun z => z i hi h
        rw [this]; rfl
      · exact z _ _ _ (by omega) ⟨rfl, rfl, fun a ha => by
          by_cases e : a = i
          · subst e; exact h
          · exact hq a (by omega)⟩
    · rintro G lv M' - ⟨rfl, rfl, hq⟩
      simp (disch := omega) only [e119_2, i_nat, Nat.add_zero, Nat.not_lt_zero, i_neg, i_lt, i_le, i_eq, i_add, i_addl, i_addr, i_mulr, i_mull, i_subl, i_pred, i_ltl, i_ltr, i_eql, i_em1, cIn_s, cVd_s, cLo_s, ic_true, ic_false, ic_same, i10, eq_self, b2_0, b2_1, b2_and, b2_t, b2_f, ck', hY, hN.A, Nat.lt_irrefl]
      refine Hm_some ⟨?_, rfl⟩
      have : free Y S q = true := by simp only [free, decide_eq_true_eq]; exact hq
      rw [this]; rfl
  obtain ⟨a, M', h1, h2, h3⟩ := h
  rw [h1, h2, h3]
theorem sp118 (hY : YC Y M) (hN : YN Y) (hS : SC S k M) (ha : a < 32) : evD (d + 2) 118 [vR 6 0 k, vI (Int32.ofNat a), vI q] M = some (some (vI (b2 (mayB Y S a q))), M) := by
  simp (disch := omega) only [e118, i_nat, Nat.add_zero, Nat.not_lt_zero, i_neg, i_lt, i_le, i_eq, i_add, i_addl, i_addr, i_mulr, i_mull, i_subl, i_pred, i_ltl, i_ltr, i_eql, i_em1, cIn_s, cVd_s, cLo_s, ic_true, ic_false, ic_same, i10, eq_self, b2_0, b2_1, b2_and, b2_t, b2_f, ck', hS, sp64 ha, sp119 hY hN hS, mayB]
  cases bt (S 0 7) a <;> cases free Y S q <;> simp [ic_true, ic_false, b2]
theorem sp124 (hY : YC Y M) (hS : SC S k M) (hc : c < 6) (ha : a < 6) : evD (d + 4) 124 [vR 6 0 k, vI (Int32.ofNat c), vI (Int32.ofNat a)] M = some (some (vI (b2 (mayC Y S c a))), M) := by
  simp (disch := omega) only [e124, i_nat, Nat.add_zero, Nat.not_lt_zero, i_neg, i_lt, i_le, i_eq, i_add, i_addl, i_addr, i_mulr, i_mull, i_subl, i_pred, i_ltl, i_ltr, i_eql, i_em1, cIn_s, cVd_s, cLo_s, ic_true, ic_false, ic_same, i10, eq_self, b2_0, b2_1, b2_and, b2_t, b2_f, ck', hS, sp64, sp97 hS, sp99 hY hS ha, mayC]
  cases bt (S 0 9) c
  · by_cases h : S 5 c = -1
    · cases up S a <;> cases isD Y S a <;> simp [ic_true, ic_false, b2, h]
    · simp [ic_true, ic_false, b2, h]
  · simp [ic_false, b2]
theorem sp128 (hS : SC S k M) (ha : a < 6) : evD (d + 3) 128 [vR 6 0 k, vI (Int32.ofNat a)] M = some (some (vI (b2 (mayP S a))), M) := by
  simp (disch := omega) only [e128, i_nat, Nat.add_zero, Nat.not_lt_zero, i_neg, i_lt, i_le, i_eq, i_add, i_addl, i_addr, i_mulr, i_mull, i_subl, i_pred, i_ltl, i_ltr, i_eql, i_em1, cIn_s, cVd_s, cLo_s, ic_true, ic_false, ic_same, i10, eq_self, b2_0, b2_1, b2_and, b2_t, b2_f, ck', hS, sp97 hS, mayP, ic_b2]
  cases up S a <;> simp [ic_true, ic_false, b2]
theorem sp122 (hS : SC S k M) (ha : a < 6) : Hm (evD (d + 1) 122 [vR 6 0 k, vI (Int32.ofNat a), vI q] M) (fun r M' => r = none ∧ SC (begS S a q) k M' ∧ Fr (fun c _ => k ≤ c ∧ c ≤ k + 6) M M') := by
  simp (disch := omega) only [e122, i_nat, Nat.add_zero, Nat.not_lt_zero, i_neg, i_lt, i_le, i_eq, i_add, i_addl, i_addr, i_mulr, i_mull, i_subl, i_pred, i_ltl, i_ltr, i_eql, i_em1, cIn_s, cVd_s, cLo_s, ic_true, ic_false, ic_same, i10, eq_self, b2_0, b2_1, b2_and, b2_t, b2_f, ck', hS.1.2.1]
  exact Hm_some ⟨rfl, (hS.s0 _ _).s1 4 a q (by omega), (Fr.rf.sI (by omega)).sI (by omega)⟩
theorem sp125 (hY : YC Y M) (hL : YL Y) (hS : SC S k M) (hk : k + 6 < 22 ∨ 25 < k) (hc : c < 6) (ha : a < 6) : Hm (evD (d + 4) 125 [vR 6 0 k, vI (Int32.ofNat c), vI (Int32.ofNat a)] M) (fun r M' => r = none ∧ SC (carS Y S c a) k M' ∧ Fr (fun c _ => c = 25 ∨ k ≤ c ∧ c ≤ k + 6) M M') := by
  simp (disch := omega) only [e125, i_nat, Nat.add_zero, Nat.not_lt_zero, i_neg, i_lt, i_le, i_eq, i_add, i_addl, i_addr, i_mulr, i_mull, i_subl, i_pred, i_ltl, i_ltr, i_eql, i_em1, cIn_s, cVd_s, cLo_s, ic_true, ic_false, ic_same, i10, eq_self, b2_0, b2_1, b2_and, b2_t, b2_f, ck', hS]
  refine Hm_cIv (sp126 hY hL hc) (fun M1 hf => ?_)
  have hS1 : SC S k M1 := hS.fr hf (fun c j h1 h2 => by omega)
  exact Hm_some ⟨rfl, (hS1.s1 2 a _ (by omega)).s1 5 c _ (by omega), ((hf.up (fun c j h => .inl h)).sI (by omega)).sI (by omega)⟩
theorem sp131 (hS : SC S k M) (ha : a < 6) : Hm (evD (d + 2) 131 [vR 6 0 k, vI (Int32.ofNat a), vI v] M) (fun r M' => r = some (vI (b2 (losF S a v))) ∧ SC (losS S a v) k M' ∧ Fr (fun c _ => k ≤ c ∧ c ≤ k + 6) M M') := by
  simp (disch := omega) only [e131, i_nat, Nat.add_zero, Nat.not_lt_zero, i_neg, i_lt, i_le, i_eq, i_add, i_addl, i_addr, i_mulr, i_mull, i_subl, i_pred, i_ltl, i_ltr, i_eql, i_em1, cIn_s, cVd_s, cLo_s, ic_true, ic_false, ic_same, i10, eq_self, b2_0, b2_1, b2_and, b2_t, b2_f, ck', hS, sp21, sI_eq, sI_eq', sI_ne, sJ_1, sR_1]
  refine Hm_ic (fun h => ?_) (fun h => ?_)
  · have : losF S a v = false := by simp [losF, h]
    rw [this]; unfold losS; rw [this]
    exact Hm_some ⟨rfl, hS.s1 1 a _ (by omega), Fr.rf.sI (by omega)⟩
  · have : losF S a v = true := by simp [losF, h]
    rw [this]; unfold losS; rw [this]
    exact Hm_some ⟨rfl, ((hS.s1 1 a _ (by omega)).s0 _ _).s1 4 a _ (by omega), ((Fr.rf.sI (by omega)).sI (by omega)).sI (by omega)⟩
theorem sp130 (hS : SC S k M) (ha : a < 6) : Hm (evD (d + 3) 130 [vR 6 0 k, vI (Int32.ofNat a)] M) (fun r M' => r = none ∧ SC (losS S a 1) k M' ∧ Fr (fun c _ => k ≤ c ∧ c ≤ k + 6) M M') := by
  rw [e130]
  exact Hm_cIv (sp131 hS ha) (fun M1 h => Hm_some ⟨rfl, h⟩)
end
end STATE2
