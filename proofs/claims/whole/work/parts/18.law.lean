/-! THE CLASS'S LAWS: a row of words for a stack -/
section LAW
def rf {α : Type} (f : α → Nat → α) (x : α) : Nat → α
  | 0 => x
  | n + 1 => f (rf f x n) n
def lpick (w x y z : Int32) : Int32 := if w = 0 then x else if w = 1 then y else z
def ljoin (w a b : Int32) : Int32 :=
  if w = 10004 then a * b else if w = 10005 then a + b else if w = 10006 then a - b
  else if w = 10007 then (if a < b then 1 else 0) else if w = 10008 then (if a = b then 1 else 0)
  else if w = 10009 then (if a = 0 then 0 else if b = 0 then 0 else 1) else (if a = 0 then (if b = 0 then 0 else 1) else 1)
abbrev Stk : Type := (Nat → Int32) × Nat
def lstep (x y z : Int32) (p : Stk) (w : Int32) : Stk :=
  if w < 10003 then (upd p.1 p.2 (if w < 10000 then w else lpick (w - 10000) x y z), p.2 + 1)
  else if w = 10003 then (upd p.1 (p.2 - 1) (if p.1 (p.2 - 1) = 0 then 1 else 0), p.2)
  else (upd p.1 (p.2 - 2) (ljoin w (p.1 (p.2 - 2)) (p.1 (p.2 - 1))), p.2 - 1)
def lrun (code : Nat → Int32) (x y z : Int32) (f : Nat → Int32) : Nat → Stk := rf (fun p i => lstep x y z p (code i)) (f, 0)
def dstep (t : Nat) (w : Int32) : Nat := if w < 10003 then t + 1 else if w = 10003 then t else t - 1
def ldep (code : Nat → Int32) : Nat → Nat := rf (fun t i => dstep t (code i)) 0
def okw (t : Nat) (w : Int32) : Prop := (w < 10003 → t < 32) ∧ (¬ w < 10003 → w = 10003 → 1 ≤ t) ∧ (¬ w < 10003 → ¬ w = 10003 → 2 ≤ t)
/-- a law that can be followed -/
def LW (code : Nat → Int32) (n : Nat) : Prop := n ≤ 1000 ∧ ldep code n = 1 ∧ ∀ i, i < n → okw (ldep code i) (code i) ∧ ldep code i ≤ 32
def lawv (code : Nat → Int32) (n : Nat) (x y z : Int32) : Int32 := (lrun code x y z (fun _ => 0) n).1 0
theorem lrun_s {code : Nat → Int32} {x y z : Int32} {f : Nat → Int32} {n : Nat} : lrun code x y z f (n + 1) = lstep x y z (lrun code x y z f n) (code n) := rfl
theorem ldep_s {code : Nat → Int32} {n : Nat} : ldep code (n + 1) = dstep (ldep code n) (code n) := rfl
theorem lstep_dep {x y z w : Int32} {p : Stk} : (lstep x y z p w).2 = dstep p.2 w := by
  unfold lstep dstep
  split
  · rfl
  · split <;> rfl
theorem lrun_dep (code : Nat → Int32) (x y z : Int32) (f : Nat → Int32) : ∀ n, (lrun code x y z f n).2 = ldep code n
  | 0 => rfl
  | n + 1 => by rw [lrun_s, ldep_s, lstep_dep, lrun_dep code x y z f n]
theorem lstep_cong {x y z w : Int32} {p1 q1 : Nat → Int32} {t : Nat} (ok : okw t w) (ih : ∀ j, j < t → p1 j = q1 j) : ∀ j, j < dstep t w → (lstep x y z (p1, t) w).1 j = (lstep x y z (q1, t) w).1 j := by
  intro j hj
  unfold lstep dstep at *
  unfold okw at ok
  by_cases h1 : w < 10003
  · simp only [h1, if_true, upd] at hj ⊢
    by_cases z1 : j = t
    · simp [z1]
    · simp [z1]; exact ih j (by omega)
  · by_cases h2 : w = 10003
    · have t1 := ok.2.1 h1 h2
      subst h2
      simp only [h1, if_true, if_false, upd, ih (t - 1) (by omega)] at hj ⊢
      by_cases z1 : j = t - 1
      · simp [z1]
      · simp [z1]; exact ih j (by omega)
    · have t1 := ok.2.2 h1 h2
      simp only [h1, h2, if_false, upd, ih (t - 1) (by omega), ih (t - 2) (by omega)] at hj ⊢
      by_cases z1 : j = t - 2
      · simp [z1]
      · simp [z1]; exact ih j (by omega)
theorem lrun_cong {code : Nat → Int32} {n : Nat} (x y z : Int32) (f g : Nat → Int32) (h : ∀ i, i < n → okw (ldep code i) (code i)) : ∀ i, i ≤ n → ∀ j, j < ldep code i → (lrun code x y z f i).1 j = (lrun code x y z g i).1 j
  | 0, _, j, hj => by simp [ldep, rf] at hj
  | i + 1, hi, j, hj => by
    have ih := lrun_cong x y z f g h i (by omega)
    have df := lrun_dep code x y z f i
    have dg := lrun_dep code x y z g i
    have ok := h i (by omega)
    rw [ldep_s] at hj
    rw [lrun_s, lrun_s]
    have ep : lrun code x y z f i = ((lrun code x y z f i).1, ldep code i) := by rw [← df]
    have eq : lrun code x y z g i = ((lrun code x y z g i).1, ldep code i) := by rw [← dg]
    rw [ep, eq]
    exact lstep_cong ok ih j hj
theorem lawv_any {code : Nat → Int32} {n : Nat} (h : LW code n) (x y z : Int32) (f : Nat → Int32) : (lrun code x y z f n).1 0 = lawv code n x y z :=
  lrun_cong x y z f (fun _ => 0) (fun i hi => (h.2.2 i hi).1) n (Nat.le_refl _) 0 (by rw [h.2.1]; omega)
theorem sp105 {d : Nat} {w x y z : Int32} {M : Mem} : evD (d + 1) 105 [vI w, vI x, vI y, vI z] M = some (some (vI (lpick w x y z)), M) := by
  rw [e105]; simp only [ic_ite, lpick]
theorem sp106 {d : Nat} {w a b : Int32} {M : Mem} : evD (d + 1) 106 [vI w, vI a, vI b] M = some (some (vI (ljoin w a b)), M) := by
  rw [e106]; simp only [ic_ite, ljoin]; rfl
theorem upd_upd {f : Nat → Int32} {j : Nat} {v : Int32} : upd f j v j = v := by simp [upd]
theorem sp104 {d kL n : Nat} {x y z : Int32} {M : Mem} (hn : M.1 kL 2 = Int32.ofNat n) (h : LW (M.1 (kL + 1)) n) :
    Hm (evD (d + 2) 104 [vR 1 0 kL, vI x, vI y, vI z] M) (fun r M' => r = some (vI (lawv (M.1 (kL + 1)) n x y z)) ∧ Fr (fun c _ => c = kL + 2) M M') := by
  obtain ⟨h1000, hd1, hw⟩ := h
  rw [e104]
  simp only [lp0_eq]
  refine lp_for (d := d + 1) (x := 104) (pc := 6) n 4 0 (by omega) (fun i lv M' => ∃ o, lv = [some (vR 1 0 kL), some (vI x), some (vI y), some (vI z), some (vI (Int32.ofNat (ldep (M.1 (kL + 1)) i))), some (vI (Int32.ofNat i)), o] ∧ M'.1 (kL + 2) = (lrun (M.1 (kL + 1)) x y z (M.1 (kL + 2)) i).1 ∧ Fr (fun c _ => c = kL + 2) M M') ?_ ?_ n 0 (by omega) 20000 _ M (by omega) ⟨none, rfl, rfl, Fr.rf⟩
  · rintro i hi G lv M' - ⟨o, rfl, hr, hf⟩ k
    have hc : M'.1 (kL + 1) = M.1 (kL + 1) := hf.row (fun j => by omega)
    have hs : M'.1 kL 2 = Int32.ofNat n := (hf.i (by omega)).trans hn
    obtain ⟨ok, h32⟩ := hw i hi
    have dp := lrun_dep (M.1 (kL + 1)) x y z (M.1 (kL + 2)) i
    have dps : ldep (M.1 (kL + 1)) (i + 1) = dstep (ldep (M.1 (kL + 1)) i) (M.1 (kL + 1) i) := rfl
    have rs : lrun (M.1 (kL + 1)) x y z (M.1 (kL + 2)) (i + 1) = lstep x y z (lrun (M.1 (kL + 1)) x y z (M.1 (kL + 2)) i) (M.1 (kL + 1) i) := rfl
    generalize hp : lrun (M.1 (kL + 1)) x y z (M.1 (kL + 2)) i = pp at *
    obtain ⟨p1, t⟩ := pp
    dsimp only at dp hr
    rw [← dp] at h32 ok dps ⊢
    unfold okw at ok
    unfold dstep at dps
    unfold lstep at rs
    simp (disch := omega) only [e104_6, hs, hc, i_nat, Nat.add_zero, Nat.not_lt_zero, i_neg, i_lt, i_le, i_eq, i_add, i_addl, i_addr, i_mulr, i_mull, i_subl, i_pred, i_ltl, i_ltr, i_eql, i_em1, cIn_s, cVd_s, cLo_s, ic_true, ic_false, ic_same, i10, eq_self, b2_0, b2_1, b2_and, b2_t, b2_f, ck', hi]
    by_cases h1 : M.1 (kL + 1) i < 10003
    · have t1 := ok.1 h1
      simp only [h1, if_true] at dps rs
      by_cases h2 : M.1 (kL + 1) i < 10000
      · simp (disch := omega) only [h1, h2, t1, sp105, i_nat, Nat.add_zero, Nat.not_lt_zero, i_neg, i_lt, i_le, i_eq, i_add, i_addl, i_addr, i_mulr, i_mull, i_subl, i_pred, i_ltl, i_ltr, i_eql, i_em1, cIn_s, cVd_s, cLo_s, ic_true, ic_false, ic_same, i10, eq_self, b2_0, b2_1, b2_and, b2_t, b2_f, ck', e104_74, e104_161]
        refine k _ _ _ (by omega) ⟨_, by rw [dps], ?_, hf.sI rfl⟩
        rw [upd_row, hr, rs]; simp [h2]
      · simp (disch := omega) only [h1, h2, t1, sp105, i_nat, Nat.add_zero, Nat.not_lt_zero, i_neg, i_lt, i_le, i_eq, i_add, i_addl, i_addr, i_mulr, i_mull, i_subl, i_pred, i_ltl, i_ltr, i_eql, i_em1, cIn_s, cVd_s, cLo_s, ic_true, ic_false, ic_same, i10, eq_self, b2_0, b2_1, b2_and, b2_t, b2_f, ck', e104_74, e104_161]
        refine k _ _ _ (by omega) ⟨_, by rw [dps], ?_, hf.sI rfl⟩
        rw [upd_row, hr, rs]; simp [h2]
    · by_cases h2 : M.1 (kL + 1) i = 10003
      · have t1 := ok.2.1 h1 h2
        simp only [h1, h2, if_true, if_false] at dps rs
        simp only [show ¬ ((10003 : Int32) < 10003) by decide, if_false] at dps rs
        simp (disch := omega) only [h1, h2, t1, i_nat, Nat.add_zero, Nat.not_lt_zero, i_neg, i_lt, i_le, i_eq, i_add, i_addl, i_addr, i_mulr, i_mull, i_subl, i_pred, i_ltl, i_ltr, i_eql, i_em1, cIn_s, cVd_s, cLo_s, ic_true, ic_false, ic_same, i10, eq_self, b2_0, b2_1, b2_and, b2_t, b2_f, ck', e104_119, e104_161, show (0 < t) = True by simp; omega, show ((10003 : Int32) < 10003) = False by simp, hr]
        by_cases h3 : p1 (t - 1) = 0
        · simp (disch := omega) only [h3, i_nat, Nat.add_zero, Nat.not_lt_zero, i_neg, i_lt, i_le, i_eq, i_add, i_addl, i_addr, i_mulr, i_mull, i_subl, i_pred, i_ltl, i_ltr, i_eql, i_em1, cIn_s, cVd_s, cLo_s, ic_true, ic_false, ic_same, i10, eq_self, b2_0, b2_1, b2_and, b2_t, b2_f, ck', e104_119, e104_161]
          refine k _ _ _ (by omega) ⟨_, by rw [dps], ?_, hf.sI rfl⟩
          rw [upd_row, hr, rs]; simp [h3]
        · simp (disch := omega) only [h3, i_nat, Nat.add_zero, Nat.not_lt_zero, i_neg, i_lt, i_le, i_eq, i_add, i_addl, i_addr, i_mulr, i_mull, i_subl, i_pred, i_ltl, i_ltr, i_eql, i_em1, cIn_s, cVd_s, cLo_s, ic_true, ic_false, ic_same, i10, eq_self, b2_0, b2_1, b2_and, b2_t, b2_f, ck', e104_119, e104_161]
          refine k _ _ _ (by omega) ⟨_, by rw [dps], ?_, hf.sI rfl⟩
          rw [upd_row, hr, rs]; simp [h3]
      · have t1 := ok.2.2 h1 h2
        simp only [h1, h2, if_false] at dps rs
        simp (disch := omega) only [h1, h2, t1, i_nat, Nat.add_zero, Nat.not_lt_zero, i_neg, i_lt, i_le, i_eq, i_add, i_addl, i_addr, i_mulr, i_mull, i_subl, i_pred, i_ltl, i_ltr, i_eql, i_em1, cIn_s, cVd_s, cLo_s, ic_true, ic_false, ic_same, i10, eq_self, b2_0, b2_1, b2_and, b2_t, b2_f, ck', e104_161, show (1 < t) = True by simp; omega, hr, sp106]
        refine k _ _ _ (by omega) ⟨_, by rw [dps], ?_, hf.sI rfl⟩
        rw [upd_row, hr, rs]; rfl
  · rintro G lv M' - ⟨o, rfl, hr, hf⟩
    have hs : M'.1 kL 2 = Int32.ofNat n := (hf.i (by omega)).trans hn
    simp (disch := omega) only [e104_6, hs, i_nat, Nat.add_zero, Nat.not_lt_zero, i_neg, i_lt, i_le, i_eq, i_add, i_addl, i_addr, i_mulr, i_mull, i_subl, i_pred, i_ltl, i_ltr, i_eql, i_em1, cIn_s, cVd_s, cLo_s, ic_true, ic_false, ic_same, i10, eq_self, b2_0, b2_1, b2_and, b2_t, b2_f, ck', Nat.lt_irrefl]
    refine Hm_some ⟨?_, hf⟩
    rw [hr, lawv_any ⟨h1000, hd1, hw⟩]
end LAW
