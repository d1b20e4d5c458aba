/-! CALLS THAT CHANGE NOTHING: class and reference answer alike -/
section RO1
/-- what no call remembers -/
def ScW (c j : Nat) : Prop := c = 22 ∨ c = 25 ∨ c = 267 ∨ c = 268 ∨ (69 ≤ c ∧ c ≤ 112) ∨ (c = 269 ∧ 1029 ≤ j) ∨ (271 ≤ c ∧ c ≤ 277) ∨ (c = 253 ∧ (j = 0 ∨ j = 31 ∨ j = 32 ∨ j = 36 ∨ j = 37 ∨ j = 39))
def IY (Y : YT) (M : Mem) : Prop := YC Y M ∧ YN Y ∧ YL Y ∧ YG Y ∧ YR Y M
def IN (Y : YT) (t : Nat) (N : YT) (M : Mem) : Prop := SC N 60 M ∧ SR Y N 0 M ∧ SI Y t N ∧ t < 10000
theorem IY.c {Y : YT} {M : Mem} (h : IY Y M) : YC Y M := h.1
theorem IY.n {Y : YT} {M : Mem} (h : IY Y M) : YN Y := h.2.1
theorem IY.l {Y : YT} {M : Mem} (h : IY Y M) : YL Y := h.2.2.1
theorem IY.g {Y : YT} {M : Mem} (h : IY Y M) : YG Y := h.2.2.2.1
theorem IY.r {Y : YT} {M : Mem} (h : IY Y M) : YR Y M := h.2.2.2.2
theorem IN.c {Y N : YT} {t : Nat} {M : Mem} (h : IN Y t N M) : SC N 60 M := h.1
theorem IN.r {Y N : YT} {t : Nat} {M : Mem} (h : IN Y t N M) : SR Y N 0 M := h.2.1
theorem IN.i {Y N : YT} {t : Nat} {M : Mem} (h : IN Y t N M) : SI Y t N := h.2.2.1
theorem IN.t {Y N : YT} {t : Nat} {M : Mem} (h : IN Y t N M) : t < 10000 := h.2.2.2
theorem IY.fr {Y : YT} {M M' : Mem} {W : Nat → Nat → Prop} (h : IY Y M) (hf : Fr W M M') (hw : ∀ c j, (yc c ∨ (259 ≤ c ∧ c ≤ 261)) → ¬ W c j) : IY Y M' := ⟨h.c.fr hf (fun c j hc => hw c j (.inl hc)), h.n, h.l, h.g, h.r.fr hf (fun c j h1 h2 => hw c j (.inr ⟨h1, h2⟩))⟩
theorem IN.fr {Y N : YT} {t : Nat} {M M' : Mem} {W : Nat → Nat → Prop} (h : IN Y t N M) (hA : nA Y ≤ 6) (hf : Fr W M M') (hw : ∀ c j, ((60 ≤ c ∧ c ≤ 66) ∨ (c = 269 ∧ j < 49)) → ¬ W c j) : IN Y t N M' := ⟨h.c.fr hf (fun c j h1 h2 => hw c j (.inl ⟨h1, h2⟩)), h.r.fr hA hf (fun j h1 h2 => hw 269 j (.inr ⟨rfl, by omega⟩)), h.i, h.t⟩
theorem IY.sc {Y : YT} {M M' : Mem} (h : IY Y M) (hf : Fr ScW M M') : IY Y M' := h.fr hf (fun c j hc => by unfold ScW yc at *; omega)
theorem IN.sc {Y N : YT} {t : Nat} {M M' : Mem} (h : IN Y t N M) (hA : nA Y ≤ 6) (hf : Fr ScW M M') : IN Y t N M' := h.fr hA hf (fun c j hc => by unfold ScW; omega)
abbrev SC60 (S : YT) (M : Mem) : Prop := (M.1 60 0 = S 0 0 ∧ M.1 60 7 = S 0 7 ∧ M.1 60 8 = S 0 8 ∧ M.1 60 9 = S 0 9) ∧ ∀ i, i < 6 → M.1 61 i = S 1 i ∧ M.1 62 i = S 2 i ∧ M.1 63 i = S 3 i ∧ M.1 64 i = S 4 i ∧ M.1 65 i = S 5 i ∧ M.1 66 i = S 6 i
theorem SC.n {S : YT} {M : Mem} (h : SC S 60 M) : SC60 S M := h
abbrev SC106 (S : YT) (M : Mem) : Prop := (M.1 106 0 = S 0 0 ∧ M.1 106 7 = S 0 7 ∧ M.1 106 8 = S 0 8 ∧ M.1 106 9 = S 0 9) ∧ ∀ i, i < 6 → M.1 107 i = S 1 i ∧ M.1 108 i = S 2 i ∧ M.1 109 i = S 3 i ∧ M.1 110 i = S 4 i ∧ M.1 111 i = S 5 i ∧ M.1 112 i = S 6 i
theorem SC.tr {S : YT} {M : Mem} (h : SC S 106 M) : SC106 S M := h
abbrev SR0 (Y S : YT) (M : Mem) : Prop := M.1 269 0 = S 0 0 ∧ (∀ a, a < nA Y → M.1 269 (1 + a) = how S a ∧ M.1 269 (7 + a) = S 1 a ∧ M.1 269 (13 + a) = S 2 a ∧ M.1 269 (25 + a) = S 3 a ∧ M.1 269 (43 + a) = S 6 a) ∧ (∀ c, c < 6 → M.1 269 (31 + c) = S 5 c ∧ M.1 269 (37 + c) = b2 (bt (S 0 9) c)) ∧ ∀ a, a < nA Y → up S a = true → M.1 269 (19 + a) = S 4 a
theorem SR.n {Y S : YT} {M : Mem} (h : SR Y S 0 M) : SR0 Y S M := by
  obtain ⟨h1, h2, h3, h4⟩ := h
  simp only [Nat.zero_add] at h2 h3 h4
  exact ⟨h1, h2, h3, h4⟩
def wi (p lo hi : Int32) : Bool := decide (¬ p < lo ∧ ¬ hi < p)
theorem sp222 {d : Nat} {p lo hi : Int32} {M : Mem} : evD (d + 1) 222 [vI p, vI lo, vI hi] M = some (some (vI (b2 (wi p lo hi))), M) := by
  rw [e222]
  unfold wi
  by_cases h1 : p < lo
  · rw [ic_t h1]; simp [h1, b2]
  · rw [ic_f h1, ic_b2n]
    by_cases h2 : hi < p <;> simp [h1, h2, b2]
theorem wi_ex {p : Int32} {m : Nat} (hm : m < 1000000) (h : wi p 0 (Int32.ofNat m) = true) : ∃ n, n ≤ m ∧ p = Int32.ofNat n := by
  simp only [wi, decide_eq_true_eq] at h
  rw [t_lt, t_lt, i_toInt (by omega), t_0] at h
  refine ⟨p.toInt.toNat, by omega, ?_⟩
  rw [← Int32.toInt_inj, i_toInt (by omega)]; omega
theorem wi_ex1 {p : Int32} {l m : Nat} (hm : m < 1000000) (hl : l ≤ m) (h : wi p (Int32.ofNat l) (Int32.ofNat m) = true) : ∃ n, l ≤ n ∧ n ≤ m ∧ p = Int32.ofNat n := by
  simp only [wi, decide_eq_true_eq] at h
  rw [t_lt, t_lt, i_toInt (by omega), i_toInt (by omega)] at h
  refine ⟨p.toInt.toNat, by omega, by omega, ?_⟩
  rw [← Int32.toInt_inj, i_toInt (by omega)]; omega
/-- two calls that answer alike and leave all that counts -/
def RO (x y : Nat) (ax ay : List AV) (Y : YT) (t : Nat) (N : YT) : Prop := ∃ v, (∀ d M, IY Y M → IN Y t N M → Hm (evD (d + 40) x ax M) (fun r M' => r = some (vI v) ∧ Fr ScW M M')) ∧ ∀ d M, IY Y M → IN Y t N M → Hm (evD (d + 40) y ay M) (fun r M' => r = some (vI v) ∧ Fr ScW M M')
section
variable {Y N : YT} {t a : Nat} {M : Mem} {p q : Int32}
theorem th0 : Fr ScW M (sI M 253 0 0) := Fr.rf.sI (by unfold ScW; omega)
theorem IY.th (h : IY Y M) : IY Y (sI M 253 0 0) := h.sc th0
theorem IN.th (h : IN Y t N M) (hA : nA Y ≤ 6) : IN Y t N (sI M 253 0 0) := h.sc hA th0
theorem sp238n {d : Nat} {B : Int32} (hR : YR Y M) (hN : YN Y) (h : isIn p (nA Y) = false) : evD (d + 3) 238 [vR 12 0 253, vI B, vI p] M = some (some (vI 0), M) := by
  simp only [e238, sp237 hR hN, cIn_s, h, b2_f, eq_self, ic_true]
theorem Hm_p {R : Res} {v : Int32} {M M' : Mem} (e : R = some (some (vI v), M')) (hf : Fr ScW M M') : Hm R (fun r M' => r = some (vI v) ∧ Fr ScW M M') := Hm_eq e ⟨rfl, hf⟩
theorem W22 {M' : Mem} (h : Fr (fun c _ => c = 22) M M') : Fr ScW M M' := h.up (fun c j k => by unfold ScW; omega)
theorem W25 {M' : Mem} (h : Fr (fun c _ => c = 25) M M') : Fr ScW M M' := h.up (fun c j k => by unfold ScW; omega)
theorem W67 {M' : Mem} (h : Fr (fun c _ => c = 267 ∨ c = 268) M M') : Fr ScW M M' := h.up (fun c j k => by unfold ScW; omega)
theorem ro_force : RO 109 249 [vR 11 0 0] [vR 12 0 253] Y t N := by
  refine ⟨force Y N, fun d M hY hN => ?_, fun d M hY hN => ?_⟩
  · exact Hm_p (by simp only [e109, sp110 hY.c hY.n hN.c, cIn_s]) Fr.rf
  · have hN' := hN.th hY.n.A6
    exact Hm_p (by simp only [e249, sp250 (B := 0) (b := 0) rfl hY.th.r hY.n hN'.r hN'.i (by omega), cIn_s]) th0
theorem ro_act (hn : YN Y) (hi : SI Y t N) : RO 93 236 [vR 11 0 0, vI p, vI q] [vR 12 0 253, vI p, vI q] Y t N := by
  have h6 := hn.A6
  by_cases hp : isIn p (nA Y) = true
  · obtain ⟨a, ha, rfl⟩ := isIn_ex (show nA Y < 2147483648 by omega) hp
    by_cases q0 : q = Int32.ofInt (0)
    · have hw : wi q 0 8 = true := by rw [q0]; decide
      exact ⟨Y 13 a, fun d M hY hN => Hm_p (by simp (disch := omega) only [e93, sp94 hY.c hY.n, isIn_of (show nA Y < 2147483648 by omega) ha, i_nat, Nat.add_zero, Nat.not_lt_zero, i_neg, i_lt, i_le, i_eq, i_add, i_addl, i_addr, i_mulr, i_mull, i_subl, i_pred, i_ltl, i_ltr, i_eql, i_em1, cIn_s, cVd_s, cLo_s, ic_true, ic_false, ic_same, i10, eq_self, b2_0, b2_1, b2_and, b2_t, b2_f, ck', eq_true q0, hY.c, hN.c.n]) Fr.rf, fun d M hY hN => Hm_p (by simp (disch := omega) only [e236, sp237 hY.th.r hY.th.n, isIn_of (show nA Y < 2147483648 by omega) ha, i_nat, Nat.add_zero, Nat.not_lt_zero, i_neg, i_lt, i_le, i_eq, i_add, i_addl, i_addr, i_mulr, i_mull, i_subl, i_pred, i_ltl, i_ltr, i_eql, i_em1, cIn_s, cVd_s, cLo_s, ic_true, ic_false, ic_same, i10, eq_self, b2_0, b2_1, b2_and, b2_t, b2_f, ck', eq_true q0, sp222, hw, sp238 (B := 0) (b := 0) rfl hY.th.r hY.th.n (hN.th h6).r (hN.th h6).i (show 0 ≤ 1078 by omega) ha, (hN.th h6).r.n, hY.th.r.1.2.2.2.1 a ha, sp198 (p := 0) 0 rfl]) th0⟩
    by_cases q1 : q = Int32.ofInt (1)
    · have hw : wi q 0 8 = true := by rw [q1]; decide
      exact ⟨N 1 a, fun d M hY hN => Hm_p (by simp (disch := omega) only [e93, sp94 hY.c hY.n, isIn_of (show nA Y < 2147483648 by omega) ha, i_nat, Nat.add_zero, Nat.not_lt_zero, i_neg, i_lt, i_le, i_eq, i_add, i_addl, i_addr, i_mulr, i_mull, i_subl, i_pred, i_ltl, i_ltr, i_eql, i_em1, cIn_s, cVd_s, cLo_s, ic_true, ic_false, ic_same, i10, eq_self, b2_0, b2_1, b2_and, b2_t, b2_f, ck', eq_false q0, eq_true q1, hY.c, hN.c.n]) Fr.rf, fun d M hY hN => Hm_p (by simp (disch := omega) only [e236, sp237 hY.th.r hY.th.n, isIn_of (show nA Y < 2147483648 by omega) ha, i_nat, Nat.add_zero, Nat.not_lt_zero, i_neg, i_lt, i_le, i_eq, i_add, i_addl, i_addr, i_mulr, i_mull, i_subl, i_pred, i_ltl, i_ltr, i_eql, i_em1, cIn_s, cVd_s, cLo_s, ic_true, ic_false, ic_same, i10, eq_self, b2_0, b2_1, b2_and, b2_t, b2_f, ck', eq_false q0, eq_true q1, sp222, hw, sp238 (B := 0) (b := 0) rfl hY.th.r hY.th.n (hN.th h6).r (hN.th h6).i (show 0 ≤ 1078 by omega) ha, (hN.th h6).r.n, hY.th.r.1.2.2.2.1 a ha]) th0⟩
    by_cases q2 : q = Int32.ofInt (2)
    · have hw : wi q 0 8 = true := by rw [q2]; decide
      exact ⟨N 2 a, fun d M hY hN => Hm_p (by simp (disch := omega) only [e93, sp94 hY.c hY.n, isIn_of (show nA Y < 2147483648 by omega) ha, i_nat, Nat.add_zero, Nat.not_lt_zero, i_neg, i_lt, i_le, i_eq, i_add, i_addl, i_addr, i_mulr, i_mull, i_subl, i_pred, i_ltl, i_ltr, i_eql, i_em1, cIn_s, cVd_s, cLo_s, ic_true, ic_false, ic_same, i10, eq_self, b2_0, b2_1, b2_and, b2_t, b2_f, ck', eq_false q0, eq_false q1, eq_true q2, hY.c, hN.c.n]) Fr.rf, fun d M hY hN => Hm_p (by simp (disch := omega) only [e236, sp237 hY.th.r hY.th.n, isIn_of (show nA Y < 2147483648 by omega) ha, i_nat, Nat.add_zero, Nat.not_lt_zero, i_neg, i_lt, i_le, i_eq, i_add, i_addl, i_addr, i_mulr, i_mull, i_subl, i_pred, i_ltl, i_ltr, i_eql, i_em1, cIn_s, cVd_s, cLo_s, ic_true, ic_false, ic_same, i10, eq_self, b2_0, b2_1, b2_and, b2_t, b2_f, ck', eq_false q0, eq_false q1, eq_true q2, sp222, hw, sp238 (B := 0) (b := 0) rfl hY.th.r hY.th.n (hN.th h6).r (hN.th h6).i (show 0 ≤ 1078 by omega) ha, (hN.th h6).r.n, hY.th.r.1.2.2.2.1 a ha]) th0⟩
    by_cases q3 : q = Int32.ofInt (3)
    · have hw : wi q 0 8 = true := by rw [q3]; decide
      exact ⟨needs Y a, fun d M hY hN => Hm_p (by simp (disch := omega) only [e93, sp94 hY.c hY.n, isIn_of (show nA Y < 2147483648 by omega) ha, i_nat, Nat.add_zero, Nat.not_lt_zero, i_neg, i_lt, i_le, i_eq, i_add, i_addl, i_addr, i_mulr, i_mull, i_subl, i_pred, i_ltl, i_ltr, i_eql, i_em1, cIn_s, cVd_s, cLo_s, ic_true, ic_false, ic_same, i10, eq_self, b2_0, b2_1, b2_and, b2_t, b2_f, ck', eq_false q0, eq_false q1, eq_false q2, eq_true q3, hY.c, hN.c.n, sp95 hY.c (show a < 6 by omega)]) Fr.rf, fun d M hY hN => Hm_p (by simp (disch := omega) only [e236, sp237 hY.th.r hY.th.n, isIn_of (show nA Y < 2147483648 by omega) ha, i_nat, Nat.add_zero, Nat.not_lt_zero, i_neg, i_lt, i_le, i_eq, i_add, i_addl, i_addr, i_mulr, i_mull, i_subl, i_pred, i_ltl, i_ltr, i_eql, i_em1, cIn_s, cVd_s, cLo_s, ic_true, ic_false, ic_same, i10, eq_self, b2_0, b2_1, b2_and, b2_t, b2_f, ck', eq_false q0, eq_false q1, eq_false q2, eq_true q3, sp222, hw, sp238 (B := 0) (b := 0) rfl hY.th.r hY.th.n (hN.th h6).r (hN.th h6).i (show 0 ≤ 1078 by omega) ha, (hN.th h6).r.n, hY.th.r.1.2.2.2.1 a ha, sp239 hY.th.r hY.th.n ha]) th0⟩
    by_cases q4 : q = Int32.ofInt (4)
    · have hw : wi q 0 8 = true := by rw [q4]; decide
      cases hu : up N a
      · have e4 := (hi.a ha).2.2.1 hu
        exact ⟨-1, fun d M hY hN => Hm_p (by simp (disch := omega) only [e93, sp94 hY.c hY.n, isIn_of (show nA Y < 2147483648 by omega) ha, i_nat, Nat.add_zero, Nat.not_lt_zero, i_neg, i_lt, i_le, i_eq, i_add, i_addl, i_addr, i_mulr, i_mull, i_subl, i_pred, i_ltl, i_ltr, i_eql, i_em1, cIn_s, cVd_s, cLo_s, ic_true, ic_false, ic_same, i10, eq_self, b2_0, b2_1, b2_and, b2_t, b2_f, ck', eq_false q0, eq_false q1, eq_false q2, eq_false q3, eq_true q4, hY.c, hN.c.n, e4]) Fr.rf, fun d M hY hN => Hm_p (by simp (disch := omega) only [e236, sp237 hY.th.r hY.th.n, isIn_of (show nA Y < 2147483648 by omega) ha, i_nat, Nat.add_zero, Nat.not_lt_zero, i_neg, i_lt, i_le, i_eq, i_add, i_addl, i_addr, i_mulr, i_mull, i_subl, i_pred, i_ltl, i_ltr, i_eql, i_em1, cIn_s, cVd_s, cLo_s, ic_true, ic_false, ic_same, i10, eq_self, b2_0, b2_1, b2_and, b2_t, b2_f, ck', eq_false q0, eq_false q1, eq_false q2, eq_false q3, eq_true q4, sp222, hw, sp238 (B := 0) (b := 0) rfl hY.th.r hY.th.n (hN.th h6).r (hN.th h6).i (show 0 ≤ 1078 by omega) ha, (hN.th h6).r.n, hY.th.r.1.2.2.2.1 a ha, hu]) th0⟩
      · exact ⟨N 4 a, fun d M hY hN => Hm_p (by simp (disch := omega) only [e93, sp94 hY.c hY.n, isIn_of (show nA Y < 2147483648 by omega) ha, i_nat, Nat.add_zero, Nat.not_lt_zero, i_neg, i_lt, i_le, i_eq, i_add, i_addl, i_addr, i_mulr, i_mull, i_subl, i_pred, i_ltl, i_ltr, i_eql, i_em1, cIn_s, cVd_s, cLo_s, ic_true, ic_false, ic_same, i10, eq_self, b2_0, b2_1, b2_and, b2_t, b2_f, ck', eq_false q0, eq_false q1, eq_false q2, eq_false q3, eq_true q4, hY.c, hN.c.n]) Fr.rf, fun d M hY hN => Hm_p (by simp (disch := omega) only [e236, sp237 hY.th.r hY.th.n, isIn_of (show nA Y < 2147483648 by omega) ha, i_nat, Nat.add_zero, Nat.not_lt_zero, i_neg, i_lt, i_le, i_eq, i_add, i_addl, i_addr, i_mulr, i_mull, i_subl, i_pred, i_ltl, i_ltr, i_eql, i_em1, cIn_s, cVd_s, cLo_s, ic_true, ic_false, ic_same, i10, eq_self, b2_0, b2_1, b2_and, b2_t, b2_f, ck', eq_false q0, eq_false q1, eq_false q2, eq_false q3, eq_true q4, sp222, hw, sp238 (B := 0) (b := 0) rfl hY.th.r hY.th.n (hN.th h6).r (hN.th h6).i (show 0 ≤ 1078 by omega) ha, (hN.th h6).r.n, hY.th.r.1.2.2.2.1 a ha, hu, (hN.th h6).r.n.2.2.2 a ha hu, Bool.true_eq_false]) th0⟩
    by_cases q5 : q = Int32.ofInt (5)
    · have hw : wi q 0 8 = true := by rw [q5]; decide
      exact ⟨N 3 a, fun d M hY hN => Hm_p (by simp (disch := omega) only [e93, sp94 hY.c hY.n, isIn_of (show nA Y < 2147483648 by omega) ha, i_nat, Nat.add_zero, Nat.not_lt_zero, i_neg, i_lt, i_le, i_eq, i_add, i_addl, i_addr, i_mulr, i_mull, i_subl, i_pred, i_ltl, i_ltr, i_eql, i_em1, cIn_s, cVd_s, cLo_s, ic_true, ic_false, ic_same, i10, eq_self, b2_0, b2_1, b2_and, b2_t, b2_f, ck', eq_false q0, eq_false q1, eq_false q2, eq_false q3, eq_false q4, eq_true q5, hY.c, hN.c.n]) Fr.rf, fun d M hY hN => Hm_p (by simp (disch := omega) only [e236, sp237 hY.th.r hY.th.n, isIn_of (show nA Y < 2147483648 by omega) ha, i_nat, Nat.add_zero, Nat.not_lt_zero, i_neg, i_lt, i_le, i_eq, i_add, i_addl, i_addr, i_mulr, i_mull, i_subl, i_pred, i_ltl, i_ltr, i_eql, i_em1, cIn_s, cVd_s, cLo_s, ic_true, ic_false, ic_same, i10, eq_self, b2_0, b2_1, b2_and, b2_t, b2_f, ck', eq_false q0, eq_false q1, eq_false q2, eq_false q3, eq_false q4, eq_true q5, sp222, hw, sp238 (B := 0) (b := 0) rfl hY.th.r hY.th.n (hN.th h6).r (hN.th h6).i (show 0 ≤ 1078 by omega) ha, (hN.th h6).r.n, hY.th.r.1.2.2.2.1 a ha]) th0⟩
    by_cases q6 : q = Int32.ofInt (6)
    · have hw : wi q 0 8 = true := by rw [q6]; decide
      cases hf : inF Y N a
      · exact ⟨0, fun d M hY hN => Hm_p (by simp (disch := omega) only [e93, sp94 hY.c hY.n, isIn_of (show nA Y < 2147483648 by omega) ha, i_nat, Nat.add_zero, Nat.not_lt_zero, i_neg, i_lt, i_le, i_eq, i_add, i_addl, i_addr, i_mulr, i_mull, i_subl, i_pred, i_ltl, i_ltr, i_eql, i_em1, cIn_s, cVd_s, cLo_s, ic_true, ic_false, ic_same, i10, eq_self, b2_0, b2_1, b2_and, b2_t, b2_f, ck', eq_false q0, eq_false q1, eq_false q2, eq_false q3, eq_false q4, eq_false q5, eq_true q6, hY.c, hN.c.n, sp96 hY.c hN.c (show a < 6 by omega), hf, Bool.false_eq_true]) Fr.rf, fun d M hY hN => Hm_p (by simp (disch := omega) only [e236, sp237 hY.th.r hY.th.n, isIn_of (show nA Y < 2147483648 by omega) ha, i_nat, Nat.add_zero, Nat.not_lt_zero, i_neg, i_lt, i_le, i_eq, i_add, i_addl, i_addr, i_mulr, i_mull, i_subl, i_pred, i_ltl, i_ltr, i_eql, i_em1, cIn_s, cVd_s, cLo_s, ic_true, ic_false, ic_same, i10, eq_self, b2_0, b2_1, b2_and, b2_t, b2_f, ck', eq_false q0, eq_false q1, eq_false q2, eq_false q3, eq_false q4, eq_false q5, eq_true q6, sp222, hw, sp238 (B := 0) (b := 0) rfl hY.th.r hY.th.n (hN.th h6).r (hN.th h6).i (show 0 ≤ 1078 by omega) ha, (hN.th h6).r.n, hY.th.r.1.2.2.2.1 a ha, sp240 (B := 0) (b := 0) rfl hY.th.r hY.th.n (hN.th h6).r (hN.th h6).i (show 0 ≤ 1078 by omega) ha, hf, Bool.false_eq_true]) th0⟩
      · exact ⟨1, fun d M hY hN => Hm_p (by simp (disch := omega) only [e93, sp94 hY.c hY.n, isIn_of (show nA Y < 2147483648 by omega) ha, i_nat, Nat.add_zero, Nat.not_lt_zero, i_neg, i_lt, i_le, i_eq, i_add, i_addl, i_addr, i_mulr, i_mull, i_subl, i_pred, i_ltl, i_ltr, i_eql, i_em1, cIn_s, cVd_s, cLo_s, ic_true, ic_false, ic_same, i10, eq_self, b2_0, b2_1, b2_and, b2_t, b2_f, ck', eq_false q0, eq_false q1, eq_false q2, eq_false q3, eq_false q4, eq_false q5, eq_true q6, hY.c, hN.c.n, sp96 hY.c hN.c (show a < 6 by omega), hf, Bool.true_eq_false]) Fr.rf, fun d M hY hN => Hm_p (by simp (disch := omega) only [e236, sp237 hY.th.r hY.th.n, isIn_of (show nA Y < 2147483648 by omega) ha, i_nat, Nat.add_zero, Nat.not_lt_zero, i_neg, i_lt, i_le, i_eq, i_add, i_addl, i_addr, i_mulr, i_mull, i_subl, i_pred, i_ltl, i_ltr, i_eql, i_em1, cIn_s, cVd_s, cLo_s, ic_true, ic_false, ic_same, i10, eq_self, b2_0, b2_1, b2_and, b2_t, b2_f, ck', eq_false q0, eq_false q1, eq_false q2, eq_false q3, eq_false q4, eq_false q5, eq_true q6, sp222, hw, sp238 (B := 0) (b := 0) rfl hY.th.r hY.th.n (hN.th h6).r (hN.th h6).i (show 0 ≤ 1078 by omega) ha, (hN.th h6).r.n, hY.th.r.1.2.2.2.1 a ha, sp240 (B := 0) (b := 0) rfl hY.th.r hY.th.n (hN.th h6).r (hN.th h6).i (show 0 ≤ 1078 by omega) ha, hf, Bool.true_eq_false]) th0⟩
    by_cases q7 : q = Int32.ofInt (7)
    · have hw : wi q 0 8 = true := by rw [q7]; decide
      cases hf : bt (N 0 8) a
      · have hh : (how N a = 2) = False := eq_false (fun z => by rw [how_2] at z; rw [hf] at z; cases z)
        exact ⟨0, fun d M hY hN => Hm_p (by simp (disch := omega) only [e93, sp94 hY.c hY.n, isIn_of (show nA Y < 2147483648 by omega) ha, i_nat, Nat.add_zero, Nat.not_lt_zero, i_neg, i_lt, i_le, i_eq, i_add, i_addl, i_addr, i_mulr, i_mull, i_subl, i_pred, i_ltl, i_ltr, i_eql, i_em1, cIn_s, cVd_s, cLo_s, ic_true, ic_false, ic_same, i10, eq_self, b2_0, b2_1, b2_and, b2_t, b2_f, ck', eq_false q0, eq_false q1, eq_false q2, eq_false q3, eq_false q4, eq_false q5, eq_false q6, eq_true q7, hY.c, hN.c.n, sp64, hf, Bool.false_eq_true]) Fr.rf, fun d M hY hN => Hm_p (by simp (disch := omega) only [e236, sp237 hY.th.r hY.th.n, isIn_of (show nA Y < 2147483648 by omega) ha, i_nat, Nat.add_zero, Nat.not_lt_zero, i_neg, i_lt, i_le, i_eq, i_add, i_addl, i_addr, i_mulr, i_mull, i_subl, i_pred, i_ltl, i_ltr, i_eql, i_em1, cIn_s, cVd_s, cLo_s, ic_true, ic_false, ic_same, i10, eq_self, b2_0, b2_1, b2_and, b2_t, b2_f, ck', eq_false q0, eq_false q1, eq_false q2, eq_false q3, eq_false q4, eq_false q5, eq_false q6, eq_true q7, sp222, hw, sp238 (B := 0) (b := 0) rfl hY.th.r hY.th.n (hN.th h6).r (hN.th h6).i (show 0 ≤ 1078 by omega) ha, (hN.th h6).r.n, hY.th.r.1.2.2.2.1 a ha, hh]) th0⟩
      · have hh : (how N a = 2) = True := eq_true (how_2.mpr hf)
        exact ⟨1, fun d M hY hN => Hm_p (by simp (disch := omega) only [e93, sp94 hY.c hY.n, isIn_of (show nA Y < 2147483648 by omega) ha, i_nat, Nat.add_zero, Nat.not_lt_zero, i_neg, i_lt, i_le, i_eq, i_add, i_addl, i_addr, i_mulr, i_mull, i_subl, i_pred, i_ltl, i_ltr, i_eql, i_em1, cIn_s, cVd_s, cLo_s, ic_true, ic_false, ic_same, i10, eq_self, b2_0, b2_1, b2_and, b2_t, b2_f, ck', eq_false q0, eq_false q1, eq_false q2, eq_false q3, eq_false q4, eq_false q5, eq_false q6, eq_true q7, hY.c, hN.c.n, sp64, hf, Bool.true_eq_false]) Fr.rf, fun d M hY hN => Hm_p (by simp (disch := omega) only [e236, sp237 hY.th.r hY.th.n, isIn_of (show nA Y < 2147483648 by omega) ha, i_nat, Nat.add_zero, Nat.not_lt_zero, i_neg, i_lt, i_le, i_eq, i_add, i_addl, i_addr, i_mulr, i_mull, i_subl, i_pred, i_ltl, i_ltr, i_eql, i_em1, cIn_s, cVd_s, cLo_s, ic_true, ic_false, ic_same, i10, eq_self, b2_0, b2_1, b2_and, b2_t, b2_f, ck', eq_false q0, eq_false q1, eq_false q2, eq_false q3, eq_false q4, eq_false q5, eq_false q6, eq_true q7, sp222, hw, sp238 (B := 0) (b := 0) rfl hY.th.r hY.th.n (hN.th h6).r (hN.th h6).i (show 0 ≤ 1078 by omega) ha, (hN.th h6).r.n, hY.th.r.1.2.2.2.1 a ha, hh]) th0⟩
    by_cases q8 : q = Int32.ofInt (8)
    · have hw : wi q 0 8 = true := by rw [q8]; decide
      cases hu : up N a
      · exact ⟨0, fun d M hY hN => Hm_p (by simp (disch := omega) only [e93, sp94 hY.c hY.n, isIn_of (show nA Y < 2147483648 by omega) ha, i_nat, Nat.add_zero, Nat.not_lt_zero, i_neg, i_lt, i_le, i_eq, i_add, i_addl, i_addr, i_mulr, i_mull, i_subl, i_pred, i_ltl, i_ltr, i_eql, i_em1, cIn_s, cVd_s, cLo_s, ic_true, ic_false, ic_same, i10, eq_self, b2_0, b2_1, b2_and, b2_t, b2_f, ck', eq_false q0, eq_false q1, eq_false q2, eq_false q3, eq_false q4, eq_false q5, eq_false q6, eq_false q7, eq_true q8, hY.c, hN.c.n, sp97 hN.c, hu]) Fr.rf, fun d M hY hN => Hm_p (by simp (disch := omega) only [e236, sp237 hY.th.r hY.th.n, isIn_of (show nA Y < 2147483648 by omega) ha, i_nat, Nat.add_zero, Nat.not_lt_zero, i_neg, i_lt, i_le, i_eq, i_add, i_addl, i_addr, i_mulr, i_mull, i_subl, i_pred, i_ltl, i_ltr, i_eql, i_em1, cIn_s, cVd_s, cLo_s, ic_true, ic_false, ic_same, i10, eq_self, b2_0, b2_1, b2_and, b2_t, b2_f, ck', eq_false q0, eq_false q1, eq_false q2, eq_false q3, eq_false q4, eq_false q5, eq_false q6, eq_false q7, sp222, hw, sp238 (B := 0) (b := 0) rfl hY.th.r hY.th.n (hN.th h6).r (hN.th h6).i (show 0 ≤ 1078 by omega) ha, (hN.th h6).r.n, hY.th.r.1.2.2.2.1 a ha, hu]) th0⟩
      · refine ⟨melT Y N a 0, fun d M hY hN => ?_, fun d M hY hN => ?_⟩
        · simp (disch := omega) only [e93, sp94 hY.c hY.n, isIn_of (show nA Y < 2147483648 by omega) ha, i_nat, Nat.add_zero, Nat.not_lt_zero, i_neg, i_lt, i_le, i_eq, i_add, i_addl, i_addr, i_mulr, i_mull, i_subl, i_pred, i_ltl, i_ltr, i_eql, i_em1, cIn_s, cVd_s, cLo_s, ic_true, ic_false, ic_same, i10, eq_self, b2_0, b2_1, b2_and, b2_t, b2_f, ck', eq_false q0, eq_false q1, eq_false q2, eq_false q3, eq_false q4, eq_false q5, eq_false q6, eq_false q7, eq_true q8, hY.c, hN.c.n, sp97 hN.c, hu, Bool.true_eq_false]
          exact Hm_cIv (sp100 hY.c hY.n hY.l hN.c hN.i (by have := hN.t; omega) ha hu) (fun M1 hf => Hm_some ⟨rfl, W22 hf⟩)
        · simp (disch := omega) only [e236, sp237 hY.th.r hY.th.n, isIn_of (show nA Y < 2147483648 by omega) ha, i_nat, Nat.add_zero, Nat.not_lt_zero, i_neg, i_lt, i_le, i_eq, i_add, i_addl, i_addr, i_mulr, i_mull, i_subl, i_pred, i_ltl, i_ltr, i_eql, i_em1, cIn_s, cVd_s, cLo_s, ic_true, ic_false, ic_same, i10, eq_self, b2_0, b2_1, b2_and, b2_t, b2_f, ck', eq_false q0, eq_false q1, eq_false q2, eq_false q3, eq_false q4, eq_false q5, eq_false q6, eq_false q7, sp222, hw, sp238 (B := 0) (b := 0) rfl hY.th.r hY.th.n (hN.th h6).r (hN.th h6).i (show 0 ≤ 1078 by omega) ha, (hN.th h6).r.n, hY.th.r.1.2.2.2.1 a ha, hu, Bool.true_eq_false]
          exact Hm_cIv (sp241 (B := 0) (b := 0) (m := 0) rfl hY.th.r hY.th.n hY.l (hN.th h6).r (hN.th h6).i (by have := hN.t; omega) (by omega) ha hu) (fun M1 hf => Hm_some ⟨rfl, th0.tr (W67 hf)⟩)
    have hw : wi q 0 8 = false := by
      rw [← Bool.not_eq_true]
      intro z
      obtain ⟨n, h8, rfl⟩ := wi_ex (m := 8) (by omega) z
      have hc : n = 0 ∨ n = 1 ∨ n = 2 ∨ n = 3 ∨ n = 4 ∨ n = 5 ∨ n = 6 ∨ n = 7 ∨ n = 8 := by omega
      rcases hc with rfl | rfl | rfl | rfl | rfl | rfl | rfl | rfl | rfl
      · exact q0 rfl
      · exact q1 rfl
      · exact q2 rfl
      · exact q3 rfl
      · exact q4 rfl
      · exact q5 rfl
      · exact q6 rfl
      · exact q7 rfl
      · exact q8 rfl
    exact ⟨-1, fun d M hY hN => Hm_p (by simp (disch := omega) only [e93, sp94 hY.c hY.n, isIn_of (show nA Y < 2147483648 by omega) ha, i_nat, Nat.add_zero, Nat.not_lt_zero, i_neg, i_lt, i_le, i_eq, i_add, i_addl, i_addr, i_mulr, i_mull, i_subl, i_pred, i_ltl, i_ltr, i_eql, i_em1, cIn_s, cVd_s, cLo_s, ic_true, ic_false, ic_same, i10, eq_self, b2_0, b2_1, b2_and, b2_t, b2_f, ck', eq_false q0, eq_false q1, eq_false q2, eq_false q3, eq_false q4, eq_false q5, eq_false q6, eq_false q7, eq_false q8]) Fr.rf, fun d M hY hN => Hm_p (by simp (disch := omega) only [e236, sp237 hY.th.r hY.th.n, isIn_of (show nA Y < 2147483648 by omega) ha, i_nat, Nat.add_zero, Nat.not_lt_zero, i_neg, i_lt, i_le, i_eq, i_add, i_addl, i_addr, i_mulr, i_mull, i_subl, i_pred, i_ltl, i_ltr, i_eql, i_em1, cIn_s, cVd_s, cLo_s, ic_true, ic_false, ic_same, i10, eq_self, b2_0, b2_1, b2_and, b2_t, b2_f, ck', sp222, hw, lp0_eq, e236_23]) th0⟩
  · have hp' : isIn p (nA Y) = false := by simpa using hp
    exact ⟨-1, fun d M hY hN => Hm_p (by simp only [e93, sp94 hY.c hY.n, hp', cIn_s, cVd_s, cLo_s, ic_true, ic_false, ic_same, i10, eq_self, b2_0, b2_1, b2_and, b2_t, b2_f]) Fr.rf, fun d M hY hN => Hm_p (by simp only [e236, sp237 hY.th.r hY.th.n, hp', cIn_s, cVd_s, cLo_s, ic_true, ic_false, ic_same, i10, eq_self, b2_0, b2_1, b2_and, b2_t, b2_f, lp0_eq, e236_23]) th0⟩
end
end RO1
