/-! THE REFERENCE'S YARD AND STATES as pictures of the class's -/
section REF
def opO (w : Int32) : Int32 := if w < 10000 then 1 else if w < 10003 then 2 else if w = 10003 then 3 else if w = 10004 then 6 else if w = 10005 then 4 else if w = 10006 then 5 else if w = 10007 then 7 else if w = 10008 then 8 else if w = 10009 then 9 else 10
/-- the words of a law stand in the reference's rows from f on -/
def LRc (g : Nat → Nat) (code : Nat → Int32) (n f : Nat) (M : Mem) : Prop := f + n < 1100 ∧ M.1 260 (f + n) = 0 ∧ ∀ i, i < n → M.1 260 (f + i) = opO (code i) ∧ (code i < 10000 → M.1 261 (f + i) = code i) ∧ (¬ code i < 10000 → code i < 10003 → ∃ j, j < 3 ∧ code i = Int32.ofNat (10000 + j) ∧ M.1 261 (f + i) = Int32.ofNat (g j))
def gM (j : Nat) : Nat := j
def gK (j : Nat) : Nat := if j = 0 then 3 else if j = 1 then 2 else 4
def LR (z : Nat) (g : Nat → Nat) (dflt : Int32 → Int32 → Int32 → Int32) (code : Nat → Int32) (n : Nat) (M : Mem) : Prop :=
  (M.1 259 z = -1 ∧ ∀ x y w, lawv code n x y w = dflt x y w) ∨ ∃ f, M.1 259 z = Int32.ofNat f ∧ LRc g code n f M
abbrev YA (Y : YT) (M : Mem) : Prop := (M.1 259 0 = Y 4 0 ∧ M.1 259 1 = Y 6 0 ∧ M.1 259 2 = Y 8 0 ∧ M.1 259 3 = Y 3 12 ∧ M.1 259 5 = Y 3 15) ∧ (∀ s, s < nB Y → M.1 259 (8 + s) = Y 10 s) ∧ (∀ c, c < nC Y → M.1 259 (14 + 2 * c) = Y 11 c ∧ M.1 259 (14 + 2 * c + 1) = Y 12 c) ∧ (∀ a, a < nA Y → M.1 259 (26 + 5 * a) = Y 13 a ∧ M.1 259 (26 + 5 * a + 1) = Y 14 a ∧ M.1 259 (26 + 5 * a + 2) = Y 15 a ∧ M.1 259 (26 + 5 * a + 3) = Y 16 a ∧ M.1 259 (26 + 5 * a + 4) = Y 17 a) ∧ (∀ a e, a < nA Y → e < nA Y → M.1 259 (56 + 6 * a + e) = b2 (bt (Y 18 a) e))
def YWm (Y : YT) (M : Mem) : Prop := ∃ w, 1 ≤ w ∧ w ≤ 14 ∧ M.1 259 4 = Int32.ofNat w ∧ ∀ n, M.1 259 (92 + n % w) = warm Y n
def YR (Y : YT) (M : Mem) : Prop := YA Y M ∧ YWm Y M ∧ LR 6 gM (fun x y _ => x - y) (Y 21) (nM Y) M ∧ LR 7 gK (fun x _ _ => x) (Y 24) (nK Y) M
theorem YR.fr {Y : YT} {M M' : Mem} {W : Nat → Nat → Prop} (h : YR Y M) (hf : Fr W M M') (hw : ∀ c j, 259 ≤ c → c ≤ 261 → ¬ W c j) : YR Y M' := by
  have k0 : M'.1 259 = M.1 259 := hf.row (fun j => hw 259 j (by omega) (by omega))
  have k1 : M'.1 260 = M.1 260 := hf.row (fun j => hw 260 j (by omega) (by omega))
  have k2 : M'.1 261 = M.1 261 := hf.row (fun j => hw 261 j (by omega) (by omega))
  unfold YR YA YWm LR LRc at *
  rw [k0, k1, k2]; exact h
def how (S : YT) (a : Nat) : Int32 := if bt (S 0 8) a then 2 else if bt (S 0 7) a then 1 else 0
abbrev SR (Y S : YT) (b : Nat) (M : Mem) : Prop := M.1 269 b = S 0 0 ∧ (∀ a, a < nA Y → M.1 269 (b + 1 + a) = how S a ∧ M.1 269 (b + 7 + a) = S 1 a ∧ M.1 269 (b + 13 + a) = S 2 a ∧ M.1 269 (b + 25 + a) = S 3 a ∧ M.1 269 (b + 43 + a) = S 6 a) ∧ (∀ c, c < 6 → M.1 269 (b + 31 + c) = S 5 c ∧ M.1 269 (b + 37 + c) = b2 (bt (S 0 9) c)) ∧ ∀ a, a < nA Y → up S a = true → M.1 269 (b + 19 + a) = S 4 a
theorem SR.fr {Y S : YT} {b : Nat} {M M' : Mem} {W : Nat → Nat → Prop} (h : SR Y S b M) (hA : nA Y ≤ 6) (hf : Fr W M M') (hw : ∀ j, b ≤ j → j < b + 49 → ¬ W 269 j) : SR Y S b M' := by
  have k : ∀ j, b ≤ j → j < b + 49 → M'.1 269 j = M.1 269 j := fun j h1 h2 => hf.i (hw j h1 h2)
  obtain ⟨h1, h2, h3, h4⟩ := h
  refine ⟨by rw [k b (by omega) (by omega), h1], fun a ha => ?_, fun c hc => ?_, fun a ha hu => by rw [k (b + 19 + a) (by omega) (by omega), h4 a ha hu]⟩
  · rw [k (b + 1 + a) (by omega) (by omega), k (b + 7 + a) (by omega) (by omega), k (b + 13 + a) (by omega) (by omega), k (b + 25 + a) (by omega) (by omega), k (b + 43 + a) (by omega) (by omega)]; exact h2 a ha
  · rw [k (b + 31 + c) (by omega) (by omega), k (b + 37 + c) (by omega) (by omega)]; exact h3 c hc
section
variable {d : Nat} {Y S : YT} {M : Mem} {B p q v m x y z : Int32} {a s n c b : Nat} {tall props deg done : Int32}
theorem how_1 (hI : SI Y n S) (ha : a < 32) : (how S a = 1) ↔ up S a = true := by
  have := (hI.bits ha).1
  unfold how up
  cases h8 : bt (S 0 8) a <;> cases h7 : bt (S 0 7) a <;> simp_all
theorem how_0 (hI : SI Y n S) (ha : a < 32) : (how S a = 0) ↔ bt (S 0 7) a = false := by
  have := (hI.bits ha).1
  unfold how
  cases h8 : bt (S 0 8) a <;> cases h7 : bt (S 0 7) a <;> simp_all
theorem how_2 : (how S a = 2) ↔ bt (S 0 8) a = true := by
  unfold how
  cases h8 : bt (S 0 8) a <;> cases h7 : bt (S 0 7) a <;> simp
theorem sp197 (hR : YR Y M) (hN : YN Y) : evD (d + 1) 197 [vR 12 0 253] M = some (some (vI (Int32.ofNat (nA Y))), M) := by
  simp only [e197, hR.1, hN.A]
theorem sp248 (hR : YR Y M) (hN : YN Y) : evD (d + 1) 248 [vR 12 0 253] M = some (some (vI (Int32.ofNat (nC Y))), M) := by
  simp only [e248, hR.1, hN.C]
theorem sp255 (hR : YR Y M) (hN : YN Y) : evD (d + 1) 255 [vR 12 0 253] M = some (some (vI (Int32.ofNat (nB Y))), M) := by
  simp only [e255, hR.1, hN.B]
theorem sp237 (hR : YR Y M) (hN : YN Y) : evD (d + 2) 237 [vR 12 0 253, vI p] M = some (some (vI (b2 (isIn p (nA Y)))), M) := by
  simp only [e237, sp197 hR hN, cIn_s]; exact ic_in rfl
theorem sp247 (hR : YR Y M) (hN : YN Y) : evD (d + 2) 247 [vR 12 0 253, vI p] M = some (some (vI (b2 (isIn p (nC Y)))), M) := by
  simp only [e247, sp248 hR hN, cIn_s]; exact ic_in rfl
theorem sp254 (hR : YR Y M) (hN : YN Y) : evD (d + 2) 254 [vR 12 0 253, vI p] M = some (some (vI (b2 (isIn p (nB Y)))), M) := by
  simp only [e254, sp255 hR hN, cIn_s]; exact ic_in rfl
theorem sp238 (hB : B = Int32.ofNat b) (hR : YR Y M) (hN : YN Y) (hS : SR Y S b M) (hI : SI Y n S) (hb : b ≤ 1078) (ha : a < nA Y) : evD (d + 3) 238 [vR 12 0 253, vI B, vI (Int32.ofNat a)] M = some (some (vI (b2 (up S a))), M) := by
  have h6 := hN.A6
  subst hB
  simp (disch := omega) only [e238, sp237 hR hN, i_nat, Nat.add_zero, Nat.not_lt_zero, i_neg, i_lt, i_le, i_eq, i_add, i_addl, i_addr, i_mulr, i_mull, i_subl, i_pred, i_ltl, i_ltr, i_eql, i_em1, cIn_s, cVd_s, cLo_s, ic_true, ic_false, ic_same, i10, eq_self, b2_0, b2_1, b2_and, b2_t, b2_f, ck', isIn_of, hS]
  have := how_1 hI (show a < 32 by omega)
  simp only [this, ic_b2, Bool.decide_eq_true]
theorem sp198 (j : Nat) (hp : p = Int32.ofNat j) (hj : j < 5) (ha : a < 6) : evD (d + 1) 198 [vR 12 0 253, vI (Int32.ofNat a), vI p] M = some (some (vI (M.1 259 (26 + 5 * a + j))), M) := by
  subst hp
  simp (disch := omega) only [e198, i_nat, Nat.add_zero, Nat.not_lt_zero, i_neg, i_lt, i_le, i_eq, i_add, i_addl, i_addr, i_mulr, i_mull, i_subl, i_pred, i_ltl, i_ltr, i_eql, i_em1, cIn_s, cVd_s, cLo_s, ic_true, ic_false, ic_same, i10, eq_self, b2_0, b2_1, b2_and, b2_t, b2_f, ck']
theorem half_max {h : Int32} : (if h < 1 then 1 else h) = imax 1 h := by
  unfold imax
  rw [t_eq]
  by_cases h1 : h < 1 <;> by_cases h2 : 1 < h <;> simp only [h1, h2, if_true, if_false] <;> (rw [t_lt, t_1] at *; omega)
theorem sp239 (hR : YR Y M) (hN : YN Y) (ha : a < nA Y) : evD (d + 2) 239 [vR 12 0 253, vI (Int32.ofNat a)] M = some (some (vI (needs Y a)), M) := by
  have h6 := hN.A6
  have r := hR.1.2.2.2.1 a ha
  simp (disch := omega) only [e239, sp198 (p := 2) 2 rfl, sp198 (p := 0) 0 rfl, cIn_s, cVd_s, cLo_s, ic_true, ic_false, ic_same, Nat.add_zero, r, ic_ite, half_max, needs]
theorem sp240 (hB : B = Int32.ofNat b) (hR : YR Y M) (hN : YN Y) (hS : SR Y S b M) (hI : SI Y n S) (hb : b ≤ 1078) (ha : a < nA Y) : evD (d + 4) 240 [vR 12 0 253, vI B, vI (Int32.ofNat a)] M = some (some (vI (b2 (inF Y S a))), M) := by
  have h6 := hN.A6
  have h := sp238 (d := d) hB hR hN hS hI hb ha
  subst hB
  simp (disch := omega) only [e240, h, i_nat, Nat.add_zero, Nat.not_lt_zero, i_neg, i_lt, i_le, i_eq, i_add, i_addl, i_addr, i_mulr, i_mull, i_subl, i_pred, i_ltl, i_ltr, i_eql, i_em1, cIn_s, cVd_s, cLo_s, ic_true, ic_false, ic_same, i10, eq_self, b2_0, b2_1, b2_and, b2_t, b2_f, ck', hS, sp239 hR hN ha, ic_b2n, inF, isD]
  cases up S a <;> simp [ic_true, ic_false, b2]
theorem sp250 (hB : B = Int32.ofNat b) (hR : YR Y M) (hN : YN Y) (hS : SR Y S b M) (hI : SI Y n S) (hb : b ≤ 1078) : evD (d + 5) 250 [vR 12 0 253, vI B] M = some (some (vI (force Y S)), M) := by
  have h6 := hN.A6
  have h : Hm (evD (d + 5) 250 [vR 12 0 253, vI B] M) (fun r M' => r = some (vI (force Y S)) ∧ M' = M) := by
    rw [e250]; simp only [lp0_eq]
    refine lp_for (d := d + 4) (x := 250) (pc := 4) (nA Y) 1 0 (by omega) (fun i lv M' => lv = [some (vR 12 0 253), some (vI B), some (vI (rf (fun x a => x ||| (if inF Y S a then 1 <<< (Int32.ofNat a &&& 31) else 0)) 0 i)), some (vI (Int32.ofNat i))] ∧ M' = M) ?_ ?_ (nA Y) 0 (by omega) 20000 _ M (by omega) ⟨rfl, rfl⟩
    · rintro i hi G lv M' - ⟨rfl, rfl⟩ z
      simp (disch := omega) only [e250_4, i_nat, Nat.add_zero, Nat.not_lt_zero, i_neg, i_lt, i_le, i_eq, i_add, i_addl, i_addr, i_mulr, i_mull, i_subl, i_pred, i_ltl, i_ltr, i_eql, i_em1, cIn_s, cVd_s, cLo_s, ic_true, ic_false, ic_same, i10, eq_self, b2_0, b2_1, b2_and, b2_t, b2_f, ck', sp197 hR hN, hi, sp240 hB hR hN hS hI hb hi]
      cases hf : inF Y S i
      · simp only [cIn_s, cVd_s, cLo_s, ic_true, ic_false, ic_same]; exact z _ _ _ (by omega) ⟨by simp [rf, hf], rfl⟩
      · simp only [cIn_s, cVd_s, cLo_s, ic_true, ic_false, ic_same, Bool.true_eq_false]; exact z _ _ _ (by omega) ⟨by simp [rf, hf], rfl⟩
    · rintro G lv M' - ⟨rfl, rfl⟩
      simp (disch := omega) only [e250_4, i_nat, Nat.add_zero, Nat.not_lt_zero, i_neg, i_lt, i_le, i_eq, i_add, i_addl, i_addr, i_mulr, i_mull, i_subl, i_pred, i_ltl, i_ltr, i_eql, i_em1, cIn_s, cVd_s, cLo_s, ic_true, ic_false, ic_same, i10, eq_self, b2_0, b2_1, b2_and, b2_t, b2_f, ck', sp197 hR hN, Nat.lt_irrefl]
      exact Hm_some ⟨rfl, rfl⟩
  obtain ⟨a, M', h1, h2, h3⟩ := h
  rw [h1, h2, h3]
theorem sp252 (hR : YR Y M) (hN : YN Y) : evD (d + 2) 252 [vR 12 0 253, vI v] M = some (some (vI (wor Y v)), M) := by
  have h6 := hN.A6
  have h : Hm (evD (d + 2) 252 [vR 12 0 253, vI v] M) (fun r M' => r = some (vI (wor Y v)) ∧ M' = M) := by
    rw [e252]; simp only [lp0_eq]
    refine lp_for (d := d + 1) (x := 252) (pc := 4) (nA Y) 1 0 (by omega) (fun i lv M' => lv = [some (vR 12 0 253), some (vI v), some (vI (rf (fun x a => x + (if bt v a then Y 16 a else 0)) 0 i)), some (vI (Int32.ofNat i))] ∧ M' = M) ?_ ?_ (nA Y) 0 (by omega) 20000 _ M (by omega) ⟨rfl, rfl⟩
    · rintro i hi G lv M' - ⟨rfl, rfl⟩ z
      have r := hR.1.2.2.2.1 i hi
      simp (disch := omega) only [e252_4, i_nat, Nat.add_zero, Nat.not_lt_zero, i_neg, i_lt, i_le, i_eq, i_add, i_addl, i_addr, i_mulr, i_mull, i_subl, i_pred, i_ltl, i_ltr, i_eql, i_em1, cIn_s, cVd_s, cLo_s, ic_true, ic_false, ic_same, i10, eq_self, b2_0, b2_1, b2_and, b2_t, b2_f, ck', sp197 hR hN, hi, sp198 (p := 3) 3 rfl, bt_has, r]
      refine Hm_ic (fun h => ?_) (fun h => ?_)
      · exact z _ _ _ (by omega) ⟨by simp [rf, h], rfl⟩
      · exact z _ _ _ (by omega) ⟨by simp [rf, h], rfl⟩
    · rintro G lv M' - ⟨rfl, rfl⟩
      simp (disch := omega) only [e252_4, i_nat, Nat.add_zero, Nat.not_lt_zero, i_neg, i_lt, i_le, i_eq, i_add, i_addl, i_addr, i_mulr, i_mull, i_subl, i_pred, i_ltl, i_ltr, i_eql, i_em1, cIn_s, cVd_s, cLo_s, ic_true, ic_false, ic_same, i10, eq_self, b2_0, b2_1, b2_and, b2_t, b2_f, ck', sp197 hR hN, Nat.lt_irrefl]
      exact Hm_some ⟨rfl, rfl⟩
  obtain ⟨a, M', h1, h2, h3⟩ := h
  rw [h1, h2, h3]
theorem sp243 (hR : YR Y M) (hn : n < 1000000) : evD (d + 1) 243 [vR 12 0 253, vI (Int32.ofNat n), vI m] M = some (some (vI (warm Y n + (if m = 0 then 0 else 3))), M) := by
  obtain ⟨w, w1, w14, e, hw⟩ := hR.2.1
  have h1 : n / w * w ≤ n := Nat.div_mul_le_self n w
  have h2 : n - n / w * w = n % w := by rw [Nat.mul_comm]; exact (Nat.mod_eq_sub_mul_div).symm
  have hm : n % w < w := Nat.mod_lt _ (by omega)
  have hwn := hw n
  simp (disch := omega) only [e243, e, i_nat, Nat.add_zero, Nat.not_lt_zero, i_neg, i_lt, i_le, i_eq, i_add, i_addl, i_addr, i_mulr, i_mull, i_subl, i_pred, i_ltl, i_ltr, i_eql, i_em1, cIn_s, cVd_s, cLo_s, ic_true, ic_false, ic_same, i10, eq_self, b2_0, b2_1, b2_and, b2_t, b2_f, ck', i_div, i_mul, i_sub, h2, show (w = 0) = False by simp; omega]
  generalize n % w = r at *
  simp (disch := omega) only [i_nat, Nat.add_zero, Nat.not_lt_zero, i_neg, i_lt, i_le, i_eq, i_add, i_addl, i_addr, i_mulr, i_mull, i_subl, i_pred, i_ltl, i_ltr, i_eql, i_em1, cIn_s, cVd_s, cLo_s, ic_true, ic_false, ic_same, i10, eq_self, b2_0, b2_1, b2_and, b2_t, b2_f, ck', hwn, ic_ite]
  by_cases h : m = 0 <;> simp only [h, if_true, if_false, ic_true, ic_false]
/-- the reference's stack -/
theorem both_join {w : Int32} {a b : Int32} (h1 : ¬ w < 10003) (h2 : w ≠ 10003) : evD (d + 1) 245 [vI (opO w), vI a, vI b] M = some (some (vI (ljoin w a b)), M) := by
  have h3 : ¬ w < 10000 := by rw [t_lt] at *; rw [show (10003 : Int32).toInt = 10003 from rfl] at h1; rw [show (10000 : Int32).toInt = 10000 from rfl]; omega
  rw [e245]; simp only [ic_ite]
  unfold opO ljoin
  simp only [h1, h2, h3, if_false]
  by_cases k4 : w = 10004
  · subst k4; rfl
  by_cases k5 : w = 10005
  · subst k5; rfl
  by_cases k6 : w = 10006
  · subst k6; rfl
  by_cases k7 : w = 10007
  · subst k7; rfl
  by_cases k8 : w = 10008
  · subst k8; rfl
  by_cases k9 : w = 10009
  · subst k9; rfl
  simp only [k4, k5, k6, k7, k8, k9, if_false]; rfl
theorem opO_1 {w : Int32} (h : w < 10000) : opO w = 1 := by simp [opO, h]
theorem opO_2 {w : Int32} (h : ¬ w < 10000) (h' : w < 10003) : opO w = 2 := by simp [opO, h, h']
theorem opO_3 : opO 10003 = 3 := by decide
theorem opO_ge {w : Int32} (h1 : ¬ w < 10003) (h2 : w ≠ 10003) : opO w ≠ 0 ∧ opO w ≠ 1 ∧ opO w ≠ 2 ∧ opO w ≠ 3 := by
  have h3 : ¬ w < 10000 := by rw [t_lt] at *; rw [show (10003 : Int32).toInt = 10003 from rfl] at h1; rw [show (10000 : Int32).toInt = 10000 from rfl]; omega
  unfold opO
  simp only [h1, h2, h3, if_false]
  repeat' split
  all_goals decide
theorem lpick_of {j : Nat} (h : j < 3) {f : Nat → Int32} : lpick (Int32.ofNat (10000 + j) - 10000) (f 0) (f 1) (f 2) = f j := by
  have : j = 0 ∨ j = 1 ∨ j = 2 := by omega
  rcases this with rfl | rfl | rfl <;> rfl
theorem sp244 {code : Nat → Int32} {f : Nat} {g : Nat → Nat} (hg : ∀ j, j < 3 → g j < 5) (hW : LW code n) (hR : LRc g code n f M) (hx : M.1 267 (g 0) = x) (hy : M.1 267 (g 1) = y) (hz : M.1 267 (g 2) = z) :
    Hm (evD (d + 2) 244 [vR 12 0 253, vI (Int32.ofNat f)] M) (fun r M' => r = some (vI (lawv code n x y z)) ∧ Fr (fun c _ => c = 268) M M') := by
  obtain ⟨h1000, hd1, hw⟩ := hW
  obtain ⟨hlen, hend, hop⟩ := hR
  rw [e244]
  simp only [lp0_eq]
  refine lp_for (d := d + 1) (x := 244) (pc := 4) n 4 0 (by omega) (fun i lv M' => ∃ o, lv = [some (vR 12 0 253), some (vI (Int32.ofNat f)), some (vI (Int32.ofNat (ldep code i))), some (vI (Int32.ofNat (f + i))), o] ∧ M'.1 268 = (lrun code x y z (M.1 268) i).1 ∧ Fr (fun c _ => c = 268) M M') ?_ ?_ n 0 (by omega) 20000 _ M (by omega) ⟨none, rfl, rfl, Fr.rf⟩
  · rintro i hi G lv M' - ⟨o, rfl, hr, hf⟩ k
    have hc : M'.1 260 = M.1 260 := hf.row (fun j => by omega)
    have hc1 : M'.1 261 = M.1 261 := hf.row (fun j => by omega)
    have hc2 : M'.1 267 = M.1 267 := hf.row (fun j => by omega)
    obtain ⟨ok, h32⟩ := hw i hi
    obtain ⟨o1, o2, o3⟩ := hop i hi
    have dp := lrun_dep code x y z (M.1 268) i
    have dps : ldep code (i + 1) = dstep (ldep code i) (code i) := rfl
    have rs : lrun code x y z (M.1 268) (i + 1) = lstep x y z (lrun code x y z (M.1 268) i) (code i) := rfl
    generalize hp : lrun code x y z (M.1 268) i = pp at *
    obtain ⟨p1, t⟩ := pp
    dsimp only at dp hr
    rw [← dp] at h32 ok dps ⊢
    unfold okw at ok
    unfold dstep at dps
    unfold lstep at rs
    simp (disch := omega) only [e244_4b, hc, i_nat, Nat.add_zero, Nat.not_lt_zero, i_neg, i_lt, i_le, i_eq, i_add, i_addl, i_addr, i_mulr, i_mull, i_subl, i_pred, i_ltl, i_ltr, i_eql, i_em1, cIn_s, cVd_s, cLo_s, ic_true, ic_false, ic_same, i10, eq_self, b2_0, b2_1, b2_and, b2_t, b2_f, ck', o1]
    by_cases h1 : code i < 10003
    · have t1 := ok.1 h1
      simp only [h1, if_true] at dps rs
      by_cases h2 : code i < 10000
      · simp (disch := omega) only [opO_1 h2, i_nat, Nat.add_zero, Nat.not_lt_zero, i_neg, i_lt, i_le, i_eq, i_add, i_addl, i_addr, i_mulr, i_mull, i_subl, i_pred, i_ltl, i_ltr, i_eql, i_em1, cIn_s, cVd_s, cLo_s, ic_true, ic_false, ic_same, i10, eq_self, b2_0, b2_1, b2_and, b2_t, b2_f, ck', show ((1 : Int32) = 0) = False by decide, e244_33, e244_65b, e244_134, hc1, o2 h2]
        refine k _ _ _ (by omega) ⟨_, by rw [dps]; rfl, ?_, hf.sI rfl⟩
        rw [upd_row, hr, rs]; simp [h2]
      · obtain ⟨j, hj, ej, eg⟩ := o3 h2 h1
        have hgj := hg j hj
        have pk : lpick (code i - 10000) x y z = M.1 267 (g j) := by
          rw [ej, ← hx, ← hy, ← hz]; exact lpick_of hj (f := fun j => M.1 267 (g j))
        simp (disch := omega) only [opO_2 h2 h1, i_nat, Nat.add_zero, Nat.not_lt_zero, i_neg, i_lt, i_le, i_eq, i_add, i_addl, i_addr, i_mulr, i_mull, i_subl, i_pred, i_ltl, i_ltr, i_eql, i_em1, cIn_s, cVd_s, cLo_s, ic_true, ic_false, ic_same, i10, eq_self, b2_0, b2_1, b2_and, b2_t, b2_f, ck', show ((2 : Int32) = 0) = False by decide, show ((2 : Int32) = 1) = False by decide, e244_33, e244_65b, e244_134, hc1, eg, hc2]
        refine k _ _ _ (by omega) ⟨_, by rw [dps]; rfl, ?_, hf.sI rfl⟩
        rw [upd_row, hr, rs, ← pk]; simp [h2]
    · by_cases h2 : code i = 10003
      · have t1 := ok.2.1 h1 h2
        simp only [h1, h2, if_true, if_false] at dps rs
        simp only [show ¬ ((10003 : Int32) < 10003) by decide, if_false] at dps rs
        simp (disch := omega) only [h2, opO_3, i_nat, Nat.add_zero, Nat.not_lt_zero, i_neg, i_lt, i_le, i_eq, i_add, i_addl, i_addr, i_mulr, i_mull, i_subl, i_pred, i_ltl, i_ltr, i_eql, i_em1, cIn_s, cVd_s, cLo_s, ic_true, ic_false, ic_same, i10, eq_self, b2_0, b2_1, b2_and, b2_t, b2_f, ck', show ((3 : Int32) = 0) = False by decide, show ((3 : Int32) = 1) = False by decide, show ((3 : Int32) = 2) = False by decide, e244_101, e244_134, hr]
        refine Hm_ic (fun h3 => ?_) (fun h3 => ?_)
        · refine k _ _ _ (by omega) ⟨_, by rw [dps]; rfl, ?_, hf.sI rfl⟩
          rw [upd_row, hr, rs]; simp [h3]
        · refine k _ _ _ (by omega) ⟨_, by rw [dps]; rfl, ?_, hf.sI rfl⟩
          rw [upd_row, hr, rs]; simp [h3]
      · have t1 := ok.2.2 h1 h2
        obtain ⟨q0, q1, q2, q3⟩ := opO_ge h1 h2
        simp only [h1, h2, if_false] at dps rs
        simp (disch := omega) only [q0, q1, q2, q3, i_nat, Nat.add_zero, Nat.not_lt_zero, i_neg, i_lt, i_le, i_eq, i_add, i_addl, i_addr, i_mulr, i_mull, i_subl, i_pred, i_ltl, i_ltr, i_eql, i_em1, cIn_s, cVd_s, cLo_s, ic_true, ic_false, ic_same, i10, eq_self, b2_0, b2_1, b2_and, b2_t, b2_f, ck', e244_134, hr, both_join h1 h2]
        refine k _ _ _ (by omega) ⟨_, by rw [dps]; rfl, ?_, hf.sI rfl⟩
        rw [upd_row, hr, rs]; rfl
  · rintro G lv M' - ⟨o, rfl, hr, hf⟩
    have hc : M'.1 260 = M.1 260 := hf.row (fun j => by omega)
    simp (disch := omega) only [e244_4b, hc, hend, i_nat, Nat.add_zero, Nat.not_lt_zero, i_neg, i_lt, i_le, i_eq, i_add, i_addl, i_addr, i_mulr, i_mull, i_subl, i_pred, i_ltl, i_ltr, i_eql, i_em1, cIn_s, cVd_s, cLo_s, ic_true, ic_false, ic_same, i10, eq_self, b2_0, b2_1, b2_and, b2_t, b2_f, ck']
    refine Hm_some ⟨?_, hf⟩
    rw [hr, lawv_any ⟨h1000, hd1, hw⟩]
end
end REF
