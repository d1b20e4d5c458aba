/-! THE REFERENCE'S NIGHTS -/
section REF2
variable {d : Nat} {Y S : YT} {M : Mem} {B p q v m x y z : Int32} {a s n c b : Nat} {tall props deg done : Int32}
def mlt (Y : YT) (a s : Nat) (tall deg : Int32) : Int32 := if Y 13 a = 3 ∧ ¬ Y 10 s < 5 then 0 else mel0 Y a s tall deg
def md3 (m : Int32) : Int32 := if m = 0 then 0 else 3
theorem neg_max {v : Int32} : (if v < 0 then 0 else v) = imax 0 v := by
  unfold imax
  rw [t_eq]
  by_cases h1 : v < 0 <;> by_cases h2 : 0 < v <;> simp only [h1, h2, if_true, if_false] <;> (rw [t_lt, t_0] at *; omega)
theorem clamp9 {v : Int32} : (if v < 0 then 0 else if 9 < v then 9 else v) = imax 0 (imin 9 v) := by
  rw [t_eq, t_max, t_min, t_0, show (9 : Int32).toInt = 9 from rfl]
  split
  · rename_i h; rw [t_lt, t_0] at h; rw [t_0]; omega
  · rename_i h; rw [t_lt, t_0] at h
    split
    · rename_i h2; rw [t_lt, show (9 : Int32).toInt = 9 from rfl] at h2; rw [show (9 : Int32).toInt = 9 from rfl]; omega
    · rename_i h2; rw [t_lt, show (9 : Int32).toInt = 9 from rfl] at h2; omega
theorem clamp99 {v : Int32} : (if v < 0 then 0 else if 99 < v then 99 else v) = imax 0 (imin 99 v) := by
  rw [t_eq, t_max, t_min, t_0, show (99 : Int32).toInt = 99 from rfl]
  split
  · rename_i h; rw [t_lt, t_0] at h; rw [t_0]; omega
  · rename_i h; rw [t_lt, t_0] at h
    split
    · rename_i h2; rw [t_lt, show (99 : Int32).toInt = 99 from rfl] at h2; rw [show (99 : Int32).toInt = 99 from rfl]; omega
    · rename_i h2; rw [t_lt, show (99 : Int32).toInt = 99 from rfl] at h2; omega
theorem min99 {v : Int32} : (if 99 < v then 99 else v) = imin 99 v := by
  rw [t_eq, t_min, show (99 : Int32).toInt = 99 from rfl]
  split
  · rename_i h2; rw [t_lt, show (99 : Int32).toInt = 99 from rfl] at h2; rw [show (99 : Int32).toInt = 99 from rfl]; omega
  · rename_i h2; rw [t_lt, show (99 : Int32).toInt = 99 from rfl] at h2; omega
theorem mlt_P (hp : rg props 0 4) : imax 0 (mlt Y a s tall deg - props) = melP Y a s tall props deg := by
  unfold mlt melP
  split
  · unfold rg at hp
    rw [t_eq, t_max, t_sub (by rw [t_0]; omega) (by rw [t_0]; omega), t_0]; omega
  · rfl
theorem mlt_0 : mlt Y a s tall deg = melP Y a s tall 0 deg := by
  have h := mel0_rg (Y := Y) (a := a) (s := s) (tall := tall) (deg := deg)
  unfold mlt melP
  split
  · rfl
  · unfold rg at h
    rw [t_eq, t_max, t_sub (by rw [t_0]; omega) (by rw [t_0]; omega), t_0]; omega
theorem sp242 (hR : YR Y M) (hN : YN Y) (hL : YL Y) (ha : a < nA Y) (hs : s < nB Y) (hn : n < 1000000) :
    Hm (evD (d + 3) 242 [vR 12 0 253, vI (Int32.ofNat a), vI (Int32.ofNat s), vI tall, vI (Int32.ofNat n), vI m] M) (fun r M' => r = some (vI (mlt Y a s tall (warm Y n + md3 m))) ∧ Fr (fun c _ => c = 267 ∨ c = 268) M M') := by
  have h6 := hN.A6
  have hB := hN.B6
  have fin : ∀ (M1 : Mem) (v : Int32) (F : Nat) (o7 : Option AV), Fr (fun c _ => c = 267 ∨ c = 268) M M1 → v = lawv (Y 21) (nM Y) (warm Y n + md3 m) (Y 10 s) tall → 10 ≤ F → Hm (lp (d + 2) 242 F 75 [some (vR 12 0 253), some (vI (Int32.ofNat a)), some (vI (Int32.ofNat s)), some (vI tall), some (vI (Int32.ofNat n)), some (vI m), some (vI v), o7] M1) (fun r M' => r = some (vI (mlt Y a s tall (warm Y n + md3 m))) ∧ Fr (fun c _ => c = 267 ∨ c = 268) M M') := by
    intro M1 v F o7 hf hv hF
    have hR1 := hR.fr hf (fun c j h1 h2 => by omega)
    obtain ⟨r1, -⟩ := hR1.1.2.2.2.1 a ha
    have r2 := hR1.1.2.1 s hs
    obtain ⟨G, rfl⟩ : ∃ G, F = G + 10 := ⟨F - 10, by omega⟩
    have step : ∀ w, w = imax 0 (imin 9 v) → Hm (lp (d + 2) 242 (G + 9) 100 [some (vR 12 0 253), some (vI (Int32.ofNat a)), some (vI (Int32.ofNat s)), some (vI tall), some (vI (Int32.ofNat n)), some (vI m), some (vI w), o7] M1) (fun r M' => r = some (vI (mlt Y a s tall (warm Y n + md3 m))) ∧ Fr (fun c _ => c = 267 ∨ c = 268) M M') := by
      rintro w rfl
      have last : ∀ w G', w = mel0 Y a s tall (warm Y n + md3 m) → Hm (lp (d + 2) 242 (G' + 2) 138 [some (vR 12 0 253), some (vI (Int32.ofNat a)), some (vI (Int32.ofNat s)), some (vI tall), some (vI (Int32.ofNat n)), some (vI m), some (vI w), some (vI (Y 13 a))] M1) (fun r M' => r = some (vI (mlt Y a s tall (warm Y n + md3 m))) ∧ Fr (fun c _ => c = 267 ∨ c = 268) M M') := by
        rintro w G' rfl
        simp (disch := omega) only [e242_138, i_nat, Nat.add_zero, Nat.not_lt_zero, i_neg, i_lt, i_le, i_eq, i_add, i_addl, i_addr, i_mulr, i_mull, i_subl, i_pred, i_ltl, i_ltr, i_eql, i_em1, cIn_s, cVd_s, cLo_s, ic_true, ic_false, ic_same, i10, eq_self, b2_0, b2_1, b2_and, b2_t, b2_f, ck', r2, e242_161]
        refine Hm_ic (fun h1 => Hm_ic (fun h2 => ?_) (fun h2 => ?_)) (fun h1 => ?_)
        · exact Hm_some ⟨by simp [mlt, h2], hf⟩
        · exact Hm_some ⟨by simp [mlt, h1, h2], hf⟩
        · exact Hm_some ⟨by simp [mlt, h1], hf⟩
      simp (disch := omega) only [e242_100b, sp198 (p := 0) 0 rfl, i_nat, Nat.add_zero, Nat.not_lt_zero, i_neg, i_lt, i_le, i_eq, i_add, i_addl, i_addr, i_mulr, i_mull, i_subl, i_pred, i_ltl, i_ltr, i_eql, i_em1, cIn_s, cVd_s, cLo_s, ic_true, ic_false, ic_same, i10, eq_self, b2_0, b2_1, b2_and, b2_t, b2_f, ck', r1]
      refine Hm_ic (fun h1 => ?_) (fun h1 => Hm_ic (fun h2 => ?_) (fun h2 => ?_))
      · exact last _ (G + 6) (by simp [mel0, h1, hv])
      · exact last _ (G + 6) (by simp [mel0, h2, hv])
      · exact last _ (G + 6) (by simp [mel0, h1, h2, hv])
    rw [show G + 10 = (G + 9) + 1 from rfl, e242_75b]
    refine Hm_ic (fun h1 => ?_) (fun h1 => Hm_ic (fun h2 => ?_) (fun h2 => ?_))
    · exact step _ (by rw [← clamp9, if_pos h1])
    · exact step _ (by rw [← clamp9, if_neg h1, if_pos h2])
    · exact step _ (by rw [← clamp9, if_neg h1, if_neg h2])
  have hf3 : Fr (fun c _ => c = 267 ∨ c = 268) M (sI (sI (sI M 267 0 (warm Y n + md3 m)) 267 1 (Y 10 s)) 267 2 tall) := ((Fr.rf.sI (by omega)).sI (by omega)).sI (by omega)
  have r2 := hR.1.2.1 s hs
  rw [e242]
  rw [sp243 hR hn, cIn_s]
  rw [show (if m = 0 then 0 else 3 : Int32) = md3 m from rfl]
  simp (disch := omega) only [i_nat, Nat.add_zero, Nat.not_lt_zero, i_neg, i_lt, i_le, i_eq, i_add, i_addl, i_addr, i_mulr, i_mull, i_subl, i_pred, i_ltl, i_ltr, i_eql, i_em1, cIn_s, cVd_s, cLo_s, ic_true, ic_false, ic_same, i10, eq_self, b2_0, b2_1, b2_and, b2_t, b2_f, ck', sI_eq, sI_eq', sI_ne, sJ_1, sR_1, r2, lp0_eq]
  rcases hR.2.2.1 with ⟨h1, h2⟩ | ⟨f, h1, h2⟩
  · simp only [h1, show ((-1 : Int32) < 0) = True by decide, ic_true]
    exact fin _ _ _ _ hf3 (h2 _ _ _).symm (by omega)
  · have hl := h2.1
    simp (disch := omega) only [h1, i_nat, Nat.add_zero, Nat.not_lt_zero, i_neg, i_lt, i_le, i_eq, i_add, i_addl, i_addr, i_mulr, i_mull, i_subl, i_pred, i_ltl, i_ltr, i_eql, i_em1, cIn_s, cVd_s, cLo_s, ic_true, ic_false, ic_same, i10, eq_self, b2_0, b2_1, b2_and, b2_t, b2_f, ck']
    refine Hm_cIv (sp244 (g := gM) (code := Y 21) (n := nM Y) (f := f) (x := warm Y n + md3 m) (y := Y 10 s) (z := tall) (fun j hj => by unfold gM; omega) hL.2.1 ?_ ?_ ?_ ?_) (fun M1 hf => ?_)
    · unfold LRc at h2 ⊢
      refine ⟨h2.1, ?_, fun i hi => ?_⟩
      · simp (disch := omega) only [sI_eq, sI_eq', sI_ne, sJ_1, sR_1]; exact h2.2.1
      · simp (disch := omega) only [sI_eq, sI_eq', sI_ne, sJ_1, sR_1]; exact h2.2.2 i hi
    · simp (disch := omega) only [gM, sI_eq, sI_eq', sI_ne, sJ_1, sR_1]
    · simp (disch := omega) only [gM, sI_eq, sI_eq', sI_ne, sJ_1, sR_1]
    · simp (disch := omega) only [gM, sI_eq, sI_eq', sI_ne, sJ_1, sR_1]
    · exact fin _ _ _ _ (hf3.tr (hf.up (fun c j h => .inr h))) rfl (by omega)
theorem sp241 (hB : B = Int32.ofNat b) (hR : YR Y M) (hN : YN Y) (hL : YL Y) (hS : SR Y S b M) (hI : SI Y n S) (hn : n < 1000000) (hb : b ≤ 1078) (ha : a < nA Y) (hu : up S a = true) :
    Hm (evD (d + 4) 241 [vR 12 0 253, vI B, vI (Int32.ofNat a), vI m] M) (fun r M' => r = some (vI (melT Y S a (md3 m))) ∧ Fr (fun c _ => c = 267 ∨ c = 268) M M') := by
  have h6 := hN.A6
  have hnn := hI.nb
  obtain ⟨e1, e2, -⟩ := hI.sp ha hu
  have e4 := hS.2.2.2 a ha hu
  have e0 := hI.n
  have p3 := (hI.a ha).2.2.2.2.2.1
  subst hB
  simp (disch := omega) only [e241, i_nat, Nat.add_zero, Nat.not_lt_zero, i_neg, i_lt, i_le, i_eq, i_add, i_addl, i_addr, i_mulr, i_mull, i_subl, i_pred, i_ltl, i_ltr, i_eql, i_em1, cIn_s, cVd_s, cLo_s, ic_true, ic_false, ic_same, i10, eq_self, b2_0, b2_1, b2_and, b2_t, b2_f, ck', hS, e4, e1, e0]
  refine Hm_cIv (sp242 hR hN hL ha e2 (by omega)) (fun M1 hf => ?_)
  have hS1 : SR Y S b M1 := hS.fr h6 hf (fun j h1 h2 => by omega)
  simp (disch := omega) only [i_nat, Nat.add_zero, Nat.not_lt_zero, i_neg, i_lt, i_le, i_eq, i_add, i_addl, i_addr, i_mulr, i_mull, i_subl, i_pred, i_ltl, i_ltr, i_eql, i_em1, cIn_s, cVd_s, cLo_s, ic_true, ic_false, ic_same, i10, eq_self, b2_0, b2_1, b2_and, b2_t, b2_f, ck', hS1, ic_ite, neg_max]
  refine Hm_some ⟨?_, hf⟩
  rw [mlt_P (by unfold rg at *; omega)]; rfl
theorem sp270 (hB : B = Int32.ofNat b) (hR : YR Y M) (hN : YN Y) (hL : YL Y) (hS : SR Y S b M) (hI : SI Y n S) (hn : n < 1000000) (hb : b ≤ 1078) (ha : a < nA Y) (hu : up S a = true) :
    Hm (evD (d + 5) 270 [vR 12 0 253, vI B, vI (Int32.ofNat a), vI m] M) (fun r M' => r = some (vI (imax 0 (S 1 a - melT Y S a (md3 m)))) ∧ Fr (fun c _ => c = 267 ∨ c = 268) M M') := by
  have h6 := hN.A6
  have h := sp241 (d := d) (m := m) hB hR hN hL hS hI hn hb ha hu
  subst hB
  simp (disch := omega) only [e270, i_nat, Nat.add_zero, Nat.not_lt_zero, i_neg, i_lt, i_le, i_eq, i_add, i_addl, i_addr, i_mulr, i_mull, i_subl, i_pred, i_ltl, i_ltr, i_eql, i_em1, cIn_s, cVd_s, cLo_s, ic_true, ic_false, ic_same, i10, eq_self, b2_0, b2_1, b2_and, b2_t, b2_f, ck', hS]
  refine Hm_cIv h (fun M1 hf => ?_)
  simp only [ic_ite, neg_max]
  exact Hm_some ⟨rfl, hf⟩
theorem bt_set {x : Int32} {e : Nat} (h : a < 32) (he : e < 32) : bt (x ||| 1 <<< (Int32.ofNat a &&& 31)) e = (bt x e || decide (e = a)) := by rw [bt_or, bt_sh h he]
theorem SR_los0 (h : SR Y S b M) (hN : YN Y) (ha : a < nA Y) (hl : losF S a v = false) : SR Y (losS S a v) b (sI M 269 (b + 7 + a) (imax 0 (S 1 a - v))) := by
  have h6 := hN.A6
  obtain ⟨h1, h2, h3, h4⟩ := h
  unfold losS
  simp only [hl, Bool.false_eq_true, if_false]
  refine ⟨?_, fun e he => ?_, fun c hc => ?_, fun e he hu => ?_⟩
  · simp (disch := omega) only [sI_ne, us_ne, h1]
  · obtain ⟨k1, k2, k3, k4, k5⟩ := h2 e he
    unfold how at *
    by_cases z : e = a
    · subst z; simp (disch := omega) only [sI_ne, sI_eq', us_ne, us_eq', k1, k3, k4, k5, and_self]
    · simp (disch := omega) only [sI_ne, us_ne, k1, k2, k3, k4, k5, and_self]
  · simp (disch := omega) only [sI_ne, us_ne, h3 c hc, and_self]
  · have hu' : up S e = true := by unfold up at *; simpa (disch := omega) only [us_ne] using hu
    simp (disch := omega) only [sI_ne, us_ne, h4 e he hu']
theorem SR_los1 (h : SR Y S b M) (hN : YN Y) (ha : a < nA Y) (hl : losF S a v = true) : SR Y (losS S a v) b (sI (sI M 269 (b + 7 + a) (imax 0 (S 1 a - v))) 269 (b + 1 + a) 2) := by
  have h6 := hN.A6
  obtain ⟨h1, h2, h3, h4⟩ := h
  unfold losS
  simp only [hl, if_true]
  have hb8 : ∀ e, e < 32 → bt ((us (us (us S 1 a (imax 0 (S 1 a - v))) 0 8 (S 0 8 ||| 1 <<< (Int32.ofNat a &&& 31))) 4 a (-1)) 0 8) e = (bt (S 0 8) e || decide (e = a)) := fun e he => by
    simp (disch := omega) only [us_ne, us_eq', bt_set]
  have hb7 : (us (us (us S 1 a (imax 0 (S 1 a - v))) 0 8 (S 0 8 ||| 1 <<< (Int32.ofNat a &&& 31))) 4 a (-1)) 0 7 = S 0 7 := by simp (disch := omega) only [us_ne]
  refine ⟨?_, fun e he => ?_, fun c hc => ?_, fun e he hu => ?_⟩
  · simp (disch := omega) only [sI_ne, us_ne, h1]
  · obtain ⟨k1, k2, k3, k4, k5⟩ := h2 e he
    unfold how at *
    rw [hb8 e (by omega), hb7]
    by_cases z : e = a
    · subst z; simp (disch := omega) only [sI_ne, sI_eq', us_ne, us_eq', k3, k4, k5, and_self]; simp
    · simp (disch := omega) only [sI_ne, us_ne, k1, k2, k3, k4, k5, and_self]; simp [z]
  · simp (disch := omega) only [sI_ne, us_ne, h3 c hc, and_self]
  · unfold up at hu
    rw [hb8 e (by omega), hb7] at hu
    by_cases z : e = a
    · subst z; simp at hu
    · have hu' : up S e = true := by unfold up; simpa [z] using hu
      simp (disch := omega) only [sI_ne, us_ne, h4 e he hu']
theorem SR_hur1 (h : SR Y S b M) (hN : YN Y) (ha : a < nA Y) (he : S 5 (mv Y a) = Int32.ofNat a) : SR Y (hurS Y S a) b (sI M 269 (b + 37 + mv Y a) 1) := by
  have h6 := hN.A6
  have hC := hN.C6
  have hm := hN.mC ha
  obtain ⟨h1, h2, h3, h4⟩ := h
  unfold hurS
  simp only [he, if_true]
  refine ⟨?_, fun e he => ?_, fun c hc => ?_, fun e he hu => ?_⟩
  · simp (disch := omega) only [sI_ne, us_ne, h1]
  · obtain ⟨k1, k2, k3, k4, k5⟩ := h2 e he
    unfold how at *
    simp (disch := omega) only [sI_ne, us_ne, k1, k2, k3, k4, k5, and_self]
  · obtain ⟨k1, k2⟩ := h3 c hc
    by_cases z : c = mv Y a
    · subst z; simp (disch := omega) only [sI_ne, sI_eq', us_ne, us_eq', bt_set, k1]; simp [b2]
    · simp (disch := omega) only [sI_ne, us_ne, us_eq', bt_set, k1, k2]; simp [z]
  · have hu' : up S e = true := by unfold up at *; simpa (disch := omega) only [us_ne] using hu
    simp (disch := omega) only [sI_ne, us_ne, h4 e he hu']
theorem sI_id {M : Mem} {k j : Nat} : sI M k j (M.1 k j) = M := by
  refine Prod.ext ?_ rfl
  funext a c
  simp only [sI]
  by_cases h : a = k ∧ c = j
  · rw [if_pos h, h.1, h.2]
  · rw [if_neg h]
/-- a night's end: the first n of the rows are cleared -/
theorem SR_end (h : SR Y S b M) (hN : YN Y) {M' : Mem} (h5 : ∀ c, c < 6 → M'.1 269 (b + 31 + c) = -1 ∧ M'.1 269 (b + 43 + c) = -1) (ho : ∀ j, (j < 31 ∨ (37 ≤ j ∧ j < 43)) → M'.1 269 (b + j) = M.1 269 (b + j)) : SR Y (endN S) b (sI M' 269 b (M'.1 269 b + 1)) := by
  have h6 := hN.A6
  obtain ⟨h1, h2, h3, h4⟩ := h
  have o0 := ho 0 (by omega)
  rw [Nat.add_zero] at o0
  refine ⟨?_, fun e he => ?_, fun c hc => ?_, fun e he hu => ?_⟩
  · unfold endN; rw [us_eq, sI_eq, o0, h1]
  · obtain ⟨k1, k2, k3, k4, k5⟩ := h2 e he
    have q1 := ho (1 + e) (by omega)
    have q2 := ho (7 + e) (by omega)
    have q3 := ho (13 + e) (by omega)
    have q4 := ho (25 + e) (by omega)
    rw [← Nat.add_assoc] at q1 q2 q3 q4
    unfold how endN at *
    simp (disch := omega) only [sI_ne, us_ne, fls_ne, fls_eq, q1, q2, q3, q4, (h5 e (by omega)).2, k1, k2, k3, k4, and_self]
  · obtain ⟨k1, k2⟩ := h3 c hc
    have q1 := ho (37 + c) (by omega)
    rw [← Nat.add_assoc] at q1
    unfold endN
    simp (disch := omega) only [sI_ne, us_ne, fls_ne, fls_eq, q1, (h5 c hc).1, k2, and_self]
  · have hu' : up S e = true := by unfold up endN at *; simpa (disch := omega) only [us_ne, fls_ne] using hu
    have q1 := ho (19 + e) (by omega)
    rw [← Nat.add_assoc] at q1
    unfold endN
    simp (disch := omega) only [sI_ne, us_ne, fls_ne, q1, h4 e he hu']
theorem los_0 (hv : rg v 0 20) (hs : rg (S 1 a) 0 20) : (imax 0 (S 1 a - v) = 0) ↔ losF S a v = true := by
  unfold losF rg at *
  have e : (imax 0 (S 1 a - v)).toInt = max 0 ((S 1 a).toInt - v.toInt) := by rw [t_max, t_sub (by omega) (by omega), t_0]
  simp only [Bool.not_eq_true', decide_eq_false_iff_not]
  rw [t_eq, t_lt, e, t_0]; omega
theorem sp269 (hB : B = Int32.ofNat b) (hR : YR Y M) (hN : YN Y) (hL : YL Y) (hS : SR Y S b M) (hI : SI Y n S) (hn : n < 1000000) (hb : b ≤ 1078) :
    Hm (evD (d + 6) 269 [vR 12 0 253, vI B, vI m] M) (fun r M' => r = some (vI (nitC Y S (md3 m))) ∧ SR Y (nitS Y S (md3 m)) b M' ∧ Fr (fun c j => c = 267 ∨ c = 268 ∨ (c = 269 ∧ b ≤ j ∧ j < b + 49)) M M') := by
  have h6 := hN.A6
  have hC := hN.C6
  subst hB
  rw [e269]; simp only [lp0_eq]
  refine lp_for (d := d + 5) (x := 269) (pc := 5) (nA Y) 1 100 (by omega) (fun i lv M' => ∃ o, lv = [some (vR 12 0 253), some (vI (Int32.ofNat b)), some (vI m), some (vI (nit Y (md3 m) S i).2), some (vI (Int32.ofNat i)), o] ∧ SR Y (nit Y (md3 m) S i).1 b M' ∧ Fr (fun c j => c = 267 ∨ c = 268 ∨ (c = 269 ∧ b ≤ j ∧ j < b + 49)) M M') ?_ ?_ (nA Y) 0 (by omega) 20000 _ M (by omega) ⟨_, rfl, hS, Fr.rf⟩
  · rintro i hi G lv M' - ⟨o, rfl, hs, hf⟩ z
    have hR' : YR Y M' := hR.fr hf (fun c j h1 h2 => by omega)
    have hI' := SI_nit (m := md3 m) hI hN i (by omega)
    have hm := hN.mC hi
    have hnx : nit Y (md3 m) S (i + 1) = nitA Y (md3 m) (nit Y (md3 m) S i) i := rfl
    generalize nit Y (md3 m) S i = pp at *
    obtain ⟨T, cnt⟩ := pp
    dsimp only at *
    simp (disch := omega) only [e269_5, i_nat, Nat.add_zero, Nat.not_lt_zero, i_neg, i_lt, i_le, i_eq, i_add, i_addl, i_addr, i_mulr, i_mull, i_subl, i_pred, i_ltl, i_ltr, i_eql, i_em1, cIn_s, cVd_s, cLo_s, ic_true, ic_false, ic_same, i10, eq_self, b2_0, b2_1, b2_and, b2_t, b2_f, ck', sp197 hR' hN, hi, sp238 (d := d + 2) rfl hR' hN hs hI' hb hi]
    cases hu : up T i
    · simp only [cIn_s, cVd_s, cLo_s, ic_true, ic_false, ic_same]
      refine z _ _ _ (by omega) ⟨o, ?_, ?_, hf⟩
      · rw [hnx]; simp [nitA, hu]
      · rw [hnx]; simp only [nitA, hu]; exact hs
    · simp only [cIn_s, cVd_s, cLo_s, ic_true, ic_false, ic_same, Bool.true_eq_false]
      refine Hm_cIv (sp270 rfl hR' hN hL hs hI' hn hb hi hu) (fun M1 hf1 => ?_)
      have hs1 : SR Y T b M1 := hs.fr h6 hf1 (fun j h1 h2 => by omega)
      have hR1 : YR Y M1 := hR'.fr hf1 (fun c j h1 h2 => by omega)
      have hF1 : Fr (fun c j => c = 267 ∨ c = 268 ∨ (c = 269 ∧ b ≤ j ∧ j < b + 49)) M M1 := hf.tr (hf1.up (fun c j h => by omega))
      have hrv := melT_rg (m := md3 m) hI' hi
      have hz := los_0 (S := T) (a := i) (v := melT Y T i (md3 m)) ⟨hrv.1, by have := hrv.2; omega⟩ (hI'.a hi).2.2.2.1
      simp (disch := omega) only [i_nat, Nat.add_zero, Nat.not_lt_zero, i_neg, i_lt, i_le, i_eq, i_add, i_addl, i_addr, i_mulr, i_mull, i_subl, i_pred, i_ltl, i_ltr, i_eql, i_em1, cIn_s, cVd_s, cLo_s, ic_true, ic_false, ic_same, i10, eq_self, b2_0, b2_1, b2_and, b2_t, b2_f, ck', sI_eq, sI_eq', sI_ne, sJ_1, sR_1, hz]
      cases hl : losF T i (melT Y T i (md3 m))
      · simp only [cIn_s, cVd_s, cLo_s, ic_true, ic_false, ic_same, Bool.false_eq_true]
        refine z _ _ _ (by omega) ⟨o, ?_, ?_, hF1.sI (by omega)⟩
        · rw [hnx]; simp [nitA, hu, hl]
        · rw [hnx]; simp only [nitA, hu, hl, if_true, Bool.false_eq_true, if_false]; exact SR_los0 hs1 hN hi hl
      · have hs2 := SR_los1 hs1 hN hi hl
        have hR2 : YR Y (sI (sI M1 269 (b + 7 + i) (imax 0 (T 1 i - melT Y T i (md3 m)))) 269 (b + 1 + i) 2) := hR1.fr (W := fun c _ => c = 269) ((Fr.rf.sI (by omega)).sI (by omega)) (fun c j h1 h2 => by omega)
        have r4 := (hR2.1.2.2.2.1 i hi).2.2.2.2
        have r5 := (hs2.2.2.1 (mv Y i) (by omega)).1
        rw [losS_5] at r5
        simp (disch := omega) only [cIn_s, cVd_s, cLo_s, ic_true, ic_false, ic_same, sp198 (p := 4) 4 rfl, r4, hN.m hi, i_nat, Nat.add_zero, Nat.not_lt_zero, i_neg, i_lt, i_le, i_eq, i_add, i_addl, i_addr, i_mulr, i_mull, i_subl, i_pred, i_ltl, i_ltr, i_eql, i_em1, cIn_s, cVd_s, cLo_s, ic_true, ic_false, ic_same, i10, eq_self, b2_0, b2_1, b2_and, b2_t, b2_f, ck', r5]
        have hF2 : Fr (fun c j => c = 267 ∨ c = 268 ∨ (c = 269 ∧ b ≤ j ∧ j < b + 49)) M (sI (sI M1 269 (b + 7 + i) (imax 0 (T 1 i - melT Y T i (md3 m)))) 269 (b + 1 + i) 2) := (hF1.sI (by omega)).sI (by omega)
        refine Hm_ic (fun h => ?_) (fun h => ?_)
        · refine z _ _ _ (by omega) ⟨some (vI (Int32.ofNat (mv Y i))), ?_, ?_, hF2.sI (by omega)⟩
          · rw [hnx]; simp [nitA, hu, hl]
          · rw [hnx]; simp only [nitA, hu, hl, if_true]; exact SR_hur1 hs2 hN hi (by rw [losS_5]; exact h)
        · rw [sI_id]
          refine z _ _ _ (by omega) ⟨some (vI (Int32.ofNat (mv Y i))), ?_, ?_, hF2⟩
          · rw [hnx]; simp [nitA, hu, hl]
          · rw [hnx]; simp only [nitA, hu, hl, if_true, hurS, losS_5, h, if_false]; exact hs2
  · rintro G lv M' hG ⟨o, rfl, hs, hf⟩
    have hR' : YR Y M' := hR.fr hf (fun c j h1 h2 => by omega)
    simp (disch := omega) only [e269_5, i_nat, Nat.add_zero, Nat.not_lt_zero, i_neg, i_lt, i_le, i_eq, i_add, i_addl, i_addr, i_mulr, i_mull, i_subl, i_pred, i_ltl, i_ltr, i_eql, i_em1, cIn_s, cVd_s, cLo_s, ic_true, ic_false, ic_same, i10, eq_self, b2_0, b2_1, b2_and, b2_t, b2_f, ck', sp197 hR' hN, Nat.lt_irrefl]
    refine lp_for (d := d + 5) (x := 269) (pc := 137) 6 1 0 (by omega) (fun i lv M2 => ∃ o2 o5, lv = [some (vR 12 0 253), some (vI (Int32.ofNat b)), o2, some (vI (nit Y (md3 m) S (nA Y)).2), some (vI (Int32.ofNat i)), o5] ∧ (∀ c, c < i → M2.1 269 (b + 31 + c) = -1 ∧ M2.1 269 (b + 43 + c) = -1) ∧ (∀ j, (j < 31 ∨ (37 ≤ j ∧ j < 43)) → M2.1 269 (b + j) = M'.1 269 (b + j)) ∧ Fr (fun c j => c = 267 ∨ c = 268 ∨ (c = 269 ∧ b ≤ j ∧ j < b + 49)) M M2) ?_ ?_ 6 0 (by omega) _ _ M' (by omega) ⟨_, _, rfl, fun c hc => by omega, fun j _ => rfl, hf⟩
    · rintro i hi G2 lv M2 - ⟨o2, o5, rfl, hc, ho, hf2⟩ z
      simp (disch := omega) only [e269_137, i_nat, Nat.add_zero, Nat.not_lt_zero, i_neg, i_lt, i_le, i_eq, i_add, i_addl, i_addr, i_mulr, i_mull, i_subl, i_pred, i_ltl, i_ltr, i_eql, i_em1, cIn_s, cVd_s, cLo_s, ic_true, ic_false, ic_same, i10, eq_self, b2_0, b2_1, b2_and, b2_t, b2_f, ck', hi]
      refine z _ _ _ (by omega) ⟨_, _, rfl, fun c hc2 => ?_, fun j hj => ?_, (hf2.sI (by omega)).sI (by omega)⟩
      · by_cases y : c = i
        · subst y; simp (disch := omega) only [sI_eq, sI_eq', sI_ne, sJ_1, sR_1, and_self]
        · simp (disch := omega) only [sI_eq, sI_eq', sI_ne, sJ_1, sR_1, hc c (by omega), and_self]
      · simp (disch := omega) only [sI_ne, ho j hj]
    · rintro G2 lv M2 - ⟨o2, o5, rfl, hc, ho, hf2⟩
      simp (disch := omega) only [e269_137, i_nat, Nat.add_zero, Nat.not_lt_zero, i_neg, i_lt, i_le, i_eq, i_add, i_addl, i_addr, i_mulr, i_mull, i_subl, i_pred, i_ltl, i_ltr, i_eql, i_em1, cIn_s, cVd_s, cLo_s, ic_true, ic_false, ic_same, i10, eq_self, b2_0, b2_1, b2_and, b2_t, b2_f, ck', Nat.lt_irrefl]
      exact Hm_some ⟨rfl, SR_end hs hN hc ho, hf2.sI (by omega)⟩
end REF2
