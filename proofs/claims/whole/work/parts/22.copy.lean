/-! THE CLASS'S STATES copied and begun; in how many nights ice falls -/
section COPY
variable {d : Nat} {Y S : YT} {k k' : Nat} {M : Mem} {p q v m : Int32} {a s n c b : Nat} {tall props deg done : Int32}
theorem cp_eq {M : Mem} {a b n j : Nat} (h : j < n) : (cpI M a 0 b 0 n).1 b j = M.1 a j := by
  simp only [cpI, va_cpy, if_true, Nat.zero_le, Nat.zero_add, h, and_self, Nat.sub_zero]
theorem cp_ne {M : Mem} {a b sp dp n c j : Nat} (h : c ≠ b) : (cpI M a sp b dp n).1 c j = M.1 c j := by
  simp only [cpI, h, if_false]
theorem Fr.cp {W : Nat → Nat → Prop} {M M' : Mem} {a sp b dp n : Nat} (h : Fr W M M') (hw : ∀ j, W b j) : Fr W M (cpI M' a sp b dp n) := fun c i hn => by
  have h2 : c ≠ b := fun z => hn (z ▸ hw i)
  exact ⟨(cp_ne h2).trans (h c i hn).1, (h c i hn).2⟩
theorem sp121 (hS : SC S k' M) (hk : k + 6 < k' ∨ k' + 6 < k) : Hm (evD (d + 1) 121 [vR 6 0 k, vR 6 0 k'] M) (fun r M' => r = none ∧ SC S k M' ∧ Fr (fun c _ => k ≤ c ∧ c ≤ k + 6) M M') := by
  obtain ⟨⟨a0, a7, a8, a9⟩, hr⟩ := hS
  rw [e121]
  refine Hm_some ⟨rfl, ⟨⟨?_, ?_, ?_, ?_⟩, fun i hi => ?_⟩, ?_⟩
  · simp (disch := omega) only [sI_ne, sI_eq', cp_ne, a0]
  · simp (disch := omega) only [sI_ne, sI_eq', cp_ne, a7]
  · simp (disch := omega) only [sI_ne, sI_eq', cp_ne, a8]
  · simp (disch := omega) only [sI_ne, sI_eq', cp_ne, a9]
  · obtain ⟨r1, r2, r3, r4, r5, r6⟩ := hr i hi
    simp (disch := omega) only [sI_ne, cp_ne, cp_eq, r1, r2, r3, r4, r5, r6, and_self]
  · exact (((((((((Fr.rf.sI (by omega)).cp (fun j => by omega)).cp (fun j => by omega)).cp (fun j => by omega)).cp (fun j => by omega)).cp (fun j => by omega)).cp (fun j => by omega)).sI (by omega)).sI (by omega)).sI (by omega)
theorem sp5 (hY : YC Y M) (hk : 25 < k) : Hm (evD (d + 2) 5 [vR 6 0 k] M) (fun r M' => r = none ∧ SC (staS Y) k M' ∧ Fr (fun c _ => k ≤ c ∧ c ≤ k + 6) M M') := by
  simp (disch := omega) only [e5, sp2, cVd_s]
  refine Hm_some ⟨rfl, ⟨⟨?_, ?_, ?_, ?_⟩, fun i hi => ⟨?_, ?_, ?_, ?_, ?_, ?_⟩⟩, ?_⟩
  · simp (disch := omega) only [sI_ne, sI_eq', flI_ne, cp_ne]; rfl
  · simp (disch := omega) only [sI_ne, sI_eq']; rfl
  · simp (disch := omega) only [sI_ne, sI_eq']; rfl
  · simp (disch := omega) only [sI_ne, sI_eq']; rfl
  · simp (disch := omega) only [sI_ne, flI_ne, cp_eq, hY]; rfl
  · simp (disch := omega) only [sI_ne, flI_ne, flI_eq]; rfl
  · simp (disch := omega) only [sI_ne, flI_ne, flI_eq]; rfl
  · simp (disch := omega) only [sI_ne, flI_ne, flI_eq]; rfl
  · simp (disch := omega) only [sI_ne, flI_ne, flI_eq]; rfl
  · simp (disch := omega) only [sI_ne, flI_ne, flI_eq]; rfl
  · exact ((((((((((Fr.rf.sI (by omega)).cp (fun j => by omega)).flI (fun j _ => by omega)).flI (fun j _ => by omega)).flI (fun j _ => by omega)).flI (fun j _ => by omega)).flI (fun j _ => by omega))).sI (by omega)).sI (by omega)).sI (by omega)
theorem sp148 (hY : YC Y M) (hN : YN Y) (hL : YL Y) (ha : a < 6) (hs : s < 6) (hn : n < 100000) (hm : c ≤ 1000) :
    Hm (evD (d + 5) 148 [vR 9 0 3, vI (Int32.ofNat a), vI (Int32.ofNat s), vI tall, vI props, vI (Int32.ofNat n), vI (Int32.ofNat c)] M) (fun r M' => r = some (vI (Int32.ofNat (fall Y a s props n tall 0 c))) ∧ Fr (fun c _ => c = 22) M M') := by
  rw [e148]; simp only [lp0_eq]
  refine lp_for (d := d + 4) (x := 148) (pc := 6) c 1 0 (by omega) (fun i lv M' => ∃ o t, lv = [some (vR 9 0 3), some (vI (Int32.ofNat a)), some (vI (Int32.ofNat s)), o, some (vI props), some (vI (Int32.ofNat n)), some (vI (Int32.ofNat c)), some (vI t), some (vI (Int32.ofNat i))] ∧ fall Y a s props n tall 0 c = fall Y a s props n t i (c - i) ∧ Fr (fun c _ => c = 22) M M') ?_ ?_ c 0 (by omega) 20000 _ M (by omega) ⟨_, _, rfl, rfl, Fr.rf⟩
  · rintro i hi G lv M' - ⟨o, t, rfl, hq, hf⟩ z
    have hY' : YC Y M' := hY.fr hf (fun c j hc => by unfold yc at hc; omega)
    simp (disch := omega) only [e148_6, i_nat, Nat.add_zero, Nat.not_lt_zero, i_neg, i_lt, i_le, i_eq, i_add, i_addl, i_addr, i_mulr, i_mull, i_subl, i_pred, i_ltl, i_ltr, i_eql, i_em1, cIn_s, cVd_s, cLo_s, ic_true, ic_false, ic_same, i10, eq_self, b2_0, b2_1, b2_and, b2_t, b2_f, ck', hi, sp101 hY' hN]
    refine Hm_cIv (sp103 hY' hL ha hs) (fun M1 hf1 => ?_)
    have hs1 : fall Y a s props n t i (c - i) = if 0 < t - melP Y a s t props (warm Y (n + i)) then fall Y a s props n (t - melP Y a s t props (warm Y (n + i))) (i + 1) (c - (i + 1)) else i + 1 := by
      obtain ⟨e, he⟩ : ∃ e, c - i = e + 1 := ⟨c - i - 1, by omega⟩
      rw [he, show c - (i + 1) = e by omega]; rfl
    rw [hs1] at hq
    refine Hm_ic (fun h => ?_) (fun h => ?_)
    · rw [if_pos h] at hq
      exact z _ _ _ (by omega) ⟨_, _, rfl, hq, hf.tr hf1⟩
    · rw [if_neg h] at hq
      exact Hm_some ⟨by rw [hq], hf.tr hf1⟩
  · rintro G lv M' - ⟨o, t, rfl, hq, hf⟩
    simp (disch := omega) only [e148_6, i_nat, Nat.add_zero, Nat.not_lt_zero, i_neg, i_lt, i_le, i_eq, i_add, i_addl, i_addr, i_mulr, i_mull, i_subl, i_pred, i_ltl, i_ltr, i_eql, i_em1, cIn_s, cVd_s, cLo_s, ic_true, ic_false, ic_same, i10, eq_self, b2_0, b2_1, b2_and, b2_t, b2_f, ck', Nat.lt_irrefl]
    rw [Nat.sub_self] at hq
    exact Hm_some ⟨by rw [hq]; rfl, hf⟩
theorem sp147 (hY : YC Y M) (hN : YN Y) (hL : YL Y) (hS : SC S k M) (hI : SI Y b S) (hb : b < 100000) (ha : a < nA Y) (hu : up S a = true) (hm : c ≤ 1000) :
    Hm (evD (d + 6) 147 [vR 6 0 k, vI (Int32.ofNat a), vI props, vI (Int32.ofNat c)] M) (fun r M' => r = some (vI (Int32.ofNat (fall Y a (spt S a) props (nnt S) (S 1 a) 0 c))) ∧ Fr (fun c _ => c = 22) M M') := by
  have h6 := hN.A6
  have hB := hN.B6
  have hn := hI.nb
  obtain ⟨e1, e2, -⟩ := hI.sp ha hu
  simp (disch := omega) only [e147, i_nat, Nat.add_zero, Nat.not_lt_zero, i_neg, i_lt, i_le, i_eq, i_add, i_addl, i_addr, i_mulr, i_mull, i_subl, i_pred, i_ltl, i_ltr, i_eql, i_em1, cIn_s, cVd_s, cLo_s, ic_true, ic_false, ic_same, i10, eq_self, b2_0, b2_1, b2_and, b2_t, b2_f, ck', hS, hI.n, e1]
  exact Hm_cIv (sp148 hY hN hL (by omega) (by omega) (by omega) hm) (fun M1 hf => Hm_some ⟨rfl, hf⟩)
end COPY
