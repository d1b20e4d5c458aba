/-! THE CLASS'S STATES: what its methods answer, what they leave -/
section ARI
theorem t_lit {n : Nat} (h : n < 2147483648) : (no_index (OfNat.ofNat n : Int32)).toInt = n := i_toInt h
theorem t_lt {a b : Int32} : (a < b) = (a.toInt < b.toInt) := propext Int32.lt_iff_toInt_lt
theorem t_le {a b : Int32} : (a ≤ b) = (a.toInt ≤ b.toInt) := propext Int32.le_iff_toInt_le
theorem t_eq {a b : Int32} : (a = b) = (a.toInt = b.toInt) := propext Int32.toInt_inj.symm
theorem bm {x : Int} (h1 : -2147483648 ≤ x) (h2 : x < 2147483648) : x.bmod (2 ^ 32) = x := Int.bmod_eq_of_le (by omega) (by omega)
theorem t_add {a b : Int32} (h1 : -2147483648 ≤ a.toInt + b.toInt) (h2 : a.toInt + b.toInt < 2147483648) : (a + b).toInt = a.toInt + b.toInt := by rw [Int32.toInt_add, bm h1 h2]
theorem t_sub {a b : Int32} (h1 : -2147483648 ≤ a.toInt - b.toInt) (h2 : a.toInt - b.toInt < 2147483648) : (a - b).toInt = a.toInt - b.toInt := by rw [Int32.toInt_sub, bm h1 h2]
theorem t_max {a b : Int32} : (imax a b).toInt = max a.toInt b.toInt := by
  unfold imax; split
  · rename_i h; rw [t_lt] at h; omega
  · rename_i h; rw [t_lt] at h; omega
theorem t_min {a b : Int32} : (imin a b).toInt = min a.toInt b.toInt := by
  unfold imin; split
  · rename_i h; rw [t_lt] at h; omega
  · rename_i h; rw [t_lt] at h; omega
theorem t_m1 : (-1 : Int32).toInt = -1 := by decide
theorem t_0 : (0 : Int32).toInt = 0 := by decide
theorem t_1 : (1 : Int32).toInt = 1 := by decide
theorem i_div {n w : Nat} (hn : n < 2147483648) (hw : w < 2147483648) (h0 : 0 < w) : Int32.ofNat n / Int32.ofNat w = Int32.ofNat (n / w) := by
  have h1 : n / w < 2147483648 := Nat.lt_of_le_of_lt (Nat.div_le_self _ _) hn
  rw [← Int32.toInt_inj, Int32.toInt_div, i_toInt hn, i_toInt hw, i_toInt h1]
  have : ((n : Int).tdiv (w : Int)) = ((n / w : Nat) : Int) := (Int.ofNat_tdiv n w).symm
  rw [this]
  generalize n / w = q at *
  exact bm (by omega) (by omega)
theorem i_xor {n w : Nat} (hn : n < 2147483648) (hw : w < 2147483648) : (Int32.ofNat n ^^^ Int32.ofNat w < 0) = False := by
  have key : ∀ x : Int32, ¬ x < 0 → x.toBitVec.msb = false := fun x hx => by
    rw [BitVec.msb_eq_toInt]; rw [t_lt, t_0] at hx; simpa using hx
  have h3 : (Int32.ofNat n ^^^ Int32.ofNat w).toBitVec.msb = false := by
    rw [Int32.toBitVec_xor, BitVec.msb_xor, key _ (i_neg hn), key _ (i_neg hw)]; rfl
  rw [BitVec.msb_eq_toInt] at h3
  rw [t_lt, t_0]
  simp only [decide_eq_false_iff_not] at h3
  exact eq_false h3
end ARI
section STATE
/-- a state with one number changed -/
def us (S : YT) (j i : Nat) (v : Int32) : YT := fun a b => if a = j ∧ b = i then v else S a b
def fls (S : YT) (j : Nat) (v : Int32) : YT := fun a b => if a = j ∧ b < 6 then v else S a b
def flI (M : Mem) (k n : Nat) (v : Int32) : Mem := (fun a b => if a = k ∧ b < n then v else M.1 a b, M.2)
theorem us_eq {S : YT} {j i : Nat} {v : Int32} : us S j i v j i = v := by simp [us]
theorem us_eq' {S : YT} {j i a b : Nat} {v : Int32} (h1 : a = j) (h2 : b = i) : us S j i v a b = v := by subst h1 h2; exact us_eq
theorem us_ne {S : YT} {j i a b : Nat} {v : Int32} (h : a ≠ j ∨ b ≠ i) : us S j i v a b = S a b := by
  unfold us; rw [if_neg]; omega
theorem fls_eq {S : YT} {j b : Nat} {v : Int32} (h : b < 6) : fls S j v j b = v := by simp [fls, h]
theorem fls_ne {S : YT} {j a b : Nat} {v : Int32} (h : a ≠ j) : fls S j v a b = S a b := by simp [fls, h]
theorem flI_eq {M : Mem} {k n b : Nat} {v : Int32} (h : b < n) : (flI M k n v).1 k b = v := by simp [flI, h]
theorem flI_ne {M : Mem} {k n a b : Nat} {v : Int32} (h : a ≠ k ∨ n ≤ b) : (flI M k n v).1 a b = M.1 a b := by
  simp only [flI]; rw [if_neg]; omega
theorem Fr.flI {W : Nat → Nat → Prop} {M M' : Mem} {k n : Nat} {v : Int32} (h : Fr W M M') (hw : ∀ j, j < n → W k j) : Fr W M (flI M' k n v) := fun c i hn => by
  have h2 : c ≠ k ∨ n ≤ i := by
    by_cases z : c = k
    · right; subst z
      by_cases y : i < n
      · exact (hn (hw i y)).elim
      · omega
    · exact .inl z
  exact ⟨(flI_ne h2).trans (h c i hn).1, (h c i hn).2⟩
theorem SC.s0 {S : YT} {k : Nat} {M : Mem} (h : SC S k M) (i : Nat) (v : Int32) : SC (us S 0 i v) k (sI M k i v) := by
  obtain ⟨⟨a0, a7, a8, a9⟩, hr⟩ := h
  refine ⟨?_, fun j hj => ?_⟩
  · simp only [sI, us, true_and, a0, a7, a8, a9, and_self]
  · simp (disch := omega) only [sI_ne, us_ne, hr j hj, and_self]
theorem SC.s1 {S : YT} {k : Nat} {M : Mem} (h : SC S k M) (j i : Nat) (v : Int32) (h1 : 1 ≤ j) : SC (us S j i v) k (sI M (k + j) i v) := by
  obtain ⟨⟨a0, a7, a8, a9⟩, hr⟩ := h
  refine ⟨?_, fun b hb => ?_⟩
  · simp (disch := omega) only [sI_ne, us_ne, a0, a7, a8, a9, and_self]
  · obtain ⟨r1, r2, r3, r4, r5, r6⟩ := hr b hb
    simp only [sI, us, Nat.add_left_cancel_iff, r1, r2, r3, r4, r5, r6, and_self]
theorem SC.f {S : YT} {k : Nat} {M : Mem} (h : SC S k M) (j : Nat) (v : Int32) (h1 : 1 ≤ j) : SC (fls S j v) k (flI M (k + j) 6 v) := by
  obtain ⟨⟨a0, a7, a8, a9⟩, hr⟩ := h
  refine ⟨?_, fun b hb => ?_⟩
  · simp (disch := omega) only [flI_ne, fls_ne, a0, a7, a8, a9, and_self]
  · obtain ⟨r1, r2, r3, r4, r5, r6⟩ := hr b hb
    simp only [flI, fls, Nat.add_left_cancel_iff, r1, r2, r3, r4, r5, r6, and_self]
theorem flI_s {M : Mem} {k i : Nat} {v : Int32} : sI (flI M k i v) k i v = flI M k (i + 1) v := by
  refine Prod.ext ?_ rfl
  funext a b
  simp only [sI, flI]
  by_cases h : a = k
  · subst h
    simp only [true_and]
    by_cases h2 : b = i
    · simp [h2]
    · simp only [h2, if_false]
      by_cases h3 : b < i
      · simp [h3, show b < i + 1 by omega]
      · simp [h3, show ¬ b < i + 1 by omega]
  · simp [h]
theorem flI_0 {M : Mem} {k : Nat} {v : Int32} : flI M k 0 v = M := by
  refine Prod.ext ?_ rfl
  funext a b
  simp [flI]
theorem sp2 {d n k : Nat} {v : Int32} {M : Mem} (hn : n ≤ 1000) : evD (d + 1) 2 [vR 20 n k, vI v] M = some (none, flI M k n v) := by
  have h : Hm (evD (d + 1) 2 [vR 20 n k, vI v] M) (fun r M' => r = none ∧ M' = flI M k n v) := by
    rw [e2]; simp only [lp0_eq]
    refine lp_for (d := d) (x := 2) (pc := 5) n 1 0 (by omega) (fun i lv M' => lv = [some (vR 20 n k), some (vI v), some (vI (Int32.ofNat i)), some (vI (Int32.ofNat n))] ∧ M' = flI M k i v) ?_ ?_ n 0 (by omega) 20000 _ M (by omega) ⟨rfl, flI_0.symm⟩
    · rintro i hi G lv M' - ⟨rfl, rfl⟩ q
      simp (disch := omega) only [e2_5, i_nat, Nat.add_zero, Nat.not_lt_zero, i_neg, i_lt, i_le, i_eq, i_add, i_addl, i_addr, i_mulr, i_mull, i_subl, i_pred, i_ltl, i_ltr, i_eql, i_em1, cIn_s, cVd_s, cLo_s, ic_true, ic_false, ic_same, i10, eq_self, b2_0, b2_1, b2_and, b2_t, b2_f, ck', hi]
      exact q _ _ _ (by omega) ⟨rfl, flI_s⟩
    · rintro G lv M' - ⟨rfl, rfl⟩
      simp (disch := omega) only [e2_5, i_nat, Nat.add_zero, Nat.not_lt_zero, i_neg, i_lt, i_le, i_eq, i_add, i_addl, i_addr, i_mulr, i_mull, i_subl, i_pred, i_ltl, i_ltr, i_eql, i_em1, cIn_s, cVd_s, cLo_s, ic_true, ic_false, ic_same, i10, eq_self, b2_0, b2_1, b2_and, b2_t, b2_f, ck', Nat.lt_irrefl]
      exact Hm_some ⟨rfl, rfl⟩
  obtain ⟨a, M', h1, h2, h3⟩ := h
  rw [h1, h2, h3]
/-! melting, carving -/
def nM (Y : YT) : Nat := (Y 20 2).toNatClampNeg
def nK (Y : YT) : Nat := (Y 23 2).toNatClampNeg
/-- the laws of a yard -/
def YL (Y : YT) : Prop := Y 20 2 = Int32.ofNat (nM Y) ∧ LW (Y 21) (nM Y) ∧ Y 23 2 = Int32.ofNat (nK Y) ∧ LW (Y 24) (nK Y)
def warm (Y : YT) (n : Nat) : Int32 := if Y 3 14 < 1 then 3 else Y 19 (n % nW Y)
def mel0 (Y : YT) (a s : Nat) (tall deg : Int32) : Int32 :=
  if Y 13 a = 1 then imax 0 (imin 9 (lawv (Y 21) (nM Y) deg (Y 10 s) tall)) + 1
  else if Y 13 a = 2 then imax 0 (imin 9 (lawv (Y 21) (nM Y) deg (Y 10 s) tall)) / 2
  else imax 0 (imin 9 (lawv (Y 21) (nM Y) deg (Y 10 s) tall))
def melP (Y : YT) (a s : Nat) (tall props deg : Int32) : Int32 := if Y 13 a = 3 ∧ ¬ Y 10 s < 5 then 0 else imax 0 (mel0 Y a s tall deg - props)
def chp (Y : YT) (c : Nat) (tall done : Int32) : Int32 := imin 99 (done + imax 0 (imin 99 (lawv (Y 24) (nK Y) (Y 12 c) tall done)))
section
variable {d : Nat} {Y S : YT} {k : Nat} {M : Mem} {p : Int32} {a s n c : Nat} {tall props deg done : Int32}
theorem sp102 {w : Nat} (hn : n < 2147483648) (hw : w < 2147483648) (h0 : 0 < w) : evD (d + 1) 102 [vI (Int32.ofNat n), vI (Int32.ofNat w)] M = some (some (vI (Int32.ofNat (n % w))), M) := by
  have h1 : n / w * w ≤ n := Nat.div_mul_le_self n w
  have h2 : n - n / w * w = n % w := by rw [Nat.mul_comm]; exact (Nat.mod_eq_sub_mul_div).symm
  simp (disch := omega) only [e102, i_nat, Nat.add_zero, Nat.not_lt_zero, i_neg, i_lt, i_le, i_eq, i_add, i_addl, i_addr, i_mulr, i_mull, i_subl, i_pred, i_ltl, i_ltr, i_eql, i_em1, cIn_s, cVd_s, cLo_s, ic_true, ic_false, ic_same, i10, eq_self, b2_0, b2_1, b2_and, b2_t, b2_f, ck', i_div, i_mul, i_sub, i_xor, h2, show (w = 0) = False by simp; omega]
theorem sp101 (hY : YC Y M) (hN : YN Y) (hn : n < 1000000) : evD (d + 2) 101 [vR 9 0 3, vI (Int32.ofNat n)] M = some (some (vI (warm Y n)), M) := by
  have h14 := hN.W14
  rw [e101]
  simp only [hY, hN.W]
  unfold warm
  rw [hN.W]
  simp (disch := omega) only [i_nat, Nat.add_zero, Nat.not_lt_zero, i_neg, i_lt, i_le, i_eq, i_add, i_addl, i_addr, i_mulr, i_mull, i_subl, i_pred, i_ltl, i_ltr, i_eql, i_em1]
  by_cases h : nW Y < 1
  · simp only [h, ic_true, if_true]
  · have hm : n % nW Y < nW Y := Nat.mod_lt _ (by omega)
    generalize hw : nW Y = w at *
    simp only [h, ic_false, if_false, sp102 (show n < 2147483648 by omega) (show w < 2147483648 by omega) (show 0 < w by omega), cIn_s]
    generalize n % w = q at *
    simp (disch := omega) only [i_nat, Nat.add_zero, Nat.not_lt_zero, i_neg, i_lt, i_le, i_eq, i_add, i_addl, i_addr, i_mulr, i_mull, i_subl, i_pred, i_ltl, i_ltr, i_eql, i_em1, cIn_s, cVd_s, cLo_s, ic_true, ic_false, ic_same, i10, eq_self, b2_0, b2_1, b2_and, b2_t, b2_f, ck', Nat.reduceAdd, hY]
theorem sp103 (hY : YC Y M) (hL : YL Y) (ha : a < 6) (hs : s < 6) :
    Hm (evD (d + 4) 103 [vR 9 0 3, vI (Int32.ofNat a), vI (Int32.ofNat s), vI tall, vI props, vI deg] M) (fun r M' => r = some (vI (melP Y a s tall props deg)) ∧ Fr (fun c _ => c = 22) M M') := by
  have main : ∀ F o, 10 ≤ F → ¬ (Y 13 a = 3 ∧ ¬ Y 10 s < 5) → Hm (lp (d + 3) 103 F 26 [some (vR 9 0 3), some (vI (Int32.ofNat a)), some (vI (Int32.ofNat s)), some (vI tall), some (vI props), some (vI deg), o] M) (fun r M' => r = some (vI (melP Y a s tall props deg)) ∧ Fr (fun c _ => c = 22) M M') := by
    intro F o hF h
    obtain ⟨G, rfl⟩ : ∃ G, F = G + 10 := ⟨F - 10, by omega⟩
    simp (disch := omega) only [e103_26, i_nat, Nat.add_zero, Nat.not_lt_zero, i_neg, i_lt, i_le, i_eq, i_add, i_addl, i_addr, i_mulr, i_mull, i_subl, i_pred, i_ltl, i_ltr, i_eql, i_em1, cIn_s, cVd_s, cLo_s, ic_true, ic_false, ic_same, i10, eq_self, b2_0, b2_1, b2_and, b2_t, b2_f, ck']
    have hl := sp104 (d := d + 1) (kL := 20) (n := nM Y) (x := deg) (y := M.1 (3 + 7) s) (z := tall) (M := M) (by rw [← hL.1, hY.2.2.2.2.2.2.2.2.2.2.2.2.2.2.1]) (by have := hL.2.1; rw [show (20 + 1) = 21 from rfl, hY.2.2.2.2.2.2.2.2.2.2.2.2.2.2.2.1]; exact this)
    refine Hm_cIv hl (fun M1 hf => ?_)
    have hY1 : YC Y M1 := hY.fr hf (fun c j hc => by unfold yc at hc; omega)
    simp (disch := omega) only [sp22, sp21, i_nat, Nat.add_zero, Nat.not_lt_zero, i_neg, i_lt, i_le, i_eq, i_add, i_addl, i_addr, i_mulr, i_mull, i_subl, i_pred, i_ltl, i_ltr, i_eql, i_em1, cIn_s, cVd_s, cLo_s, ic_true, ic_false, ic_same, i10, eq_self, b2_0, b2_1, b2_and, b2_t, b2_f, ck', Nat.reduceAdd, hY, hY1, melP, h, if_false]
    refine Hm_ic (fun h1 => ?_) (fun h1 => ?_)
    · simp (disch := omega) only [e103_85, sp21, cIn_s]
      exact Hm_some ⟨by simp only [mel0, h1, if_true], hf⟩
    · refine Hm_ic (fun h2 => ?_) (fun h2 => ?_)
      · simp (disch := omega) only [e103_85, sp21, cIn_s]
        exact Hm_some ⟨by simp [mel0, h2], hf⟩
      · simp (disch := omega) only [e103_85, sp21, cIn_s]
        exact Hm_some ⟨by simp only [mel0, h1, h2, if_false], hf⟩
  simp (disch := omega) only [e103, i_nat, Nat.add_zero, Nat.not_lt_zero, i_neg, i_lt, i_le, i_eq, i_add, i_addl, i_addr, i_mulr, i_mull, i_subl, i_pred, i_ltl, i_ltr, i_eql, i_em1, cIn_s, cVd_s, cLo_s, ic_true, ic_false, ic_same, i10, eq_self, b2_0, b2_1, b2_and, b2_t, b2_f, ck', Nat.reduceAdd, hY, lp0_eq]
  refine Hm_ic (fun h1 => ?_) (fun h1 => main _ _ (by omega) (fun z => h1 z.1))
  refine Hm_ic (fun h2 => main _ _ (by omega) (fun z => z.2 h2)) (fun h2 => ?_)
  simp only [e103_24]
  exact Hm_some ⟨by simp only [melP, h1, h2, not_false_eq_true, and_self, if_true], Fr.rf⟩
end
end STATE
