/-! mend -/
section RO5
variable {Y N S : YT} {t a s n c b d : Nat} {M : Mem} {p q x f set : Int32}
theorem rg_nat {k : Int} (h : rg x 0 k) : x = Int32.ofNat x.toNatClampNeg := by
  have h1 := h.1
  have h2 : x.toInt < 2147483648 := Int32.toInt_lt x
  rw [t_eq, Int32.toNatClampNeg, i_toInt (by omega)]; omega
theorem rg_le {k : Nat} (h : rg x 0 k) : x.toNatClampNeg ≤ k := by
  have h1 := h.1
  have h2 := h.2
  rw [Int32.toNatClampNeg]; omega
def worN (Y : YT) (set : Int32) : Nat := sm (fun a => if bt set a then (Y 16 a).toNatClampNeg else 0) (nA Y)
theorem wor_N (hG : YG Y) : wor Y set = Int32.ofNat (worN Y set) := by
  have : ∀ n, n ≤ nA Y → rf (fun x a => x + (if bt set a then Y 16 a else 0)) 0 n = Int32.ofNat (sm (fun a => if bt set a then (Y 16 a).toNatClampNeg else 0) n) := by
    intro n
    induction n with
    | zero => intro _; rfl
    | succ n ih =>
      intro hn
      have hg := (hG.1 n (by omega)).2.2
      simp only [rf, sm]
      rw [ih (by omega)]
      split
      · rw [← i_add, ← rg_nat hg]
      · rw [Int32.add_zero, Nat.add_zero]
  exact this _ (Nat.le_refl _)
theorem worN_bd (hn : YN Y) (hG : YG Y) : worN Y set ≤ 600 := by
  have h6 := hn.A6
  have := sm_bd (f := fun a => if bt set a then (Y 16 a).toNatClampNeg else 0) (k := 99) (nA Y) (fun a ha => by
    split
    · exact rg_le (hG.1 a ha).2.2
    · omega)
  unfold worN; omega
theorem worN_mono {set' : Int32} (hn : YN Y) (h : ∀ e, e < 32 → bt set e = true → bt set' e = true) : worN Y set ≤ worN Y set' := by
  have h6 := hn.A6
  refine sm_le _ (fun a ha => ?_)
  cases hs : bt set a
  · simp
  · rw [h a (by omega) hs]; simp
theorem bt_nat {e : Nat} (hn : n < 4294967296) : bt (Int32.ofNat n) e = n.testBit e := by
  unfold bt
  rw [Int32.toBitVec_ofNat']
  show (BitVec.ofNat 32 n).toNat.testBit e = _
  rw [BitVec.toNat_ofNat, Nat.mod_eq_of_lt (by omega)]
theorem sub_bits (h : Int32.ofNat n &&& (f ^^^ (-1)) = 0) {e : Nat} (he : e < 32) (hb : bt (Int32.ofNat n) e = true) : bt f e = true := by
  have : bt (Int32.ofNat n &&& (f ^^^ (-1))) e = false := by rw [h, bt_0]
  rw [bt_and, bt_not he, hb] at this
  revert this; cases bt f e <;> simp
def okS (Y : YT) (f : Int32) (k : Nat) : Bool := decide (Int32.ofNat k &&& (f ^^^ (-1)) = 0) && decide (clS Y (f &&& (Int32.ofNat k ^^^ (-1))) = 0)
def mC (Y : YT) (f : Int32) (p : Int32 × Nat) (k : Nat) : Int32 × Nat := if okS Y f k && decide (worN Y (Int32.ofNat k) < p.2) then (Int32.ofNat k, worN Y (Int32.ofNat k)) else p
def mR (Y : YT) (f : Int32) (p : Int32) (k : Nat) : Int32 := if okS Y f k && (decide (p < 0) || decide (worN Y (Int32.ofNat k) < worN Y p)) then Int32.ofNat k else p
def mCn (Y : YT) (f : Int32) : Nat → Int32 × Nat := rf (mC Y f) (f, worN Y f + 1)
def mRn (Y : YT) (f : Int32) : Nat → Int32 := rf (mR Y f) (-1)
theorem mCR (hn : YN Y) : ∀ n, n ≤ 64 → (mRn Y f n = -1 ∧ mCn Y f n = (f, worN Y f + 1) ∧ ∀ k, k < n → okS Y f k = false) ∨ ∃ k, k < 64 ∧ mRn Y f n = Int32.ofNat k ∧ mCn Y f n = (Int32.ofNat k, worN Y (Int32.ofNat k))
  | 0, _ => .inl ⟨rfl, rfl, fun k hk => by omega⟩
  | n + 1, h => by
    have ih := mCR hn n (by omega)
    have eR : mRn Y f (n + 1) = mR Y f (mRn Y f n) n := rfl
    have eC : mCn Y f (n + 1) = mC Y f (mCn Y f n) n := rfl
    rw [eR, eC]
    cases ho : okS Y f n
    · have e1 : ∀ p, mR Y f p n = p := fun p => by simp [mR, ho]
      have e2 : ∀ p, mC Y f p n = p := fun p => by simp [mC, ho]
      rw [e1, e2]
      rcases ih with ⟨i1, i2, i3⟩ | i
      · refine .inl ⟨i1, i2, fun k hk => ?_⟩
        by_cases z : k = n
        · subst z; exact ho
        · exact i3 k (by omega)
      · exact .inr i
    · rcases ih with ⟨i1, i2, -⟩ | ⟨k, hk, i1, i2⟩
      · rw [i1, i2]
        have hs : worN Y (Int32.ofNat n) < worN Y f + 1 := by
          have : worN Y (Int32.ofNat n) ≤ worN Y f := worN_mono hn (fun e he hb => sub_bits (by simp only [okS, Bool.and_eq_true, decide_eq_true_eq] at ho; exact ho.1) he hb)
          omega
        refine .inr ⟨n, by omega, ?_, ?_⟩
        · simp [mR, ho, show ((-1 : Int32) < 0) by decide]
        · simp [mC, ho, hs]
      · rw [i1, i2]
        have hk0 : ¬ Int32.ofNat k < 0 := i_neg (by omega)
        by_cases hl : worN Y (Int32.ofNat n) < worN Y (Int32.ofNat k)
        · exact .inr ⟨n, by omega, by simp [mR, ho, hl], by simp [mC, ho, hl]⟩
        · exact .inr ⟨k, hk, by simp only [mR, ho, hl, hk0, decide_false, Bool.or_self, Bool.and_false]; rfl, by simp [mC, ho, hl]⟩
theorem okS_big (h : ∀ e, e < 32 → bt f e = true → e < a) (hk : 2 ^ a ≤ n) (h64 : n < 64) : okS Y f n = false := by
  unfold okS
  by_cases h0 : Int32.ofNat n &&& (f ^^^ (-1)) = 0
  · exfalso
    have : n < 2 ^ a := Nat.lt_pow_two_of_testBit _ (fun i hi => by
      by_cases h32 : i < 32
      · cases hb : n.testBit i
        · rfl
        · rw [← bt_nat (show n < 4294967296 by omega)] at hb
          have := h i h32 (sub_bits h0 h32 hb); omega
      · exact Nat.testBit_lt_two_pow (Nat.lt_of_lt_of_le h64 (by
          have : (64 : Nat) = 2 ^ 6 := rfl
          rw [this]; exact Nat.pow_le_pow_right (by omega) (by omega))))
    omega
  · simp only [h0, decide_false, Bool.false_and]
theorem mC_stop (h : ∀ e, e < 32 → bt f e = true → e < a) : ∀ j, 2 ^ a + j ≤ 64 → mCn Y f (2 ^ a + j) = mCn Y f (2 ^ a)
  | 0, _ => rfl
  | j + 1, hj => by
    have ih := mC_stop h j (by omega)
    show mC Y f (mCn Y f (2 ^ a + j)) (2 ^ a + j) = _
    rw [ih]
    have := okS_big (Y := Y) (n := 2 ^ a + j) h (by omega) (by omega)
    simp [mC, this]
theorem clS_0 : clS Y 0 = 0 := by
  unfold clS
  rw [sm_cong (g := fun _ => 0) _ (fun a _ => ?_), sm_zero]
  rw [sm_cong (g := fun _ => 0) _ (fun e _ => ?_), sm_zero]
  simp [clg, bt_0]
theorem okS_self {m : Nat} (hf : f = Int32.ofNat m) : okS Y f m = true := by
  have e1 : f &&& (f ^^^ (-1)) = 0 := bt_ext (fun e he => by rw [bt_and, bt_not he, bt_0]; simp)
  unfold okS
  rw [← hf, e1, clS_0]; rfl
theorem mend_eq (hn : YN Y) (h : ∀ e, e < 32 → bt f e = true → e < nA Y) : (mCn Y f 64).1 = mRn Y f (2 ^ nA Y) := by
  have h6 := hn.A6
  have h64 : 2 ^ nA Y ≤ 64 := by
    have : (64 : Nat) = 2 ^ 6 := rfl
    rw [this]; exact Nat.pow_le_pow_right (by omega) h6
  have e := mC_stop (Y := Y) h (64 - 2 ^ nA Y) (by omega)
  rw [show 2 ^ nA Y + (64 - 2 ^ nA Y) = 64 by omega] at e
  rw [e]
  rcases mCR (f := f) hn (2 ^ nA Y) h64 with ⟨-, -, i3⟩ | ⟨k, -, i1, i2⟩
  · exfalso
    obtain ⟨m, hm, em⟩ := bt_small (x := f) (fun e h1 h2 => by
      cases q : bt f e
      · rfl
      · have := h e h2 q; omega)
    have hm2 : m < 2 ^ nA Y := by
      rcases Nat.lt_or_ge m (2 ^ nA Y) with z | z
      · exact z
      · have := okS_big (Y := Y) (n := m) h z hm
        rw [okS_self em] at this; cases this
    have := i3 m hm2
    rw [okS_self em] at this; cases this
  · rw [i1, i2]
theorem sh_pow (h : n ≤ 6) : (1 : Int32) <<< (Int32.ofNat n &&& 31) = Int32.ofNat (2 ^ n) := by
  have : ∀ n : Fin 7, (1 : Int32) <<< (Int32.ofNat n.1 &&& 31) = Int32.ofNat (2 ^ n.1) := by decide
  exact this ⟨n, by omega⟩
theorem okS_and {k : Nat} : okS Y f k = true ↔ Int32.ofNat k &&& (f ^^^ (-1)) = 0 ∧ clS Y (f &&& (Int32.ofNat k ^^^ (-1))) = 0 := by
  unfold okS; simp
theorem sp152 (hY : IY Y M) (hN : IN Y t N M) : Hm (evD (d + 10) 152 [vR 3 0 69] M) (fun r M' => r = some (vI (mCn Y (force Y N) 64).1) ∧ M' = M) := by
  have h6 := hY.n.A6
  have hw := worN_bd (set := force Y N) hY.n hY.g
  simp only [e152, sp110 hY.c hY.n hN.c, cIn_s, sp114 hY.c hY.n, lp0_eq]
  generalize force Y N = f at *
  rw [wor_N hY.g, i_addl]
  refine lp_for (d := d + 9) (x := 152) (pc := 24) 64 1 0 (by omega) (fun i lv M' => lv = [some (vR 3 0 69), some (vI f), some (vI (mCn Y f i).1), some (vI (Int32.ofNat (mCn Y f i).2)), some (vI (Int32.ofNat i))] ∧ (mCn Y f i).2 ≤ 601 ∧ M' = M) ?_ ?_ 64 0 (by omega) 20000 _ M (by omega) ⟨rfl, by show worN Y f + 1 ≤ 601; omega, rfl⟩
  · rintro i hi G lv M' - ⟨rfl, hb, rfl⟩ z
    have hwi := worN_bd (set := Int32.ofNat i) hY.n hY.g
    have hc := clS_bd (set := f &&& (Int32.ofNat i ^^^ (-1))) hY.n
    have eC : mCn Y f (i + 1) = mC Y f (mCn Y f i) i := rfl
    rw [eC] at z
    generalize mCn Y f i = pp at *
    simp (disch := omega) only [e152_24, i_nat, Nat.add_zero, Nat.not_lt_zero, i_neg, i_lt, i_le, i_eq, i_add, i_addl, i_addr, i_mulr, i_mull, i_subl, i_pred, i_ltl, i_ltr, i_eql, i_em1, cIn_s, cVd_s, cLo_s, ic_true, ic_false, ic_same, i10, eq_self, b2_0, b2_1, b2_and, b2_t, b2_f, ck', hi]
    refine Hm_ic (fun h1 => ?_) (fun h1 => ?_)
    · refine Hm_cIv (sp150 hY.c hY.n hY.g) (fun M1 h => ?_)
      subst h
      simp (disch := omega) only [i_nat, Nat.add_zero, Nat.not_lt_zero, i_neg, i_lt, i_le, i_eq, i_add, i_addl, i_addr, i_mulr, i_mull, i_subl, i_pred, i_ltl, i_ltr, i_eql, i_em1]
      refine Hm_ic (fun h2 => ?_) (fun h2 => ?_)
      · have ho : okS Y f i = true := okS_and.mpr ⟨h1, h2⟩
        simp (disch := omega) only [sp114 hY.c hY.n, cIn_s, wor_N hY.g, i_nat, Nat.add_zero, Nat.not_lt_zero, i_neg, i_lt, i_le, i_eq, i_add, i_addl, i_addr, i_mulr, i_mull, i_subl, i_pred, i_ltl, i_ltr, i_eql, i_em1]
        refine Hm_ic (fun h3 => ?_) (fun h3 => ?_)
        · exact z _ _ _ (by omega) ⟨by simp [mC, ho, h3], by simp only [mC, ho, h3, decide_true, Bool.and_self, if_true]; omega, rfl⟩
        · exact z _ _ _ (by omega) ⟨by simp [mC, ho, h3], by simp only [mC, ho, h3, decide_false, Bool.and_false, Bool.false_eq_true, if_false]; omega, rfl⟩
      · have ho : okS Y f i = false := by rw [← Bool.not_eq_true]; intro k; exact h2 (okS_and.mp k).2
        exact z _ _ _ (by omega) ⟨by simp [mC, ho], by simp only [mC, ho, Bool.false_and, Bool.false_eq_true, if_false]; omega, rfl⟩
    · have ho : okS Y f i = false := by rw [← Bool.not_eq_true]; intro k; exact h1 (okS_and.mp k).1
      exact z _ _ _ (by omega) ⟨by simp [mC, ho], by simp only [mC, ho, Bool.false_and, Bool.false_eq_true, if_false]; omega, rfl⟩
  · rintro G lv M' - ⟨rfl, hb, rfl⟩
    simp (disch := omega) only [e152_24, i_nat, Nat.add_zero, Nat.not_lt_zero, i_neg, i_lt, i_le, i_eq, i_add, i_addl, i_addr, i_mulr, i_mull, i_subl, i_pred, i_ltl, i_ltr, i_eql, i_em1, cIn_s, cVd_s, cLo_s, ic_true, ic_false, ic_same, i10, eq_self, b2_0, b2_1, b2_and, b2_t, b2_f, ck', Nat.lt_irrefl]
    exact Hm_some ⟨rfl, rfl⟩
theorem mend_r (hY : IY Y M) (hN : IN Y t N M) (hp : wi p 0 1 = true) : Hm (evD (d + 40) 277 [vR 12 0 253, vI p] M) (fun r M' => r = some (vI (if p = 0 then wor Y (mRn Y (force Y N) (2 ^ nA Y)) else mRn Y (force Y N) (2 ^ nA Y))) ∧ M' = sI M 253 0 0) := by
  have h6 := hY.n.A6
  have h64 : 2 ^ nA Y ≤ 64 := by
    have : (64 : Nat) = 2 ^ 6 := rfl
    rw [this]; exact Nat.pow_le_pow_right (by omega) h6
  have hY' := hY.th
  have hN' := hN.th h6
  simp only [e277, sp222, hp, cIn_s, b2_t, i10, ic_false, sp250 (B := 0) (b := 0) rfl hY'.r hY'.n hN'.r hN'.i (show 0 ≤ 1078 by omega), lp0_eq]
  generalize force Y N = f at *
  refine lp_for (d := d + 39) (x := 277) (pc := 27) (2 ^ nA Y) 6 0 (by omega) (fun i lv M' => ∃ o, lv = [some (vR 12 0 253), some (vI p), some (vI f), some (vI (mRn Y f i)), some (vI (Int32.ofNat i)), o] ∧ M' = sI M 253 0 0) ?_ ?_ (2 ^ nA Y) 0 (by omega) 20000 _ _ (by omega) ⟨_, rfl, rfl⟩
  · rintro i hi G lv M' - ⟨o, rfl, rfl⟩ z
    have hc := clS_bd (set := f &&& (Int32.ofNat i ^^^ (-1))) hY.n
    have eR : mRn Y f (i + 1) = mR Y f (mRn Y f i) i := rfl
    have hw1 := worN_bd (set := Int32.ofNat i) hY.n hY.g
    have hw2 := worN_bd (set := mRn Y f i) hY.n hY.g
    rw [eR] at z
    generalize mRn Y f i = g at *
    simp (disch := omega) only [e277_27, sp197 hY'.r hY'.n, i_nat, Nat.add_zero, Nat.not_lt_zero, i_neg, i_lt, i_le, i_eq, i_add, i_addl, i_addr, i_mulr, i_mull, i_subl, i_pred, i_ltl, i_ltr, i_eql, i_em1, cIn_s, cVd_s, cLo_s, ic_true, ic_false, ic_same, i10, eq_self, b2_0, b2_1, b2_and, b2_t, b2_f, ck', sh_pow h6, hi]
    have no : okS Y f i = false → ∀ G' o, G ≤ G' → Hm (lp (d + 39) 277 (G' + 4) 64 [some (vR 12 0 253), some (vI p), some (vI f), some (vI g), some (vI (Int32.ofNat i)), o] (sI M 253 0 0)) (fun r M' => r = some (vI (if p = 0 then wor Y (mRn Y f (2 ^ nA Y)) else mRn Y f (2 ^ nA Y))) ∧ M' = sI M 253 0 0) := fun ho G' o hG => by
      simp only [e277_64, e277_67, eq_self, ic_true, e277_95, e277_97, i_addl]
      exact z _ _ _ (by omega) ⟨_, by simp [mR, ho]; rfl, rfl⟩
    refine Hm_ic (fun h1 => ?_) (fun h1 => ?_)
    · refine Hm_cIv (sp276 hY'.r hY'.n) (fun M1 h => ?_)
      subst h
      simp (disch := omega) only [i_nat, Nat.add_zero, Nat.not_lt_zero, i_neg, i_lt, i_le, i_eq, i_add, i_addl, i_addr, i_mulr, i_mull, i_subl, i_pred, i_ltl, i_ltr, i_eql, i_em1]
      refine Hm_ic (fun h2 => ?_) (fun h2 => ?_)
      · have ho : okS Y f i = true := okS_and.mpr ⟨h1, h2⟩
        simp only [e277_67, i10, ic_false]
        refine Hm_ic (fun h3 => ?_) (fun h3 => ?_)
        · simp only [e277_90, e277_97, i_addl]
          exact z _ _ _ (by omega) ⟨_, by simp [mR, ho, h3]; rfl, rfl⟩
        · simp (disch := omega) only [sp252 hY'.r hY'.n, cIn_s, wor_N (set := Int32.ofNat i) hY.g, wor_N (set := g) hY.g, i_nat, Nat.add_zero, Nat.not_lt_zero, i_neg, i_lt, i_le, i_eq, i_add, i_addl, i_addr, i_mulr, i_mull, i_subl, i_pred, i_ltl, i_ltr, i_eql, i_em1]
          refine Hm_ic (fun h4 => ?_) (fun h4 => ?_)
          · simp only [e277_90, e277_97, i_addl]
            exact z _ _ _ (by omega) ⟨_, by simp [mR, ho, h4]; rfl, rfl⟩
          · simp only [e277_95, e277_97, i_addl]
            exact z _ _ _ (by omega) ⟨_, by simp only [mR, ho, h3, h4, decide_false, Bool.or_self, Bool.and_false, Bool.false_eq_true, if_false]; rfl, rfl⟩
      · have ho : okS Y f i = false := by rw [← Bool.not_eq_true]; intro k; exact h2 (okS_and.mp k).2
        exact no ho (G + 1) _ (by omega)
    · have ho : okS Y f i = false := by rw [← Bool.not_eq_true]; intro k; exact h1 (okS_and.mp k).1
      exact no ho (G + 1) _ (by omega)
  · rintro G lv M' - ⟨o, rfl, rfl⟩
    simp (disch := omega) only [e277_27, sp197 hY'.r hY'.n, i_nat, Nat.add_zero, Nat.not_lt_zero, i_neg, i_lt, i_le, i_eq, i_add, i_addl, i_addr, i_mulr, i_mull, i_subl, i_pred, i_ltl, i_ltr, i_eql, i_em1, cIn_s, cVd_s, cLo_s, ic_true, ic_false, ic_same, i10, eq_self, b2_0, b2_1, b2_and, b2_t, b2_f, ck', sh_pow h6, Nat.lt_irrefl]
    refine Hm_ic (fun h => ?_) (fun h => ?_)
    · simp only [sp252 hY'.r hY'.n, cIn_s]
      exact Hm_some ⟨by rw [if_pos h], rfl⟩
    · exact Hm_some ⟨by rw [if_neg h], rfl⟩
theorem force_lt (hn : YN Y) : ∀ e, e < 32 → bt (force Y N) e = true → e < nA Y := fun e he h => by
  rw [bt_force hn he] at h; simp at h; exact h.1
theorem ro_mend (hn : YN Y) : RO 151 277 [vR 11 0 0, vI p] [vR 12 0 253, vI p] Y t N := by
  by_cases h0 : p < 0
  · have hw : wi p 0 1 = false := by unfold wi; simp [h0]
    exact ⟨-1, fun d M hY hN => Hm_p (by simp only [e151, ic_t h0]) Fr.rf, fun d M hY hN => Hm_p (by simp only [e277, sp222, hw, cIn_s, cVd_s, cLo_s, ic_true, ic_false, ic_same, i10, eq_self, b2_0, b2_1, b2_and, b2_t, b2_f]) th0⟩
  · by_cases h1 : 1 < p
    · have hw : wi p 0 1 = false := by unfold wi; simp [h1]
      exact ⟨-1, fun d M hY hN => Hm_p (by simp only [e151, ic_f h0, ic_t h1]) Fr.rf, fun d M hY hN => Hm_p (by simp only [e277, sp222, hw, cIn_s, cVd_s, cLo_s, ic_true, ic_false, ic_same, i10, eq_self, b2_0, b2_1, b2_and, b2_t, b2_f]) th0⟩
    · have hw : wi p 0 1 = true := by unfold wi; simp [h0, h1]
      refine ⟨_, fun d M hY hN => ?_, fun d M hY hN => Hm_mono (mend_r hY hN hw) (fun r M' h => ⟨h.1, h.2 ▸ th0⟩)⟩
      simp only [e151, ic_f h0, ic_f h1]
      refine Hm_cIv (sp152 hY hN) (fun M1 h => ?_)
      subst h
      rw [mend_eq hn (force_lt hn)]
      simp only [sp114 hY.c hY.n, cIn_s, ic_ite]
      exact Hm_some ⟨rfl, Fr.rf⟩
end RO5
