/-! clashes, mend -/
section RO4
variable {Y N S : YT} {t a s n c b d : Nat} {M : Mem} {p q x : Int32}
def sm (f : Nat → Nat) : Nat → Nat
  | 0 => 0
  | n + 1 => sm f n + f n
theorem sm_cong {f g : Nat → Nat} : ∀ n, (∀ a, a < n → f a = g a) → sm f n = sm g n
  | 0, _ => rfl
  | n + 1, h => by simp only [sm]; rw [sm_cong n (fun a ha => h a (by omega)), h n (by omega)]
theorem sm_add {f g : Nat → Nat} : ∀ n, sm (fun a => f a + g a) n = sm f n + sm g n
  | 0 => rfl
  | n + 1 => by simp only [sm]; rw [sm_add n]; omega
theorem sm_zero : ∀ n, sm (fun _ => 0) n = 0
  | 0 => rfl
  | n + 1 => by simp only [sm]; rw [sm_zero n]
theorem sm_le {f g : Nat → Nat} : ∀ n, (∀ a, a < n → f a ≤ g a) → sm f n ≤ sm g n
  | 0, _ => Nat.le_refl _
  | n + 1, h => by
    have h1 := sm_le n (fun a ha => h a (by omega))
    have h2 := h n (by omega)
    simp only [sm]; omega
theorem sm_bd {f : Nat → Nat} {k : Nat} : ∀ n, (∀ a, a < n → f a ≤ k) → sm f n ≤ n * k
  | 0, _ => by simp [sm]
  | n + 1, h => by
    have h1 := sm_bd n (fun a ha => h a (by omega))
    have h2 := h n (by omega)
    simp only [sm]; rw [Nat.succ_mul]; omega
/-- beyond m there is nothing -/
theorem sm_cut {f : Nat → Nat} {m : Nat} : ∀ k, (∀ a, m ≤ a → f a = 0) → sm f (m + k) = sm f m
  | 0, _ => rfl
  | k + 1, h => by
    show sm f (m + k) + f (m + k) = sm f m
    rw [sm_cut k h, h (m + k) (by omega)]; rfl
theorem sm_sym {g : Nat → Nat → Nat} : ∀ n, (∀ a e, a < n → e < n → g a e = g e a) → (∀ a, a < n → g a a = 0) → sm (fun a => sm (fun e => g a e) n) n = 2 * sm (fun a => sm (fun e => g a e) a) n
  | 0, _, _ => rfl
  | n + 1, hs, h0 => by
    have ih := sm_sym n (fun a e ha he => hs a e (by omega) (by omega)) (fun a ha => h0 a (by omega))
    have e1 : sm (fun a => sm (fun e => g a e) (n + 1)) n = sm (fun a => sm (fun e => g a e) n) n + sm (fun e => g n e) n := by
      rw [show (fun a => sm (fun e => g a e) (n + 1)) = (fun a => sm (fun e => g a e) n + g a n) from rfl, sm_add]
      rw [sm_cong (f := fun a => g a n) (g := fun e => g n e) n (fun a ha => hs a n (by omega) (by omega))]
    show sm (fun a => sm (fun e => g a e) (n + 1)) n + (sm (fun e => g n e) n + g n n) = 2 * (sm (fun a => sm (fun e => g a e) a) n + sm (fun e => g n e) n)
    rw [e1, ih, h0 n (by omega)]; omega
/-- bits that are counted -/
def pcx (p0 : Int32) : Int32 := (((((((p0 - (((p0.toUInt32 >>> ((1 : Int32).toUInt32 &&& Int32.toUInt32 31)).toInt32) &&& 1431655765)) &&& 858993459) + ((((p0 - (((p0.toUInt32 >>> ((1 : Int32).toUInt32 &&& Int32.toUInt32 31)).toInt32) &&& 1431655765)).toUInt32 >>> ((2 : Int32).toUInt32 &&& Int32.toUInt32 31)).toInt32) &&& 858993459)) + (((((p0 - (((p0.toUInt32 >>> ((1 : Int32).toUInt32 &&& Int32.toUInt32 31)).toInt32) &&& 1431655765)) &&& 858993459) + ((((p0 - (((p0.toUInt32 >>> ((1 : Int32).toUInt32 &&& Int32.toUInt32 31)).toInt32) &&& 1431655765)).toUInt32 >>> ((2 : Int32).toUInt32 &&& Int32.toUInt32 31)).toInt32) &&& 858993459)).toUInt32 >>> ((4 : Int32).toUInt32 &&& Int32.toUInt32 31)).toInt32)) &&& 252645135) + (((((((p0 - (((p0.toUInt32 >>> ((1 : Int32).toUInt32 &&& Int32.toUInt32 31)).toInt32) &&& 1431655765)) &&& 858993459) + ((((p0 - (((p0.toUInt32 >>> ((1 : Int32).toUInt32 &&& Int32.toUInt32 31)).toInt32) &&& 1431655765)).toUInt32 >>> ((2 : Int32).toUInt32 &&& Int32.toUInt32 31)).toInt32) &&& 858993459)) + (((((p0 - (((p0.toUInt32 >>> ((1 : Int32).toUInt32 &&& Int32.toUInt32 31)).toInt32) &&& 1431655765)) &&& 858993459) + ((((p0 - (((p0.toUInt32 >>> ((1 : Int32).toUInt32 &&& Int32.toUInt32 31)).toInt32) &&& 1431655765)).toUInt32 >>> ((2 : Int32).toUInt32 &&& Int32.toUInt32 31)).toInt32) &&& 858993459)).toUInt32 >>> ((4 : Int32).toUInt32 &&& Int32.toUInt32 31)).toInt32)) &&& 252645135).toUInt32 >>> ((8 : Int32).toUInt32 &&& Int32.toUInt32 31)).toInt32)) + ((((((((p0 - (((p0.toUInt32 >>> ((1 : Int32).toUInt32 &&& Int32.toUInt32 31)).toInt32) &&& 1431655765)) &&& 858993459) + ((((p0 - (((p0.toUInt32 >>> ((1 : Int32).toUInt32 &&& Int32.toUInt32 31)).toInt32) &&& 1431655765)).toUInt32 >>> ((2 : Int32).toUInt32 &&& Int32.toUInt32 31)).toInt32) &&& 858993459)) + (((((p0 - (((p0.toUInt32 >>> ((1 : Int32).toUInt32 &&& Int32.toUInt32 31)).toInt32) &&& 1431655765)) &&& 858993459) + ((((p0 - (((p0.toUInt32 >>> ((1 : Int32).toUInt32 &&& Int32.toUInt32 31)).toInt32) &&& 1431655765)).toUInt32 >>> ((2 : Int32).toUInt32 &&& Int32.toUInt32 31)).toInt32) &&& 858993459)).toUInt32 >>> ((4 : Int32).toUInt32 &&& Int32.toUInt32 31)).toInt32)) &&& 252645135) + (((((((p0 - (((p0.toUInt32 >>> ((1 : Int32).toUInt32 &&& Int32.toUInt32 31)).toInt32) &&& 1431655765)) &&& 858993459) + ((((p0 - (((p0.toUInt32 >>> ((1 : Int32).toUInt32 &&& Int32.toUInt32 31)).toInt32) &&& 1431655765)).toUInt32 >>> ((2 : Int32).toUInt32 &&& Int32.toUInt32 31)).toInt32) &&& 858993459)) + (((((p0 - (((p0.toUInt32 >>> ((1 : Int32).toUInt32 &&& Int32.toUInt32 31)).toInt32) &&& 1431655765)) &&& 858993459) + ((((p0 - (((p0.toUInt32 >>> ((1 : Int32).toUInt32 &&& Int32.toUInt32 31)).toInt32) &&& 1431655765)).toUInt32 >>> ((2 : Int32).toUInt32 &&& Int32.toUInt32 31)).toInt32) &&& 858993459)).toUInt32 >>> ((4 : Int32).toUInt32 &&& Int32.toUInt32 31)).toInt32)) &&& 252645135).toUInt32 >>> ((8 : Int32).toUInt32 &&& Int32.toUInt32 31)).toInt32)).toUInt32 >>> ((16 : Int32).toUInt32 &&& Int32.toUInt32 31)).toInt32)) &&& 63
theorem pc_64 : ∀ n : Fin 64, pcx (Int32.ofNat n.1) = Int32.ofNat (sm (fun e => if bt (Int32.ofNat n.1) e then 1 else 0) 6) := by decide +kernel
theorem bt_small (h : ∀ e, 6 ≤ e → e < 32 → bt x e = false) : ∃ n, n < 64 ∧ x = Int32.ofNat n := by
  refine ⟨x.toBitVec.toNat, ?_, ?_⟩
  · refine Nat.lt_pow_two_of_testBit (n := 6) _ (fun i hi => ?_)
    by_cases h32 : i < 32
    · exact h i hi h32
    · exact BitVec.getLsbD_of_ge x.toBitVec i (by omega)
  · rw [← Int32.toBitVec_inj]
    apply BitVec.eq_of_toNat_eq
    rw [Int32.toBitVec_ofNat']
    simp
theorem sp145 (h : ∀ e, 6 ≤ e → e < 32 → bt x e = false) : evD (d + 1) 145 [vI x] M = some (some (vI (Int32.ofNat (sm (fun e => if bt x e then 1 else 0) 6))), M) := by
  obtain ⟨n, hn, rfl⟩ := bt_small h
  rw [e145, ← pc_64 ⟨n, hn⟩]; rfl
/-- the clashes within a set -/
def clg (Y : YT) (set : Int32) (a e : Nat) : Nat := if bt (Y 18 a) e && bt set a && bt set e then 1 else 0
def clS (Y : YT) (set : Int32) : Nat := sm (fun a => sm (fun e => clg Y set a e) a) (nA Y)
theorem clg_bd {set : Int32} {e : Nat} : clg Y set a e ≤ 1 := by unfold clg; split <;> omega
theorem clS_bd {set : Int32} (hn : YN Y) : clS Y set ≤ 36 := by
  have h6 := hn.A6
  have h1 : ∀ a, a < nA Y → sm (fun e => clg Y set a e) a ≤ 6 := fun a ha => by
    have := sm_bd (f := fun e => clg Y set a e) (k := 1) a (fun e _ => clg_bd); omega
  have := sm_bd (f := fun a => sm (fun e => clg Y set a e) a) (k := 6) (nA Y) h1
  unfold clS; omega
theorem sp276 (hR : YR Y M) (hn : YN Y) {set : Int32} : Hm (evD (d + 2) 276 [vR 12 0 253, vI set] M) (fun r M' => r = some (vI (Int32.ofNat (clS Y set))) ∧ M' = M) := by
  have h6 := hn.A6
  rw [e276]; simp only [lp0_eq]
  refine lp_for (d := d + 1) (x := 276) (pc := 4) (nA Y) 20 0 (by omega) (fun i lv M' => ∃ o, lv = [some (vR 12 0 253), some (vI set), some (vI (Int32.ofNat (sm (fun a => sm (fun e => clg Y set a e) a) i))), some (vI (Int32.ofNat i)), o] ∧ M' = M) ?_ ?_ (nA Y) 0 (by omega) 20000 _ M (by omega) ⟨_, rfl, rfl⟩
  · rintro i hi G lv M' - ⟨o, rfl, rfl⟩ z
    simp (disch := omega) only [e276_4, i_nat, Nat.add_zero, Nat.not_lt_zero, i_neg, i_lt, i_le, i_eq, i_add, i_addl, i_addr, i_mulr, i_mull, i_subl, i_pred, i_ltl, i_ltr, i_eql, i_em1, cIn_s, cVd_s, cLo_s, ic_true, ic_false, ic_same, i10, eq_self, b2_0, b2_1, b2_and, b2_t, b2_f, ck', sp197 hR hn, hi]
    refine lp_for (d := d + 1) (x := 276) (pc := 15) i 1 G (by omega) (fun j lv M2 => lv = [some (vR 12 0 253), some (vI set), some (vI (Int32.ofNat (sm (fun a => sm (fun e => clg Y set a e) a) i + sm (fun e => clg Y set i e) j))), some (vI (Int32.ofNat i)), some (vI (Int32.ofNat j))] ∧ M2 = M') ?_ ?_ i 0 (by omega) _ _ _ (by omega) ⟨rfl, rfl⟩
    · rintro j hj G2 lv M2 hG2 ⟨rfl, rfl⟩ z2
      have hb : M2.1 259 (56 + 6 * i + j) = b2 (bt (Y 18 i) j) := hR.1.2.2.2.2 i j hi (by omega)
      have es : sm (fun e => clg Y set i e) (j + 1) = sm (fun e => clg Y set i e) j + clg Y set i j := rfl
      simp (disch := omega) only [e276_15, i_nat, Nat.add_zero, Nat.not_lt_zero, i_neg, i_lt, i_le, i_eq, i_add, i_addl, i_addr, i_mulr, i_mull, i_subl, i_pred, i_ltl, i_ltr, i_eql, i_em1, cIn_s, cVd_s, cLo_s, ic_true, ic_false, ic_same, i10, eq_self, b2_0, b2_1, b2_and, b2_t, b2_f, ck', hj, hb, bt_has, Int32.add_zero]
      refine Hm_ic (fun h1 => Hm_ic (fun h2 => Hm_ic (fun h3 => ?_) (fun h3 => ?_)) (fun h2 => ?_)) (fun h1 => ?_)
      · exact z2 _ _ _ (by omega) ⟨by rw [es]; simp only [clg, h1, h2, h3]; rfl, rfl⟩
      · exact z2 _ _ _ (by omega) ⟨by rw [es]; simp [clg, h1, h2, h3], rfl⟩
      · exact z2 _ _ _ (by omega) ⟨by rw [es]; simp [clg, h1, h2], rfl⟩
      · exact z2 _ _ _ (by omega) ⟨by rw [es]; simp [clg, h1], rfl⟩
    · rintro G2 lv M2 hG2 ⟨rfl, rfl⟩
      simp (disch := omega) only [e276_15, i_nat, Nat.add_zero, Nat.not_lt_zero, i_neg, i_lt, i_le, i_eq, i_add, i_addl, i_addr, i_mulr, i_mull, i_subl, i_pred, i_ltl, i_ltr, i_eql, i_em1, cIn_s, cVd_s, cLo_s, ic_true, ic_false, ic_same, i10, eq_self, b2_0, b2_1, b2_and, b2_t, b2_f, ck', Nat.lt_irrefl]
      exact z _ _ _ (by omega) ⟨_, rfl, rfl⟩
  · rintro G lv M' - ⟨o, rfl, rfl⟩
    simp (disch := omega) only [e276_4, i_nat, Nat.add_zero, Nat.not_lt_zero, i_neg, i_lt, i_le, i_eq, i_add, i_addl, i_addr, i_mulr, i_mull, i_subl, i_pred, i_ltl, i_ltr, i_eql, i_em1, cIn_s, cVd_s, cLo_s, ic_true, ic_false, ic_same, i10, eq_self, b2_0, b2_1, b2_and, b2_t, b2_f, ck', sp197 hR hn, Nat.lt_irrefl]
    exact Hm_some ⟨rfl, rfl⟩
theorem sp150 (hY : YC Y M) (hn : YN Y) (hG : YG Y) {set : Int32} : Hm (evD (d + 2) 150 [vR 9 0 3, vI set] M) (fun r M' => r = some (vI (Int32.ofNat (clS Y set))) ∧ M' = M) := by
  have h6 := hn.A6
  obtain ⟨-, -, -, -, -, g1, g2, g3⟩ := hG
  have row : ∀ a, a < nA Y → bt set a = true → sm (fun e => if bt (Y 18 a &&& set) e then 1 else 0) 6 = sm (fun e => clg Y set a e) (nA Y) := fun a ha hs => by
    obtain ⟨k, hk⟩ : ∃ k, 6 = nA Y + k := ⟨6 - nA Y, by omega⟩
    rw [hk, sm_cut k (fun e he => ?_)]
    · refine sm_cong _ (fun e he => ?_)
      simp only [clg, bt_and, hs, Bool.and_true]
    · by_cases h : e < 32
      · cases q : bt (Y 18 a) e
        · simp [bt_and, q]
        · have := g3 a ha e h q; omega
      · simp [bt, BitVec.getLsbD_of_ge _ e (show 32 ≤ e by omega)]
  have tot : sm (fun a => if bt set a then sm (fun e => if bt (Y 18 a &&& set) e then 1 else 0) 6 else 0) (nA Y) = 2 * clS Y set := by
    unfold clS
    rw [← sm_sym (g := clg Y set) (nA Y) (fun a e ha he => ?_) (fun a ha => ?_)]
    · refine sm_cong _ (fun a ha => ?_)
      cases hs : bt set a
      · have : ∀ n, sm (fun e => clg Y set a e) n = 0 := fun n => by
          rw [sm_cong (g := fun _ => 0) n (fun e _ => by simp [clg, hs]), sm_zero]
        rw [this]; rfl
      · simp only [if_true]; exact row a ha hs
    · unfold clg; rw [g1 a e ha he]
      cases bt (Y 18 e) a <;> cases bt set a <;> cases bt set e <;> rfl
    · unfold clg; rw [g2 a ha]; rfl
  have bd : ∀ i, i ≤ nA Y → sm (fun a => if bt set a then sm (fun e => if bt (Y 18 a &&& set) e then 1 else 0) 6 else 0) i ≤ 36 := fun i hi => by
    have := sm_bd (f := fun a => if bt set a then sm (fun e => if bt (Y 18 a &&& set) e then 1 else 0) 6 else 0) (k := 6) i (fun a _ => by
      split
      · have := sm_bd (f := fun e => if bt (Y 18 a &&& set) e then 1 else 0) (k := 1) 6 (fun e _ => by split <;> omega); omega
      · omega)
    omega
  rw [e150]; simp only [lp0_eq]
  refine lp_for (d := d + 1) (x := 150) (pc := 4) (nA Y) 1 0 (by omega) (fun i lv M' => lv = [some (vR 9 0 3), some (vI set), some (vI (Int32.ofNat (sm (fun a => if bt set a then sm (fun e => if bt (Y 18 a &&& set) e then 1 else 0) 6 else 0) i))), some (vI (Int32.ofNat i))] ∧ M' = M) ?_ ?_ (nA Y) 0 (by omega) 20000 _ M (by omega) ⟨rfl, rfl⟩
  · rintro i hi G lv M' - ⟨rfl, rfl⟩ z
    have hsm : ∀ e, 6 ≤ e → e < 32 → bt (Y 18 i &&& set) e = false := fun e h1 h2 => by
      rw [bt_and]
      cases q : bt (Y 18 i) e
      · rfl
      · have := g3 i hi e h2 q; omega
    simp (disch := omega) only [e150_4, i_nat, Nat.add_zero, Nat.not_lt_zero, i_neg, i_lt, i_le, i_eq, i_add, i_addl, i_addr, i_mulr, i_mull, i_subl, i_pred, i_ltl, i_ltr, i_eql, i_em1, cIn_s, cVd_s, cLo_s, ic_true, ic_false, ic_same, i10, eq_self, b2_0, b2_1, b2_and, b2_t, b2_f, ck', hY, hn.A, hi, sp64, Nat.reduceAdd, sp145 hsm]
    cases hs : bt set i
    · simp only [cIn_s, cVd_s, cLo_s, ic_true, ic_false, ic_same, Int32.add_zero]
      exact z _ _ _ (by omega) ⟨by simp [sm, hs], rfl⟩
    · simp only [cIn_s, cVd_s, cLo_s, ic_true, ic_false, ic_same, Bool.true_eq_false]
      exact z _ _ _ (by omega) ⟨by simp only [sm, hs, if_true], rfl⟩
  · rintro G lv M' - ⟨rfl, rfl⟩
    simp (disch := omega) only [e150_4, i_nat, Nat.add_zero, Nat.not_lt_zero, i_neg, i_lt, i_le, i_eq, i_add, i_addl, i_addr, i_mulr, i_mull, i_subl, i_pred, i_ltl, i_ltr, i_eql, i_em1, cIn_s, cVd_s, cLo_s, ic_true, ic_false, ic_same, i10, eq_self, b2_0, b2_1, b2_and, b2_t, b2_f, ck', hY, hn.A, Nat.lt_irrefl, Nat.reduceAdd]
    refine Hm_some ⟨?_, rfl⟩
    have hc := clS_bd (set := set) hn
    rw [tot, show (2 : Int32) = Int32.ofNat 2 from rfl, i_div (by omega) (by omega) (by omega), show 2 * clS Y set / 2 = clS Y set by omega]
theorem ro_clashes : RO 149 275 [vR 11 0 0] [vR 12 0 253] Y t N := by
  refine ⟨Int32.ofNat (clS Y (force Y N)), fun d M hY hN => ?_, fun d M hY hN => ?_⟩
  · simp only [e149, sp110 hY.c hY.n hN.c, cIn_s]
    exact Hm_cIv (sp150 hY.c hY.n hY.g) (fun M1 h => Hm_some ⟨rfl, h ▸ Fr.rf⟩)
  · have hY' := hY.th
    have hN' := hN.th hY.n.A6
    simp only [e275, sp250 (B := 0) (b := 0) rfl hY'.r hY'.n hN'.r hN'.i (show 0 ≤ 1078 by omega), cIn_s]
    exact Hm_cIv (sp276 hY'.r hY'.n) (fun M1 h => Hm_some ⟨rfl, h ▸ th0⟩)
end RO4
