/-! DECADES: draws and nights -/
section DECADES
variable {Y S N : YT} {t n d : Nat} {p q r : Int32} {M M' : Mem} {G m : Nat}
def DR (G : Nat) : Nat := (G * 1103515245 + 12345) % 2147483648
def DV (G m : Nat) : Nat := DR G / 65536 % m
theorem DR_lt : DR G < 2147483648 := Nat.mod_lt _ (by omega)
theorem l_ti {a : Nat} (h : a < 9223372036854775808) : (Int64.ofNat a).toInt = a := Int64.toInt_ofNat_of_lt h
theorem l_dv {a b : Nat} (ha : a < 9223372036854775808) (hb : b < 9223372036854775808) (h0 : 0 < b) : Int64.ofNat a / Int64.ofNat b = Int64.ofNat (a / b) := by
  have hq : a / b ≤ a := Nat.div_le_self a b
  rw [← Int64.toInt_inj, Int64.toInt_div, l_ti ha, l_ti hb, l_ti (by omega)]
  rw [← Int.ofNat_tdiv]
  generalize a / b = z at hq ⊢
  exact Int.bmod_eq_of_le (by omega) (by omega)
theorem l_md {a b : Nat} (ha : a < 9223372036854775808) (hb : b < 9223372036854775808) (h0 : 0 < b) : Int64.ofNat a - Int64.ofNat a / Int64.ofNat b * Int64.ofNat b = Int64.ofNat (a % b) := by
  rw [l_dv ha hb h0, ← Int64.ofNat_mul]
  have e : a % b + a / b * b = a := by rw [Nat.mul_comm]; exact Nat.mod_add_div a b
  have : Int64.ofNat (a % b) + Int64.ofNat (a / b * b) = Int64.ofNat a := by rw [← Int64.ofNat_add, e]
  rw [← this, Int64.add_sub_cancel]
theorem l_g (hG : G < 2147483648) : ((Int64.ofNat G * 1103515245) + 12345) - ((Int64.ofNat G * 1103515245) + 12345) / 2147483648 * 2147483648 = Int64.ofNat (DR G) := by
  have e : Int64.ofNat G * 1103515245 + 12345 = Int64.ofNat (G * 1103515245 + 12345) := by
    rw [Int64.ofNat_add, Int64.ofNat_mul]; rfl
  rw [e]
  exact l_md (b := 2147483648) (by omega) (by omega) (by omega)
theorem l_v {g : Nat} (hg : g < 2147483648) (hm : m ≤ 10) (h1 : 1 ≤ m) : ((Int64.ofNat g / 65536) - (Int64.ofNat g / 65536) / (Int32.ofNat m).toInt64 * (Int32.ofNat m).toInt64).toInt32 = Int32.ofNat (g / 65536 % m) := by
  have e : Int64.ofNat g / 65536 = Int64.ofNat (g / 65536) := l_dv (b := 65536) (by omega) (by omega) (by omega)
  have := Nat.mod_lt (g / 65536) (show 0 < m by omega)
  rw [e, l_T hm, l_md (by omega) (by omega) (by omega)]
  rw [← Int32.toInt_inj, i_toInt (by omega), Int64.toInt_toInt32, l_ti (by omega)]
  exact Int.bmod_eq_of_le (by omega) (by omega)
theorem l_n0 (hm : m ≤ 10) (h1 : 1 ≤ m) : ((Int32.ofNat m).toInt64 = 0) = False := by
  rw [l_T hm, ← Int64.toInt_inj, l_ti (by omega)]
  exact eq_false (by show ¬ ((m : Int) = 0); omega)
theorem sp144 (hG : G < 2147483648) (hg : M.2.1 105 7 = Int64.ofNat G) (hm : m ≤ 10) (h1 : 1 ≤ m) : evD (d + 1) 144 [vR 8 0 105, vI (Int32.ofNat m)] M = some (some (vI (Int32.ofNat (DV G m))), sJ M 105 7 (Int64.ofNat (DR G))) := by
  simp (disch := omega) only [e144, hg, l_g hG, sJ_eq, l_v (g := DR G) DR_lt hm h1, l_n0 hm h1, eq_false (show ¬ m < 1 by omega), i_nat, Nat.add_zero, Nat.not_lt_zero, i_neg, i_lt, i_le, i_eq, i_add, i_addl, i_addr, i_mulr, i_mull, i_subl, i_pred, i_ltl, i_ltr, i_eql, i_em1, cIn_s, cVd_s, cLo_s, ic_true, ic_false, ic_same, i10, eq_self, b2_0, b2_1, b2_and, b2_t, b2_f, ck']
  rfl
theorem sp301 (hG : G < 2147483648) (hg : M.2.1 253 39 = Int64.ofNat G) (hm : m ≤ 10) (h1 : 1 ≤ m) : evD (d + 1) 301 [vR 12 0 253, vI (Int32.ofNat m)] M = some (some (vI (Int32.ofNat (DV G m))), sJ M 253 39 (Int64.ofNat (DR G))) := by
  simp (disch := omega) only [e301, hg, l_g hG, sJ_eq, l_v (g := DR G) DR_lt hm h1, l_n0 hm h1, i_nat, Nat.add_zero, Nat.not_lt_zero, i_neg, i_lt, i_le, i_eq, i_add, i_addl, i_addr, i_mulr, i_mull, i_subl, i_pred, i_ltl, i_ltr, i_eql, i_em1, cIn_s, cVd_s, cLo_s, ic_true, ic_false, ic_same, i10, eq_self, b2_0, b2_1, b2_and, b2_t, b2_f, ck']
  rfl
theorem DV_lt (h1 : 1 ≤ m) : DV G m < m := Nat.mod_lt _ (by omega)
/-- a day: what is begun, then what each carver does -/
def dcar (Y : YT) (p : YT × Nat) (c : Nat) : YT × Nat := (if mayC Y p.1 c (DV p.2 (nA Y)) then carS Y p.1 c (DV p.2 (nA Y)) else p.1, DR p.2)
def dbeg (Y : YT) (p : YT × Nat) : YT × Nat := if 0 < nA Y ∧ 0 < nB Y then (if mayB Y p.1 (DV p.2 (nA Y)) (Int32.ofNat (DV (DR p.2) (nB Y))) then begS p.1 (DV p.2 (nA Y)) (Int32.ofNat (DV (DR p.2) (nB Y))) else p.1, DR (DR p.2)) else p
def dday (Y : YT) (p : YT × Nat) : YT × Nat := if 0 < nA Y then rf (dcar Y) (dbeg Y p) (nC Y) else p
def dmil (Y : YT) (p : YT × Nat) : Int32 := if Int32.ofNat (DV (dday Y p).2 10) < Y 3 15 then 3 else 0
/-- a night behind it: the state, the seed, worth, how many have fallen -/
abbrev DT : Type := (YT × Nat) × Int32 × Int32
def dnit (Y : YT) (p : DT) : DT := let S' := nitS Y (dday Y p.1).1 (dmil Y p.1); ((S', DR (dday Y p.1).2), p.2.1 + wor Y (force Y S'), p.2.2 + nitC Y (dday Y p.1).1 (dmil Y p.1))
def decs (Y : YT) (N : YT) (G : Nat) : Nat → DT := rf (fun p _ => dnit Y p) ((N, G), 0, 0)
theorem decs_s {i : Nat} : decs Y N G (i + 1) = dnit Y (decs Y N G i) := rfl
theorem dcar_SI (hN : YN Y) {p : YT × Nat} {c : Nat} (hA : 0 < nA Y) (h : SI Y n p.1 ∧ p.2 < 2147483648) (hc : c < nC Y) : SI Y n (dcar Y p c).1 ∧ (dcar Y p c).2 < 2147483648 := by
  refine ⟨?_, DR_lt⟩
  unfold dcar
  dsimp only
  split
  · exact SI_car h.1 hN (DV_lt hA) hc
  · exact h.1
theorem dbeg_SI (hN : YN Y) {p : YT × Nat} (h : SI Y n p.1 ∧ p.2 < 2147483648) : SI Y n (dbeg Y p).1 ∧ (dbeg Y p).2 < 2147483648 := by
  unfold dbeg
  split
  · rename_i h2
    refine ⟨?_, DR_lt⟩
    dsimp only
    split
    · rename_i h3
      refine SI_beg h.1 hN (DV_lt h2.1) (DV_lt h2.2) ?_
      unfold mayB at h3; revert h3; cases bt (p.1 0 7) (DV p.2 (nA Y)) <;> simp
    · exact h.1
  · exact h
theorem dcars_SI (hN : YN Y) {p : YT × Nat} (hA : 0 < nA Y) (h : SI Y n p.1 ∧ p.2 < 2147483648) : ∀ c, c ≤ nC Y → SI Y n (rf (dcar Y) p c).1 ∧ (rf (dcar Y) p c).2 < 2147483648
  | 0, _ => h
  | c + 1, hc => dcar_SI hN hA (dcars_SI hN hA h c (by omega)) (by omega)
theorem dday_SI (hN : YN Y) {p : YT × Nat} (h : SI Y n p.1 ∧ p.2 < 2147483648) : SI Y n (dday Y p).1 ∧ (dday Y p).2 < 2147483648 := by
  unfold dday
  split
  · rename_i h2; exact dcars_SI hN h2 (dbeg_SI hN h) _ (Nat.le_refl _)
  · exact h
theorem decs_SI (hN : YN Y) (hI : SI Y t N) (hG : G < 2147483648) (ht : t < 10000) : ∀ i, i ≤ 60 → SI Y (t + i) (decs Y N G i).1.1 ∧ (decs Y N G i).1.2 < 2147483648
  | 0, _ => ⟨hI, hG⟩
  | i + 1, hi => by
    have h := dday_SI hN (decs_SI hN hI hG ht i (by omega))
    exact ⟨SI_nitS (b := t + i) h.1 hN (by omega), DR_lt⟩
def DW (c j : Nat) : Prop := c = 22 ∨ c = 25 ∨ (c = 105 ∧ j < 8) ∨ (106 ≤ c ∧ c ≤ 112)
/-- the class at a state and a seed -/
def DC (p : YT × Nat) (M : Mem) : Prop := SC p.1 106 M ∧ M.2.1 105 7 = Int64.ofNat p.2
theorem DC.j {p : YT × Nat} (h : DC p M) (g : Nat) : DC (p.1, g) (sJ M 105 7 (Int64.ofNat g)) :=
  ⟨h.1.fr (W := fun c j => c = 105) (Fr.rf.sJ (by omega)) (fun c j a1 a2 => by omega), sJ_eq⟩
theorem sp143 {p : YT × Nat} (hY : YC Y M) (hN : YN Y) (hL : YL Y) (hD : DC p M) (hI : SI Y n p.1 ∧ p.2 < 2147483648) : Hm (evD (d + 6) 143 [vR 8 0 105] M) (fun r M' => r = none ∧ DC (dday Y p) M' ∧ Fr (fun c j => c = 22 ∨ c = 25 ∨ (c = 105 ∧ j = 7) ∨ (106 ≤ c ∧ c ≤ 112)) M M') := by
  have h6 := hN.A6
  have h6b := hN.B6
  have h6c := hN.C6
  have lp76 : ∀ (p : YT × Nat) (M1 : Mem), 0 < nA Y → YC Y M1 → DC p M1 → SI Y n p.1 ∧ p.2 < 2147483648 → Fr (fun c j => c = 22 ∨ c = 25 ∨ (c = 105 ∧ j = 7) ∨ (106 ≤ c ∧ c ≤ 112)) M M1 → Hm (lp0 (d + 5) 143 76 [some (vR 8 0 105), some (vI 0)] M1) (fun r M' => r = none ∧ DC (rf (dcar Y) p (nC Y)) M' ∧ Fr (fun c j => c = 22 ∨ c = 25 ∨ (c = 105 ∧ j = 7) ∨ (106 ≤ c ∧ c ≤ 112)) M M') := by
    intro p M1 hA hY1 hD1 hI1 f1
    rw [lp0_eq]
    refine lp_for (d := d + 5) (x := 143) (pc := 76) (nC Y) 1 0 (by omega) (fun i lv M2 => lv = [some (vR 8 0 105), some (vI (Int32.ofNat i))] ∧ DC (rf (dcar Y) p i) M2 ∧ YC Y M2 ∧ Fr (fun c j => c = 22 ∨ c = 25 ∨ (c = 105 ∧ j = 7) ∨ (106 ≤ c ∧ c ≤ 112)) M M2) ?_ ?_ (nC Y) 0 (by omega) 20000 _ _ (by omega) ⟨rfl, hD1, hY1, f1⟩
    · rintro i hi G lv M2 - ⟨rfl, hD2, hY2, f2⟩ z
      have hI2 := dcars_SI hN hA hI1 i (by omega)
      simp (disch := omega) only [e143_76, hY2, hN.C, hN.A, eq_true hi, sp144 hI2.2 hD2.2 (show nA Y ≤ 10 by omega) (show 1 ≤ nA Y by omega), i_nat, Nat.add_zero, Nat.not_lt_zero, i_neg, i_lt, i_le, i_eq, i_add, i_addl, i_addr, i_mulr, i_mull, i_subl, i_pred, i_ltl, i_ltr, i_eql, i_em1, cIn_s, cVd_s, cLo_s, ic_true, ic_false, ic_same, i10, eq_self, b2_0, b2_1, b2_and, b2_t, b2_f, ck']
      have hY3 : YC Y (sJ M2 105 7 (Int64.ofNat (DR (rf (dcar Y) p i).2))) := hY2.fr (W := fun c j => c = 105) (Fr.rf.sJ (by omega)) (fun c j hc => by unfold yc at hc; omega)
      have hv := DV_lt (G := (rf (dcar Y) p i).2) (show 1 ≤ nA Y by omega)
      refine Hm_cIv (sp140 hY3 hL (hD2.j _).1 (show i < 6 by omega) (show DV (rf (dcar Y) p i).2 (nA Y) < 6 by omega)) (fun M3 h3 => ?_)
      refine z _ _ _ (by omega) ⟨rfl, ⟨h3.1, ?_⟩, hY3.fr h3.2 (fun c j hc => by unfold yc at hc; omega), (f2.sJ (by omega)).tr (h3.2.up (fun c j h => by omega))⟩
      rw [h3.2.j (by omega), sJ_eq]; rfl
    · rintro G lv M2 - ⟨rfl, hD2, hY2, f2⟩
      simp (disch := omega) only [e143_76, hY2, hN.C, Nat.lt_irrefl, i_nat, Nat.add_zero, Nat.not_lt_zero, i_neg, i_lt, i_le, i_eq, i_add, i_addl, i_addr, i_mulr, i_mull, i_subl, i_pred, i_ltl, i_ltr, i_eql, i_em1, cIn_s, cVd_s, cLo_s, ic_true, ic_false, ic_same, i10, eq_self, b2_0, b2_1, b2_and, b2_t, b2_f, ck']
      exact Hm_some ⟨rfl, hD2, f2⟩
  by_cases hA : 0 < nA Y
  · have ed : dday Y p = rf (dcar Y) (dbeg Y p) (nC Y) := by unfold dday; rw [if_pos hA]
    rw [ed]
    by_cases hB : 0 < nB Y
    · simp (disch := omega) only [e143, hY, hN.A, hN.B, eq_true hA, eq_true hB, sp144 hI.2 hD.2 (show nA Y ≤ 10 by omega) (show 1 ≤ nA Y by omega), sJ_1, sp144 (M := sJ M 105 7 (Int64.ofNat (DR p.2))) DR_lt sJ_eq (show nB Y ≤ 10 by omega) (show 1 ≤ nB Y by omega), i_nat, Nat.add_zero, Nat.not_lt_zero, i_neg, i_lt, i_le, i_eq, i_add, i_addl, i_addr, i_mulr, i_mull, i_subl, i_pred, i_ltl, i_ltr, i_eql, i_em1, cIn_s, cVd_s, cLo_s, ic_true, ic_false, ic_same, i10, eq_self, b2_0, b2_1, b2_and, b2_t, b2_f, ck']
      have hD1 := (hD.j (DR p.2)).j (DR (DR p.2))
      have f1 : Fr (fun c j => c = 22 ∨ c = 25 ∨ (c = 105 ∧ j = 7) ∨ (106 ≤ c ∧ c ≤ 112)) M (sJ (sJ M 105 7 (Int64.ofNat (DR p.2))) 105 7 (Int64.ofNat (DR (DR p.2)))) := (Fr.rf.sJ (by omega)).sJ (by omega)
      have hY1 := hY.fr f1 (fun c j hc => by unfold yc at hc; omega)
      have hv := DV_lt (G := p.2) (show 1 ≤ nA Y by omega)
      refine Hm_cIv (sp139 hY1 hN hD1.1 (show DV p.2 (nA Y) < 6 by omega)) (fun M3 h3 => ?_)
      have hY3 : YC Y M3 := hY1.fr h3.2 (fun c j hc => by unfold yc at hc; omega)
      simp (disch := omega) only [hY3, hN.A, eq_true hA, i_nat, Nat.add_zero, Nat.not_lt_zero, i_neg, i_lt, i_le, i_eq, i_add, i_addl, i_addr, i_mulr, i_mull, i_subl, i_pred, i_ltl, i_ltr, i_eql, i_em1, cIn_s, cVd_s, cLo_s, ic_true, ic_false, ic_same, i10, eq_self, b2_0, b2_1, b2_and, b2_t, b2_f, ck']
      refine lp76 (dbeg Y p) M3 hA hY3 ?_ (dbeg_SI hN hI) (f1.tr (h3.2.up (fun c j h => by omega)))
      unfold dbeg
      rw [if_pos ⟨hA, hB⟩]
      exact ⟨h3.1, by rw [h3.2.j (by omega), sJ_eq]⟩
    · simp (disch := omega) only [e143, hY, hN.A, hN.B, eq_true hA, eq_false hB, i_nat, Nat.add_zero, Nat.not_lt_zero, i_neg, i_lt, i_le, i_eq, i_add, i_addl, i_addr, i_mulr, i_mull, i_subl, i_pred, i_ltl, i_ltr, i_eql, i_em1, cIn_s, cVd_s, cLo_s, ic_true, ic_false, ic_same, i10, eq_self, b2_0, b2_1, b2_and, b2_t, b2_f, ck']
      have eb : dbeg Y p = p := by unfold dbeg; rw [if_neg (fun h => hB h.2)]
      rw [eb]
      exact lp76 p M hA hY hD hI Fr.rf
  · simp (disch := omega) only [e143, hY, hN.A, eq_false hA, i_nat, Nat.add_zero, Nat.not_lt_zero, i_neg, i_lt, i_le, i_eq, i_add, i_addl, i_addr, i_mulr, i_mull, i_subl, i_pred, i_ltl, i_ltr, i_eql, i_em1, cIn_s, cVd_s, cLo_s, ic_true, ic_false, ic_same, i10, eq_self, b2_0, b2_1, b2_and, b2_t, b2_f, ck']
    have ed : dday Y p = p := by unfold dday; rw [if_neg hA]
    rw [ed]
    exact Hm_some ⟨rfl, hD, Fr.rf⟩
theorem sp142 (hY : YC Y M) (hN : YN Y) (hL : YL Y) (hS : SC N 60 M) (hI : SI Y t N) (ht : t < 10000) (hG : G < 2147483648) {k : Nat} (hk : k ≤ 60) : Hm (evD (d + 10) 142 [vR 8 0 105, vR 6 0 60, vI (Int32.ofNat G), vI (Int32.ofNat k)] M) (fun r M' => r = none ∧ M'.1 105 2 = (decs Y N G k).2.1 ∧ M'.1 105 3 = (decs Y N G k).2.2 ∧ M'.1 105 4 = Int32.ofNat (sm (fun e => if bt ((decs Y N G k).1.1 0 9) e then 1 else 0) 6) ∧ Fr DW M M') := by
  have h6c := hN.C6
  rw [e142]
  refine Hm_cVv (sp121 hS (by omega)) (fun M0 h0 => ?_)
  have eg : (Int32.ofNat G).toInt64 = Int64.ofNat G := by
    rw [← Int64.toInt_inj, l_ti (by omega), Int32.toInt_toInt64, i_toInt hG]
  rw [lp0_eq, eg]
  have fM0 : Fr DW M (sI (sI (sJ M0 105 7 (Int64.ofNat G)) 105 2 0) 105 3 0) := (((h0.2.up (fun c j h => by unfold DW; omega)).sJ (by unfold DW; omega)).sI (by unfold DW; omega)).sI (by unfold DW; omega)
  refine lp_for (d := d + 9) (x := 142) (pc := 27) k 1 0 (by omega) (fun i lv M1 => lv = [some (vR 8 0 105), some (vR 6 0 60), some (vI (Int32.ofNat G)), some (vI (Int32.ofNat k)), some (vI (Int32.ofNat i))] ∧ M1.1 105 2 = (decs Y N G i).2.1 ∧ M1.1 105 3 = (decs Y N G i).2.2 ∧ DC (decs Y N G i).1 M1 ∧ Fr DW M M1) ?_ ?_ k 0 (by omega) 20000 _ _ (by omega) ⟨rfl, ?_, ?_, ?_, fM0⟩
  · rintro i hi G' lv M1 - ⟨rfl, w1, w2, hD, hf⟩ z
    have hI1 := decs_SI hN hI hG ht i (by omega)
    have hY1 : YC Y M1 := hY.fr hf (fun c j hc => by unfold yc DW at *; omega)
    have hI2 := dday_SI hN hI1
    simp (disch := omega) only [e142_27, eq_true hi, i_nat, Nat.add_zero, Nat.not_lt_zero, i_neg, i_lt, i_le, i_eq, i_add, i_addl, i_addr, i_mulr, i_mull, i_subl, i_pred, i_ltl, i_ltr, i_eql, i_em1, cIn_s, cVd_s, cLo_s, ic_true, ic_false, ic_same, i10, eq_self, b2_0, b2_1, b2_and, b2_t, b2_f, ck']
    refine Hm_cVv (sp143 hY1 hN hL hD hI1) (fun M2 h2 => ?_)
    have hY2 : YC Y M2 := hY1.fr h2.2 (fun c j hc => by unfold yc at hc; omega)
    have f2 : Fr DW M M2 := hf.tr (h2.2.up (fun c j h => by unfold DW; omega))
    have hg2 := h2.1.2
    simp (disch := omega) only [sp144 (m := 10) hI2.2 hg2 (by omega) (by omega), show (10 : Int32) = Int32.ofNat 10 from rfl, cIn_s, sJ_1, hY2]
    have hD3 := h2.1.j (DR (dday Y (decs Y N G i).1).2)
    have f3 : Fr DW M (sJ M2 105 7 (Int64.ofNat (DR (dday Y (decs Y N G i).1).2))) := f2.sJ (by unfold DW; omega)
    have hY3 : YC Y (sJ M2 105 7 (Int64.ofNat (DR (dday Y (decs Y N G i).1).2))) := hY.fr f3 (fun c j hc => by unfold yc DW at *; omega)
    have q1 : M2.1 105 2 = (decs Y N G i).2.1 := (h2.2.i (by omega)).trans w1
    have q2 : M2.1 105 3 = (decs Y N G i).2.2 := (h2.2.i (by omega)).trans w2
    have key : ∀ v, dmil Y (decs Y N G i).1 = v → Hm (cIn (evD (d + 9) 133 [vR 6 0 106, vI v] (sJ M2 105 7 (Int64.ofNat (DR (dday Y (decs Y N G i).1).2)))) fun v7 M6 => cIn (evD (d + 9) 113 [vR 6 0 106] (sI M6 105 3 ((M2.1 105 3) + v7))) fun v9 M8 => lp (d + 9) 142 G' 27 [some (vR 8 0 105), some (vR 6 0 60), some (vI (Int32.ofNat G)), some (vI (Int32.ofNat k)), some (vI (Int32.ofNat (i + 1)))] (sI M8 105 2 (((sI M6 105 3 ((M2.1 105 3) + v7)).1 105 2) + v9))) (fun r M' => r = none ∧ M'.1 105 2 = (decs Y N G k).2.1 ∧ M'.1 105 3 = (decs Y N G k).2.2 ∧ M'.1 105 4 = Int32.ofNat (sm (fun e => if bt ((decs Y N G k).1.1 0 9) e then 1 else 0) 6) ∧ Fr DW M M') := by
      rintro v rfl
      refine Hm_cIv (sp133 (d := d + 3) hY3 hN hL hD3.1 hI2.1 (by omega) (by omega)) (fun M4 h4 => ?_)
      have f4 : Fr DW M (sI M4 105 3 (M2.1 105 3 + nitC Y (dday Y (decs Y N G i).1).1 (dmil Y (decs Y N G i).1))) := (f3.tr (h4.2.up (fun c j h => by unfold DW; omega))).sI (by unfold DW; omega)
      have hY4 := hY.fr f4 (fun c j hc => by unfold yc DW at *; omega)
      have hS4 := h4.1.fr (W := fun c j => c = 105) (M' := sI M4 105 3 (M2.1 105 3 + nitC Y (dday Y (decs Y N G i).1).1 (dmil Y (decs Y N G i).1))) (Fr.rf.sI (by omega)) (fun c j a1 a2 => by omega)
      simp only [sp113 (d := d + 3) hY4 hN hS4, cIn_s]
      refine z _ _ _ (by omega) ⟨rfl, ?_, ?_, ⟨?_, ?_⟩, f4.sI (by unfold DW; omega)⟩
      · rw [sI_eq, sI_ne (by omega), h4.2.i (by omega), sJ_1, q1]; rfl
      · rw [sI_ne (by omega), sI_eq, q2]; rfl
      · exact hS4.fr (W := fun c j => c = 105) (Fr.rf.sI (by omega)) (fun c j a1 a2 => by omega)
      · show M4.2.1 105 7 = _
        rw [h4.2.j (by omega), sJ_eq]; rfl
    by_cases hm : Int32.ofNat (DV (dday Y (decs Y N G i).1).2 10) < Y 3 15
    · simp (disch := omega) only [eq_true hm, i_nat, Nat.add_zero, Nat.not_lt_zero, i_neg, i_lt, i_le, i_eq, i_add, i_addl, i_addr, i_mulr, i_mull, i_subl, i_pred, i_ltl, i_ltr, i_eql, i_em1, cIn_s, cVd_s, cLo_s, ic_true, ic_false, ic_same, i10, eq_self, b2_0, b2_1, b2_and, b2_t, b2_f, ck']
      exact key 3 (by unfold dmil; rw [if_pos hm])
    · simp (disch := omega) only [eq_false hm, i_nat, Nat.add_zero, Nat.not_lt_zero, i_neg, i_lt, i_le, i_eq, i_add, i_addl, i_addr, i_mulr, i_mull, i_subl, i_pred, i_ltl, i_ltr, i_eql, i_em1, cIn_s, cVd_s, cLo_s, ic_true, ic_false, ic_same, i10, eq_self, b2_0, b2_1, b2_and, b2_t, b2_f, ck']
      exact key 0 (by unfold dmil; rw [if_neg hm])
  · rintro G' lv M1 - ⟨rfl, w1, w2, hD, hf⟩
    have hI1 := decs_SI hN hI hG ht k hk
    have hh : ∀ e, 6 ≤ e → e < 32 → bt ((decs Y N G k).1.1 0 9) e = false := fun e he h32 => by
      have := (hI1.1.bits h32).2.2
      cases hb : bt ((decs Y N G k).1.1 0 9) e
      · rfl
      · have := this hb; omega
    simp (disch := omega) only [e142_27, Nat.lt_irrefl, hD.1.tr.1, sp145 hh, i_nat, Nat.add_zero, Nat.not_lt_zero, i_neg, i_lt, i_le, i_eq, i_add, i_addl, i_addr, i_mulr, i_mull, i_subl, i_pred, i_ltl, i_ltr, i_eql, i_em1, cIn_s, cVd_s, cLo_s, ic_true, ic_false, ic_same, i10, eq_self, b2_0, b2_1, b2_and, b2_t, b2_f, ck']
    exact Hm_some ⟨rfl, by rw [sI_ne (by omega)]; exact w1, by rw [sI_ne (by omega)]; exact w2, sI_eq, hf.sI (by unfold DW; omega)⟩
  · rw [sI_ne (by omega), sI_eq]; rfl
  · rw [sI_eq]; rfl
  · exact ⟨h0.1.fr (W := fun c j => c = 105) (((Fr.rf.sJ (by omega)).sI (by omega)).sI (by omega)) (fun c j a1 a2 => by omega), sJ_eq⟩
end DECADES
