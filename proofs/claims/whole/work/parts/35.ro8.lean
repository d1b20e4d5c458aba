/-! stands: the reference's recursion -/
section RO8
variable {Y N S : YT} {t a s n c b d e u : Nat} {M : Mem} {p q x f set props deg : Int32}
theorem sp287 {mi : Nat} (hs : s < nB Y) (ha : a < nA Y) (hm : Y 3 15 = Int32.ofNat mi) (hm10 : mi ≤ 10) (hp : rg props 0 4) : ∀ (k d : Nat) (M : Mem) (u : Nat) (tall : Int32) (n : Nat), IY Y M → (tall = Int32.ofNat u ∧ u ≤ 20 ∨ tall.toInt ≤ 0 ∧ u = 0) → n + k < 100000 → k ≤ 8 → Hm (evD (d + k + 5) 287 [vR 12 0 253, vI (Int32.ofNat a), vI (Int32.ofNat s), vI props, vI tall, vI (Int32.ofNat n), vI (Int32.ofNat k)] M) (fun r M' => r = some (vJ (Int64.ofNat (wys Y a s props mi k u n))) ∧ Fr (fun c _ => c = 267 ∨ c = 268) M M') := by
  intro k
  induction k with
  | zero =>
    intro d M u tall n hY ht hn hk
    simp only [e287]
    refine Hm_ic (fun h => ?_) (fun h => ?_)
    · simp only [show (Int32.ofNat 0 = 0) = True from eq_true rfl, ic_true]
      refine Hm_some ⟨?_, Fr.rf⟩
      rcases ht with ⟨rfl, h20⟩ | ⟨h0, -⟩
      · have : ¬ u = 0 := fun z => by subst z; exact absurd h (by decide)
        show _ = some (vJ (Int64.ofNat (if u = 0 then 0 else 1)))
        rw [if_neg this]; rfl
      · rw [t_lt, t_0] at h; omega
    · refine Hm_some ⟨?_, Fr.rf⟩
      have : u = 0 := by
        rcases ht with ⟨rfl, h20⟩ | ⟨-, h0⟩
        · rw [t_lt, t_0, i_toInt (by omega)] at h; omega
        · exact h0
      rw [this, wys_0]; rfl
  | succ k ih =>
    intro d M u tall n hY ht hn hk
    rw [show d + (k + 1) + 5 = (d + k + 5) + 1 by omega]
    simp only [e287]
    refine Hm_ic (fun h => ?_) (fun h => ?_)
    · obtain ⟨rfl, h20⟩ : tall = Int32.ofNat u ∧ u ≤ 20 := by
        rcases ht with z | ⟨h0, -⟩
        · exact z
        · rw [t_lt, t_0] at h; omega
      have hu0 : ¬ u = 0 := fun z => by subst z; exact absurd h (by decide)
      simp (disch := omega) only [i_nat, Nat.add_zero, Nat.not_lt_zero, i_neg, i_lt, i_le, i_eq, i_add, i_addl, i_addr, i_mulr, i_mull, i_subl, i_pred, i_ltl, i_ltr, i_eql, i_em1, cIn_s, cVd_s, cLo_s, ic_true, ic_false, ic_same, i10, eq_self, b2_0, b2_1, b2_and, b2_t, b2_f, ck', eq_false (show ¬ k + 1 = 0 by omega), lp0_eq]
      have hrm : ∀ M', IY Y M' → M'.1 259 5 = Int32.ofNat mi := fun M' h => by rw [h.r.1.1.2.2.2.2, hm]
      -- one of the two kinds of night
      have one : ∀ (m : Int32) (T : Nat) (M1 : Mem) (j : Int32) (l7 : Int64) (F : Nat) (o11 : Option AV) (P : Option AV → Mem → Prop), T ≤ 10 → IY Y M1 → (j = 1 → m = 1) → (j ≠ 1 → m = 0) → (∀ M2 o o', Fr (fun c _ => c = 267 ∨ c = 268) M1 M2 → Hm (lp (d + k + 5) 287 F 20 [some (vR 12 0 253), some (vI (Int32.ofNat a)), some (vI (Int32.ofNat s)), some (vI props), some (vI (Int32.ofNat u)), some (vI (Int32.ofNat n)), some (vI (Int32.ofNat (k + 1))), some (vJ (l7 + Int64.ofNat (T * wys Y a s props mi k (lft Y a s props (warm Y n + md3 m) u) (n + 1)))), none, some (vI (j + 1)), o, o'] M2) P) → Hm (lp (d + k + 5) 287 (F + 3) 52 [some (vR 12 0 253), some (vI (Int32.ofNat a)), some (vI (Int32.ofNat s)), some (vI props), some (vI (Int32.ofNat u)), some (vI (Int32.ofNat n)), some (vI (Int32.ofNat (k + 1))), some (vJ l7), none, some (vI j), some (vI (Int32.ofNat T)), o11] M1) P := by
        intro m T M1 j l7 F o11 P hT hY1 hj1 hj0 hk1
        have go : ∀ M2, Fr (fun c _ => c = 267 ∨ c = 268) M1 M2 → Hm (lp (d + k + 5) 287 (F + 2) 77 [some (vR 12 0 253), some (vI (Int32.ofNat a)), some (vI (Int32.ofNat s)), some (vI props), some (vI (Int32.ofNat u)), some (vI (Int32.ofNat n)), some (vI (Int32.ofNat (k + 1))), some (vJ l7), none, some (vI j), some (vI (Int32.ofNat T)), some (vI (mlt Y a s (Int32.ofNat u) (warm Y n + md3 m) - props))] M2) P := by
          intro M2 f2
          have hY2 : IY Y M2 := hY1.fr f2 (fun c j hc => by unfold yc at *; omega)
          have hmp := mlt_P (Y := Y) (a := a) (s := s) (tall := Int32.ofNat u) (deg := warm Y n + md3 m) hp
          obtain ⟨l1, l2, l3⟩ := lft_eq (Y := Y) (a := a) (s := s) (props := props) (deg := warm Y n + md3 m) (u := u) (by omega) hp
          have hmr := melP_rg (Y := Y) (a := a) (s := s) (tall := Int32.ofNat u) (deg := warm Y n + md3 m) hp
          unfold rg at hmr
          have ht' : (Int32.ofNat u - melP Y a s (Int32.ofNat u) props (warm Y n + md3 m) = Int32.ofNat (lft Y a s props (warm Y n + md3 m) u) ∧ lft Y a s props (warm Y n + md3 m) u ≤ 20) ∨ (Int32.ofNat u - melP Y a s (Int32.ofNat u) props (warm Y n + md3 m)).toInt ≤ 0 ∧ lft Y a s props (warm Y n + md3 m) u = 0 := by
            have e : (Int32.ofNat u - melP Y a s (Int32.ofNat u) props (warm Y n + md3 m)).toInt = (u : Int) - (melP Y a s (Int32.ofNat u) props (warm Y n + md3 m)).toInt := by
              rw [t_sub (by rw [i_toInt (by omega)]; omega) (by rw [i_toInt (by omega)]; omega), i_toInt (by omega)]
            by_cases z : 0 < (u : Int) - (melP Y a s (Int32.ofNat u) props (warm Y n + md3 m)).toInt
            · left; refine ⟨?_, by omega⟩
              rw [t_eq, e, i_toInt (by omega)]; omega
            · right; rw [e]; omega
          have call := ih d M2 (lft Y a s props (warm Y n + md3 m) u) (Int32.ofNat u - melP Y a s (Int32.ofNat u) props (warm Y n + md3 m)) (n + 1) hY2 ht' (by omega) (by omega)
          rw [show F + 2 = (F + 1) + 1 from rfl, e287_77]
          refine Hm_ic (fun z => ?_) (fun z => ?_)
          · simp only [e287_124, Int64.add_zero]
            have T0 : T = 0 := by rw [i_eql (by omega) (by decide)] at z; exact z
            have := hk1 M2 (some (vI (Int32.ofNat T))) (some (vI (mlt Y a s (Int32.ofNat u) (warm Y n + md3 m) - props))) f2
            rw [T0, Nat.zero_mul, show Int64.ofNat 0 = 0 from rfl, Int64.add_zero] at this
            rw [T0]; exact this
          · simp (disch := omega) only [i_nat, Nat.add_zero, Nat.not_lt_zero, i_neg, i_lt, i_le, i_eq, i_add, i_addl, i_addr, i_mulr, i_mull, i_subl, i_pred, i_ltl, i_ltr, i_eql, i_em1, Int32.sub_zero, Nat.add_sub_cancel]
            refine Hm_ic (fun z2 => ?_) (fun z2 => ?_)
            · have e0 : melP Y a s (Int32.ofNat u) props (warm Y n + md3 m) = 0 := by rw [← hmp, ← neg_max, if_pos z2]
              rw [e0, Int32.sub_zero] at call
              refine Hm_cLv call (fun M3 f3 => ?_)
              simp only [e287_124, l_T hT, ← Int64.ofNat_mul]
              exact hk1 M3 _ _ (f2.tr f3)
            · have e0 : melP Y a s (Int32.ofNat u) props (warm Y n + md3 m) = mlt Y a s (Int32.ofNat u) (warm Y n + md3 m) - props := by rw [← hmp, ← neg_max, if_neg z2]
              rw [e0] at call
              refine Hm_cLv call (fun M3 f3 => ?_)
              simp only [e287_124, l_T hT, ← Int64.ofNat_mul]
              exact hk1 M3 _ _ (f2.tr f3)
        rw [show F + 3 = (F + 2) + 1 from rfl, e287_52]
        refine Hm_ic (fun z => ?_) (fun z => ?_)
        · have := hj1 z
          subst this
          exact Hm_cIv (sp242 hY1.r hY1.n hY1.l ha hs (by omega)) (fun M2 f2 => go M2 f2)
        · have := hj0 z
          subst this
          exact Hm_cIv (sp242 hY1.r hY1.n hY1.l ha hs (by omega)) (fun M2 f2 => go M2 f2)
      rw [show (20000 : Nat) = 19996 + 3 + 1 from rfl, e287_20]
      simp only [show ((0 : Int32) < 2) = True by decide, ic_true, show ((0 : Int32) = 1) = False by decide, ic_false, hrm M hY, show (10 : Int32) = Int32.ofNat 10 from rfl, i_sub hm10]
      refine one 0 (10 - mi) M 0 0 _ _ _ (by omega) hY (by decide) (fun _ => rfl) (fun M2 o o' f2 => ?_)
      have hY2 : IY Y M2 := hY.fr f2 (fun c j hc => by unfold yc at *; omega)
      rw [show (19996 : Nat) = 19992 + 3 + 1 from rfl, e287_20]
      simp only [show ((0 : Int32) + 1) = 1 by decide, show ((1 : Int32) < 2) = True by decide, ic_true, eq_self, hrm M2 hY2]
      refine one 1 mi M2 1 _ _ _ _ hm10 hY2 (fun _ => rfl) (by decide) (fun M3 o o' f3 => ?_)
      rw [show (19992 : Nat) = 19991 + 1 from rfl, e287_20]
      simp only [show ((1 : Int32) + 1) = 2 by decide, show ((2 : Int32) < 2) = False by decide, ic_false]
      refine Hm_some ⟨?_, f2.tr f3⟩
      show _ = some (vJ (Int64.ofNat (if u = 0 then 0 else _)))
      rw [if_neg hu0, Int64.ofNat_add, Int64.zero_add, show md3 0 = 0 from rfl, show md3 1 = 3 from rfl, Int32.add_zero]
    · refine Hm_some ⟨?_, Fr.rf⟩
      have : u = 0 := by
        rcases ht with ⟨rfl, h20⟩ | ⟨-, h0⟩
        · rw [t_lt, t_0, i_toInt (by omega)] at h; omega
        · exact h0
      rw [this, wys_0]; rfl
theorem ro_stands {p1 : Int32} (hn : YN Y) (hG : YG Y) (hi : SI Y t N) (ht : t < 10000) : RO 169 286 [vR 11 0 0, vI p, vI p1] [vR 12 0 253, vI p, vI p1] Y t N := by
  have h6 := hn.A6
  by_cases hp : isIn p (nA Y) = true
  · obtain ⟨a, ha, rfl⟩ := isIn_ex (show nA Y < 2147483648 by omega) hp
    cases hu : up N a
    · exact ⟨-1, fun d M hY hN => Hm_p (by simp (disch := omega) only [e169, sp94 hY.c hY.n, isIn_of (show nA Y < 2147483648 by omega) ha, i_nat, Nat.add_zero, Nat.not_lt_zero, i_neg, i_lt, i_le, i_eq, i_add, i_addl, i_addr, i_mulr, i_mull, i_subl, i_pred, i_ltl, i_ltr, i_eql, i_em1, cIn_s, cVd_s, cLo_s, ic_true, ic_false, ic_same, i10, eq_self, b2_0, b2_1, b2_and, b2_t, b2_f, ck', sp97 hN.c, hu]) Fr.rf, fun d M hY hN => Hm_p (by simp (disch := omega) only [e286, sp238 (B := 0) (b := 0) rfl hY.th.r hY.th.n (hN.th h6).r (hN.th h6).i (show 0 ≤ 1078 by omega) ha, hu, i_nat, Nat.add_zero, Nat.not_lt_zero, i_neg, i_lt, i_le, i_eq, i_add, i_addl, i_addr, i_mulr, i_mull, i_subl, i_pred, i_ltl, i_ltr, i_eql, i_em1, cIn_s, cVd_s, cLo_s, ic_true, ic_false, ic_same, i10, eq_self, b2_0, b2_1, b2_and, b2_t, b2_f, ck']) th0⟩
    · by_cases h1 : p1 < 1
      · have hw : wi p1 1 8 = false := by unfold wi; simp [h1]
        exact ⟨-1, fun d M hY hN => Hm_p (by simp (disch := omega) only [e169, sp94 hY.c hY.n, isIn_of (show nA Y < 2147483648 by omega) ha, i_nat, Nat.add_zero, Nat.not_lt_zero, i_neg, i_lt, i_le, i_eq, i_add, i_addl, i_addr, i_mulr, i_mull, i_subl, i_pred, i_ltl, i_ltr, i_eql, i_em1, cIn_s, cVd_s, cLo_s, ic_true, ic_false, ic_same, i10, eq_self, b2_0, b2_1, b2_and, b2_t, b2_f, ck', sp97 hN.c, hu, ic_t h1]) Fr.rf, fun d M hY hN => Hm_p (by simp (disch := omega) only [e286, sp238 (B := 0) (b := 0) rfl hY.th.r hY.th.n (hN.th h6).r (hN.th h6).i (show 0 ≤ 1078 by omega) ha, hu, sp222, hw, i_nat, Nat.add_zero, Nat.not_lt_zero, i_neg, i_lt, i_le, i_eq, i_add, i_addl, i_addr, i_mulr, i_mull, i_subl, i_pred, i_ltl, i_ltr, i_eql, i_em1, cIn_s, cVd_s, cLo_s, ic_true, ic_false, ic_same, i10, eq_self, b2_0, b2_1, b2_and, b2_t, b2_f, ck']) th0⟩
      · by_cases h2 : 8 < p1
        · have hw : wi p1 1 8 = false := by unfold wi; simp [h2]
          exact ⟨-1, fun d M hY hN => Hm_p (by simp (disch := omega) only [e169, sp94 hY.c hY.n, isIn_of (show nA Y < 2147483648 by omega) ha, i_nat, Nat.add_zero, Nat.not_lt_zero, i_neg, i_lt, i_le, i_eq, i_add, i_addl, i_addr, i_mulr, i_mull, i_subl, i_pred, i_ltl, i_ltr, i_eql, i_em1, cIn_s, cVd_s, cLo_s, ic_true, ic_false, ic_same, i10, eq_self, b2_0, b2_1, b2_and, b2_t, b2_f, ck', sp97 hN.c, hu, ic_f h1, ic_t h2]) Fr.rf, fun d M hY hN => Hm_p (by simp (disch := omega) only [e286, sp238 (B := 0) (b := 0) rfl hY.th.r hY.th.n (hN.th h6).r (hN.th h6).i (show 0 ≤ 1078 by omega) ha, hu, sp222, hw, i_nat, Nat.add_zero, Nat.not_lt_zero, i_neg, i_lt, i_le, i_eq, i_add, i_addl, i_addr, i_mulr, i_mull, i_subl, i_pred, i_ltl, i_ltr, i_eql, i_em1, cIn_s, cVd_s, cLo_s, ic_true, ic_false, ic_same, i10, eq_self, b2_0, b2_1, b2_and, b2_t, b2_f, ck']) th0⟩
        · have hw : wi p1 1 8 = true := by unfold wi; simp [h1, h2]
          obtain ⟨n, n1, n8, rfl⟩ := wi_ex1 (l := 1) (m := 8) (by omega) (by omega) hw
          have hmr := hG.2.2.2.2.1
          have hm := rg_nat hmr
          have hm10 : (Y 3 15).toNatClampNeg ≤ 10 := rg_le (k := 10) hmr
          generalize (Y 3 15).toNatClampNeg = mi at *
          refine ⟨(Int64.ofNat (wys Y a (spt N a) (N 3 a) mi n (N 1 a).toNatClampNeg (nnt N)) * 1000000 / Int64.ofNat (10 ^ n)).toInt32, fun d M hY hN => ?_, fun d M hY hN => ?_⟩
          rotate_left
          · have hY' := hY.th
            have hN' := hN.th h6
            have hnb := hN.i.nb
            obtain ⟨e4, es, f1⟩ := hN.i.sp ha hu
            have f2 := (hN.i.a ha).2.2.2.1
            have p3 := (hN.i.a ha).2.2.2.2.2.1
            have p4 : rg (N 3 a) 0 4 := by unfold rg at *; omega
            have ef := rg_nat f2
            have el : (N 1 a).toNatClampNeg ≤ 20 := rg_le (k := 20) f2
            simp only [e286, sp238 (B := 0) (b := 0) rfl hY'.r hY'.n hN'.r hN'.i (show 0 ≤ 1078 by omega) ha, hu, sp222, hw, cIn_s, b2_t, i10, ic_false, lp0_eq]
            refine lp_for (d := d + 39) (x := 286) (pc := 31) n 1 0 (by omega) (fun i lv M' => lv = [some (vR 12 0 253), some (vI (Int32.ofNat a)), some (vI (Int32.ofNat n)), some (vJ (Int64.ofNat (10 ^ i))), none, some (vI (Int32.ofNat i))] ∧ M' = sI M 253 0 0) ?_ ?_ n 0 (by omega) 20000 _ _ (by omega) ⟨rfl, rfl⟩
            · rintro i hi' G lv M' - ⟨rfl, rfl⟩ z
              simp (disch := omega) only [e286_31, i_nat, Nat.add_zero, Nat.not_lt_zero, i_neg, i_lt, i_le, i_eq, i_add, i_addl, i_addr, i_mulr, i_mull, i_subl, i_pred, i_ltl, i_ltr, i_eql, i_em1, cIn_s, cVd_s, cLo_s, ic_true, ic_false, ic_same, i10, eq_self, b2_0, b2_1, b2_and, b2_t, b2_f, ck', hi', (l_dec (n := i) (by omega)).1]
              exact z _ _ _ (by omega) ⟨rfl, rfl⟩
            · rintro G lv M' - ⟨rfl, rfl⟩
              have k4 := hN'.r.n.2.2.2 a ha hu
              have kk := hN'.r.n.2.1 a ha
              simp (disch := omega) only [e286_31, i_nat, Nat.add_zero, Nat.not_lt_zero, i_neg, i_lt, i_le, i_eq, i_add, i_addl, i_addr, i_mulr, i_mull, i_subl, i_pred, i_ltl, i_ltr, i_eql, i_em1, cIn_s, cVd_s, cLo_s, ic_true, ic_false, ic_same, i10, eq_self, b2_0, b2_1, b2_and, b2_t, b2_f, ck', Nat.lt_irrefl, k4, kk, hN'.r.n, e4, hN'.i.n]
              have call := sp287 es ha hm hm10 p4 n (d + 34 - n) (sI M 253 0 0) (N 1 a).toNatClampNeg (N 1 a) (nnt N) hY' (.inl ⟨ef, el⟩) (by omega) n8
              rw [show d + 34 - n + n + 5 = d + 39 by omega] at call
              refine Hm_cLv call (fun M2 f2 => ?_)
              simp only [l_dec n8, ic_false]
              exact Hm_some ⟨rfl, th0.tr (W67 f2)⟩
          · simp (disch := omega) only [e169, sp94 hY.c hY.n, isIn_of (show nA Y < 2147483648 by omega) ha, i_nat, Nat.add_zero, Nat.not_lt_zero, i_neg, i_lt, i_le, i_eq, i_add, i_addl, i_addr, i_mulr, i_mull, i_subl, i_pred, i_ltl, i_ltr, i_eql, i_em1, cIn_s, cVd_s, cLo_s, ic_true, ic_false, ic_same, i10, eq_self, b2_0, b2_1, b2_and, b2_t, b2_f, ck', sp97 hN.c, hu, eq_false (show ¬ n < 1 by omega), eq_false (show ¬ 8 < n by omega)]
            refine Hm_cIv (sp170 (d := d + 31) hY hN ha hu hm hm10 n8) (fun M1 h => ?_)
            exact Hm_some ⟨rfl, h⟩
  · have hp' : isIn p (nA Y) = false := by simpa using hp
    exact ⟨-1, fun d M hY hN => Hm_p (by simp only [e169, sp94 hY.c hY.n, hp', cIn_s, cVd_s, cLo_s, ic_true, ic_false, ic_same, i10, eq_self, b2_0, b2_1, b2_and, b2_t, b2_f]) Fr.rf, fun d M hY hN => Hm_p (by simp only [e286, sp238n hY.th.r hY.th.n hp', cIn_s, cVd_s, cLo_s, ic_true, ic_false, ic_same, i10, eq_self, b2_0, b2_1, b2_and, b2_t, b2_f]) th0⟩
end RO8
