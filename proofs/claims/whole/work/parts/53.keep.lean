/-! states are kept for undo -/
section KEEP
variable {Y N S : YT} {t u d : Nat} {P K : Nat → YT} {mk : Int32} {M M' : Mem}
abbrev PP : Type := YT × YT × Nat × (Nat → YT) × Int32 × (Nat → YT) × Nat × (Nat → Nat → Int32) × Nat × (Nat → Int32) × (Nat → Nat → List Nat)
def CIt (q : PP) (M : Mem) : Prop := CI q.1 q.2.1 q.2.2.1 q.2.2.2.1 q.2.2.2.2.1 q.2.2.2.2.2.1 q.2.2.2.2.2.2.1 q.2.2.2.2.2.2.2.1 q.2.2.2.2.2.2.2.2.1 q.2.2.2.2.2.2.2.2.2.1 q.2.2.2.2.2.2.2.2.2.2 M
def RIt (q : PP) (M : Mem) : Prop := RI q.1 q.2.1 q.2.2.1 q.2.2.2.1 q.2.2.2.2.1 q.2.2.2.2.2.1 q.2.2.2.2.2.2.1 q.2.2.2.2.2.2.2.1 q.2.2.2.2.2.2.2.2.1 q.2.2.2.2.2.2.2.2.2.1 q.2.2.2.2.2.2.2.2.2.2 M
def PIt (t : Nat) (q : PP) : Prop := PI t q.1 q.2.1 q.2.2.1 q.2.2.2.1 q.2.2.2.2.1 q.2.2.2.2.2.1 q.2.2.2.2.2.2.1 q.2.2.2.2.2.2.2.1 q.2.2.2.2.2.2.2.2.1 q.2.2.2.2.2.2.2.2.2.1 q.2.2.2.2.2.2.2.2.2.2
def ClW (c _j : Nat) : Prop := c ≤ 252
def ReW (c _j : Nat) : Prop := 253 ≤ c
theorem Two_st {t' x y : Nat} {ax ay : List AV} (h : ∀ q : PP, PIt t q → ∃ v q', PIt t' q' ∧ (∀ d M, CIt q M → Hm (evD (d + 40) x ax M) (fun r M' => r = some (vI v) ∧ CIt q' M' ∧ Fr ClW M M')) ∧ ∀ d M, RIt q M → Hm (evD (d + 40) y ay M) (fun r M' => r = some (vI v) ∧ RIt q' M' ∧ Fr ReW M M')) : Two t t' x y ax ay := by
  rintro M ⟨Y, N, u, P, mk, K, L, ln, Tn, tp, nm, hp, hc, hr⟩
  obtain ⟨v, q', p', h1, h2⟩ := h (Y, N, u, P, mk, K, L, ln, Tn, tp, nm) hp
  refine Hm_mono (h1 20 M hc) (fun r M1 hh => ⟨v, hh.1, ?_⟩)
  have r1 := hr.fr hp.1.1 hp.2.2.1.1 hp.2.2.2.2.1.1 hh.2.2 (fun c j hcc => by unfold RCo ClW at *; omega)
  refine Hm_mono (h2 20 M1 r1) (fun r' M2 hh2 => ⟨hh2.1, ?_⟩)
  obtain ⟨Y', N', u', P', mk', K', L', ln', Tn', tp', nm'⟩ := q'
  exact ⟨Y', N', u', P', mk', K', L', ln', Tn', tp', nm', p', CI.fr hh.2.1 p'.2.2.1.1 p'.2.2.2.2.1.1 hh2.2.2 (fun c j hcc => by unfold CCo ReW at *; omega), hh2.2.1⟩
/-- how many are kept, and which -/
def kU (u : Nat) : Nat := if u < 16 then u + 1 else 16
def kP (N : YT) (u : Nat) (P : Nat → YT) : Nat → YT := fun i => if u < 16 then (if i = u then N else P i) else (if i = 15 then N else P (i + 1))
theorem sp120 (hu : u ≤ 16) (hU : UC u P M) (hS : SC N 60 M) : Hm (evD (d + 2) 120 [vR 11 0 0] M) (fun r M' => r = none ∧ UC (kU u) (kP N u P) M' ∧ Fr (fun c j => (c = 0 ∧ j = 8) ∨ c = 67 ∨ (113 ≤ c ∧ c ≤ 224)) M M') := by
  obtain ⟨u1, u2, u3, u4⟩ := hU
  -- the copy, into the x-th of the row
  have fin : ∀ (M1 : Mem) (x : Nat) (Q : Nat → YT), x < 16 → M1.1 0 8 = Int32.ofNat x → (∀ i, i < 16 → ∃ j, j < 16 ∧ M1.2.2 67 i = 113 + 7 * j) → (∀ i i', i < 16 → i' < 16 → i ≠ i' → M1.2.2 67 i ≠ M1.2.2 67 i') → (∀ i, i < x → SC (Q i) (M1.2.2 67 i) M1) → SC N 60 M1 → Hm (cVd (evD (d + 1) 121 [vR 6 0 (M1.2.2 67 x), vR 6 0 60] M1) fun M2 => some (none, sI M2 0 8 ((M2.1 0 8) + 1))) (fun r M' => r = none ∧ UC (x + 1) (fun i => if i = x then N else Q i) M' ∧ Fr (fun c j => (c = 0 ∧ j = 8) ∨ c = 67 ∨ (113 ≤ c ∧ c ≤ 224)) M1 M') := by
    intro M1 x Q hx v1 v2 v3 v4 hS1
    obtain ⟨j, hj, ej⟩ := v2 x hx
    refine Hm_cVv (sp121 hS1 (by omega)) (fun M2 h2 => ?_)
    obtain ⟨c2, f2⟩ := h2
    have hr : ∀ i, i < 16 → M2.2.2 67 i = M1.2.2 67 i := fun i hi => f2.r (by omega)
    have e8 : M2.1 0 8 = Int32.ofNat x := (f2.i (by omega)).trans v1
    refine Hm_some ⟨rfl, ⟨by rw [sI_eq, e8, i_addl], fun i hi => ?_, fun i i' a1 a2 a3 => ?_, fun i hi => ?_⟩, (f2.up (fun c j' h => by omega)).sI (by omega)⟩
    · show ∃ j, j < 16 ∧ M2.2.2 67 i = 113 + 7 * j
      rw [hr i hi]; exact v2 i hi
    · show M2.2.2 67 i ≠ M2.2.2 67 i'
      rw [hr i a1, hr i' a2]; exact v3 i i' a1 a2 a3
    · show SC (if i = x then N else Q i) (M2.2.2 67 i) (sI M2 0 8 (M2.1 0 8 + 1))
      rw [hr i (by omega)]
      obtain ⟨j', hj', ej'⟩ := v2 i (by omega)
      have fs : Fr (fun c j => c = 0 ∧ j = 8) M2 (sI M2 0 8 (M2.1 0 8 + 1)) := Fr.rf.sI (by omega)
      by_cases y : i = x
      · subst y; rw [if_pos rfl]; exact c2.fr fs (fun c j a1 a2 => by omega)
      · rw [if_neg y]
        have hne := v3 i x (by omega) hx y
        have s2 := (v4 i (by omega)).fr f2 (fun c j'' a1 a2 => by omega)
        exact s2.fr fs (fun c j a1 a2 => by omega)
  by_cases h16 : u < 16
  · have e := fin M u P h16 u1 u2 u3 u4 hS
    simp (disch := omega) only [e120, u1, i_nat, Nat.add_zero, Nat.not_lt_zero, i_neg, i_lt, i_le, i_eq, i_add, i_addl, i_addr, i_mulr, i_mull, i_subl, i_pred, i_ltl, i_ltr, i_eql, i_em1, cIn_s, cVd_s, cLo_s, ic_true, ic_false, ic_same, i10, eq_self, b2_0, b2_1, b2_and, b2_t, b2_f, ck', h16]
    refine Hm_mono e (fun r M' h => ⟨h.1, ?_, h.2.2⟩)
    have := h.2.1
    unfold kU kP
    simp only [h16, if_true]
    exact this
  · have e16 : u = 16 := by omega
    subst e16
    simp (disch := omega) only [e120, u1, i_nat, Nat.add_zero, Nat.not_lt_zero, i_neg, i_lt, i_le, i_eq, i_add, i_addl, i_addr, i_mulr, i_mull, i_subl, i_pred, i_ltl, i_ltr, i_eql, i_em1, cIn_s, cVd_s, cLo_s, ic_true, ic_false, ic_same, i10, eq_self, b2_0, b2_1, b2_and, b2_t, b2_f, ck', Nat.lt_irrefl, lp0_eq]
    refine lp_for (d := d + 1) (x := 120) (pc := 21) 15 1 0 (by omega) (fun i lv M1 => lv = [some (vR 11 0 0), some (vR 6 0 (M.2.2 67 0)), some (vI (Int32.ofNat (i + 1)))] ∧ M1.1 = M.1 ∧ M1.2.1 = M.2.1 ∧ (∀ x, x < 16 → M1.2.2 67 x = if x < i then M.2.2 67 (x + 1) else M.2.2 67 x) ∧ ∀ c x, c ≠ 67 → M1.2.2 c x = M.2.2 c x) ?_ ?_ 15 0 (by omega) 20000 _ M (by omega) ⟨rfl, rfl, rfl, fun x hx => by rw [if_neg (by omega)], fun c x _ => rfl⟩
    · rintro i hi G lv M1 - ⟨rfl, a1, a2, a3, a4⟩ z
      simp (disch := omega) only [e120_21, i_nat, Nat.add_zero, Nat.not_lt_zero, i_neg, i_lt, i_le, i_eq, i_add, i_addl, i_addr, i_mulr, i_mull, i_subl, i_pred, i_ltl, i_ltr, i_eql, i_em1, cIn_s, cVd_s, cLo_s, ic_true, ic_false, ic_same, i10, eq_self, b2_0, b2_1, b2_and, b2_t, b2_f, ck', eq_true (show i + 1 < 16 by omega), Nat.add_sub_cancel]
      refine z _ _ _ (by omega) ⟨rfl, a1, a2, fun x hx => ?_, fun c x hc => ?_⟩
      · by_cases y : x = i
        · subst y; rw [sR_eq, if_pos (by omega), a3 (x + 1) (by omega), if_neg (by omega)]
        · rw [sR_ne (.inr y), a3 x hx]
          by_cases y2 : x < i
          · rw [if_pos y2, if_pos (by omega)]
          · rw [if_neg y2, if_neg (by omega)]
      · rw [sR_ne (.inl hc)]; exact a4 c x hc
    · rintro G lv M1 - ⟨rfl, a1, a2, a3, a4⟩
      have e15 : Int32.ofNat 16 - 1 = Int32.ofNat 15 := rfl
      simp (disch := omega) only [e120_21, i_nat, Nat.add_zero, Nat.not_lt_zero, i_neg, i_lt, i_le, i_eq, i_add, i_addl, i_addr, i_mulr, i_mull, i_subl, i_pred, i_ltl, i_ltr, i_eql, i_em1, cIn_s, cVd_s, cLo_s, ic_true, ic_false, ic_same, i10, eq_self, b2_0, b2_1, b2_and, b2_t, b2_f, ck', eq_false (show ¬ 15 + 1 < 16 by omega), e15, sI_eq, sR_1]
      -- the row turned
      have hrow : ∀ x, x < 16 → (sI (sR M1 67 15 (M.2.2 67 0)) 0 8 (Int32.ofNat 15)).2.2 67 x = if x = 15 then M.2.2 67 0 else M.2.2 67 (x + 1) := fun x hx => by
        show (sR M1 67 15 (M.2.2 67 0)).2.2 67 x = _
        by_cases y : x = 15
        · subst y; rw [sR_eq, if_pos rfl]
        · rw [sR_ne (.inr y), if_neg y, a3 x hx, if_pos (by omega)]
      have f1 : Fr (fun c j => (c = 0 ∧ j = 8) ∨ c = 67) M (sI (sR M1 67 15 (M.2.2 67 0)) 0 8 (Int32.ofNat 15)) := by
        have f0 : Fr (fun c j => (c = 0 ∧ j = 8) ∨ c = 67) M M1 := fun c j h => ⟨by rw [a1], by rw [a2], a4 c j (by omega)⟩
        exact (f0.sR (by omega)).sI (by omega)
      have e := fin (sI (sR M1 67 15 (M.2.2 67 0)) 0 8 (Int32.ofNat 15)) 15 (fun i => P (i + 1)) (by omega) (by rw [sI_eq]) (fun i hi => by
          rw [hrow i hi]; split
          · exact u2 0 (by omega)
          · exact u2 (i + 1) (by omega)) (fun i i' b1 b2' b3 => by
          rw [hrow i b1, hrow i' b2']
          split <;> split
          · omega
          · exact u3 0 (i' + 1) (by omega) (by omega) (by omega)
          · exact u3 (i + 1) 0 (by omega) (by omega) (by omega)
          · exact u3 (i + 1) (i' + 1) (by omega) (by omega) (by omega)) (fun i hi => by
          rw [hrow i (by omega), if_neg (by omega)]
          obtain ⟨j', hj', ej'⟩ := u2 (i + 1) (by omega)
          exact (u4 (i + 1) (by omega)).fr f1 (fun c j a1 a2 => by omega)) (hS.fr f1 (fun c j a1 a2 => by omega))
      refine Hm_mono e (fun r M' h => ⟨h.1, ?_, (f1.up (fun c j h => by omega)).tr h.2.2⟩)
      have := h.2.1
      unfold kU kP
      simp only [Nat.lt_irrefl, if_false]
      exact this
end KEEP
