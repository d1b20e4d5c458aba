/-! rests: what it answers, what the reference answers, when it throws (pure) -/
section RESTP
variable {d : Nat} {M : Mem}
theorem sp188 {p : Int32} : evD (d + 1) 188 [vI p] M = some (some (vI (b2 (wi p 0 9))), M) := by
  rw [e188]
  unfold wi
  by_cases h1 : p < 0
  · rw [ic_t h1]; simp [h1, b2]
  · rw [ic_f h1, ic_b2n]
    by_cases h2 : 9 < p <;> simp [h1, h2, b2]
def gtv (a b h u l : Int32) : Int32 := if a = 0 then (if b = 0 then h else 0) else (if b = 0 then u else -l)
theorem sp190 {a b h u l : Int32} : evD (d + 1) 190 [vI a, vI b, vI h, vI u, vI l] M = some (some (vI (gtv a b h u l)), M) := by
  simp only [e190, ic_ite, gtv]
theorem sp298 {a b h u l : Int32} : evD (d + 1) 298 [vI a, vI b, vI h, vI u, vI l] M = some (some (vI (gtv a b h u l)), M) := by
  simp only [e298, ic_ite, gtv]
def rstv (k h u l : Int32) : Bool := !decide (gtv (k / 2) (k - k / 2 * 2) h u l < gtv (1 - (k / 2)) (k - k / 2 * 2) h u l) && !decide (gtv (k - k / 2 * 2) (k / 2) h u l < gtv (1 - (k - k / 2 * 2)) (k / 2) h u l)
theorem sp189 {k h u l : Int32} : evD (d + 2) 189 [vI k, vI h, vI u, vI l] M = some (some (vI (b2 (rstv k h u l))), M) := by
  rw [e189]
  simp only [sp190, cIn_s]
  unfold rstv
  by_cases h1 : gtv (k / 2) (k - k / 2 * 2) h u l < gtv (1 - (k / 2)) (k - k / 2 * 2) h u l
  · rw [ic_t h1, decide_eq_true h1]; rfl
  · rw [ic_f h1, decide_eq_false h1, ic_b2n]; rfl
/-- the class's way: n pairs are left from the k-th, s were seen -/
def rfd (g : Nat → Bool) (w : Int32) : Nat → Nat → Int32 → Option Int32
  | 0, _, s => if w = -1 then some s else none
  | n + 1, k, s => if g k = true then (if s = w then some (Int32.ofNat k) else rfd g w n (k + 1) (s + 1)) else rfd g w n (k + 1) s
/-- the reference's way -/
def mfd (g : Nat → Bool) (w : Int32) : Nat → Nat → Int32 → Int32 → Int32 × Int32
  | 0, _, s, f => (s, f)
  | n + 1, k, s, f => if g k = true then mfd g w n (k + 1) (s + 1) (if s = w then Int32.ofNat k else f) else mfd g w n (k + 1) s f
def rsg (h u l : Int32) (k : Nat) : Bool := rstv (Int32.ofNat k) h u l
theorem k_4 {k : Nat} (h : k < 4) : Int32.ofNat k < 4 := by
  rw [i_ltl (by omega) (by decide)]; exact h
theorem k_inc {k : Nat} : Int32.ofNat k + 1 = Int32.ofNat (k + 1) := i_addl
theorem l187 {h u l w : Int32} {o0 : Option AV} : ∀ (n k F : Nat) (s r : Int32), k + n = 4 → n < F → rfd (rsg h u l) w n k s = some r → lp (d + 2) 187 F 41 [o0, some (vI h), some (vI u), some (vI l), some (vI w), some (vI s), some (vI (Int32.ofNat k))] M = some (some (vI r), M)
  | 0, k, F, s, r, hk, hF, e => by
    obtain ⟨G, rfl⟩ : ∃ G, F = G + 1 := ⟨F - 1, by omega⟩
    obtain rfl : k = 4 := by omega
    rw [e187_41, ic_f (by decide)]
    rw [rfd] at e
    by_cases hw : w = -1
    · rw [if_pos hw] at e; rw [ic_t hw, Option.some.inj e]
    · rw [if_neg hw] at e; cases e
  | n + 1, k, F, s, r, hk, hF, e => by
    obtain ⟨G, rfl⟩ : ∃ G, F = G + 1 := ⟨F - 1, by omega⟩
    rw [e187_41, ic_t (k_4 (by omega)), sp189, cIn_s, k_inc]
    rw [rfd] at e
    by_cases hg : rsg h u l k = true
    · rw [if_pos hg] at e
      rw [show rstv (Int32.ofNat k) h u l = true from hg, b2_t, ic_f (by decide)]
      by_cases hs : s = w
      · rw [if_pos hs] at e; rw [ic_t hs, Option.some.inj e]
      · rw [if_neg hs] at e; rw [ic_f hs]
        exact l187 n (k + 1) G (s + 1) r (by omega) (by omega) e
    · rw [if_neg hg] at e
      rw [show rstv (Int32.ofNat k) h u l = false from Bool.eq_false_iff.mpr hg, b2_f, ic_t rfl]
      exact l187 n (k + 1) G s r (by omega) (by omega) e
def RT (h u l w : Int32) : Prop := wi h 0 9 = true ∧ wi u 0 9 = true ∧ wi l 0 9 = true ∧ ¬ w < -1
theorem sp187 {h u l w r : Int32} (c : RT h u l w) (e : rfd (rsg h u l) w 4 0 0 = some r) : evD (d + 3) 187 [vR 11 0 0, vI h, vI u, vI l, vI w] M = some (some (vI r), M) := by
  obtain ⟨c1, c2, c3, c4⟩ := c
  rw [e187]
  rw [sp188, cIn_s, c1, b2_t, ic_f (by decide), sp188, cIn_s, c2, b2_t, ic_f (by decide), sp188, cIn_s, c3, b2_t, ic_f (by decide), ic_f c4, lp0_eq]
  exact l187 4 0 20000 0 r rfl (by decide) e
theorem q186 {G : Nat} {w m s f : Int32} {o1 o2 o3 o8 o9 o10 o11 : Option AV} : lp d 297 (G + 2) 186 [some (vR 12 0 253), o1, o2, o3, some (vI w), some (vI m), some (vI s), some (vI f), o8, o9, o10, o11] M = if m = 0 then some (some (vI 0), sI M 253 0 1) else if w < 0 then some (some (vI s), sI M 253 0 0) else if f < 0 then some (some (vI 0), sI M 253 0 1) else some (some (vI f), sI M 253 0 0) := by
  rw [e297_186]
  by_cases h0 : m = 0
  · rw [ic_t h0, if_pos h0, e297_210, sI_eq, ic_t (by decide)]
  · rw [ic_f h0, if_neg h0]
    by_cases h1 : w < 0
    · rw [ic_t h1, if_pos h1, e297_210, sI_eq, ic_f (by decide), ic_t h1]
    · rw [ic_f h1, if_neg h1]
      by_cases h2 : f < 0
      · rw [ic_t h2, if_pos h2, e297_210, sI_eq, ic_t (by decide)]
      · rw [ic_f h2, if_neg h2, e297_210, sI_eq, ic_f (by decide), ic_f h1]
def rfin (w : Int32) (M : Mem) (p : Int32 × Int32) : Res := if w < 0 then some (some (vI p.1), sI M 253 0 0) else if p.2 < 0 then some (some (vI 0), sI M 253 0 1) else some (some (vI p.2), sI M 253 0 0)
set_option maxRecDepth 4000 in
theorem l297 {h u l w : Int32} : ∀ (n k F : Nat) (s f : Int32) (o9 o10 o11 : Option AV), k + n = 4 → 7 * n + 3 ≤ F → lp (d + 2) 297 F 52 [some (vR 12 0 253), some (vI h), some (vI u), some (vI l), some (vI w), some (vI 1), some (vI s), some (vI f), some (vI (Int32.ofNat k)), o9, o10, o11] M = rfin w M (mfd (rsg h u l) w n k s f)
  | 0, k, F, s, f, o9, o10, o11, hk, hF => by
    obtain ⟨G, rfl⟩ : ∃ G, F = G + 2 + 1 := ⟨F - 3, by omega⟩
    obtain rfl : k = 4 := by omega
    rw [e297_52, ic_f (by decide), q186, if_neg (by decide)]
    rfl
  | n + 1, k, F, s, f, o9, o10, o11, hk, hF => by
    obtain ⟨G, rfl⟩ : ∃ G, F = G + 1 + 1 + 1 + 1 + 1 + 1 + 1 := ⟨F - 7, by omega⟩
    rw [e297_52, ic_t (k_4 (by omega)), ic_f (by decide), sp298, cIn_s, sp298, cIn_s]
    rw [mfd]
    by_cases h1 : gtv (Int32.ofNat k / 2) (Int32.ofNat k - Int32.ofNat k / 2 * 2) h u l < gtv (1 - (Int32.ofNat k / 2)) (Int32.ofNat k - Int32.ofNat k / 2 * 2) h u l
    · have hg : ¬ rsg h u l k = true := by unfold rsg rstv; rw [decide_eq_true h1]; simp
      rw [if_neg hg, ic_t h1, e297_107, ic_t rfl, e297_141b, e297_144, ic_t rfl, e297_161, e297_165, ic_t rfl, e297_180, Int32.add_zero, k_inc]
      exact l297 n (k + 1) _ s f _ _ _ (by omega) (by omega)
    · rw [ic_f h1, e297_107, ic_f (by decide), sp298, cIn_s, sp298, cIn_s]
      by_cases h2 : gtv (Int32.ofNat k - Int32.ofNat k / 2 * 2) (Int32.ofNat k / 2) h u l < gtv (1 - (Int32.ofNat k - Int32.ofNat k / 2 * 2)) (Int32.ofNat k / 2) h u l
      · have hg : ¬ rsg h u l k = true := by unfold rsg rstv; rw [decide_eq_true h2]; simp
        rw [if_neg hg, ic_t h2, e297_141b, e297_144, ic_t rfl, e297_161, e297_165, ic_t rfl, e297_180, Int32.add_zero, k_inc]
        exact l297 n (k + 1) _ s f _ _ _ (by omega) (by omega)
      · have hg : rsg h u l k = true := by unfold rsg rstv; rw [decide_eq_false h1, decide_eq_false h2]; rfl
        rw [if_pos hg, ic_f h2, e297_144, ic_f (by decide)]
        by_cases hs : s = w
        · rw [ic_t hs, if_pos hs, e297_165, ic_f (by decide), e297_180, k_inc]
          exact l297 n (k + 1) _ (s + 1) (Int32.ofNat k) _ _ _ (by omega) (by omega)
        · rw [ic_f hs, if_neg hs, e297_161, e297_165, ic_f (by decide), e297_180, k_inc]
          exact l297 n (k + 1) _ (s + 1) f _ _ _ (by omega) (by omega)
theorem sp297 {h u l w : Int32} (c : RT h u l w) : evD (d + 3) 297 [vR 12 0 253, vI h, vI u, vI l, vI w] M = rfin w M (mfd (rsg h u l) w 4 0 0 (-1)) := by
  obtain ⟨c1, c2, c3, c4⟩ := c
  rw [e297]
  rw [sp222, cIn_s, c1, b2_t, ic_f (by decide), sp222, cIn_s, c2, b2_t, ic_f (by decide), sp222, cIn_s, c3, b2_t, ic_f (by decide), ic_f c4, lp0_eq, show (20000 : Nat) = 19999 + 1 from rfl, e297_43]
  exact l297 4 0 19999 0 (-1) _ _ _ rfl (by decide)
theorem b297 {h u l w : Int32} {o5 o6 o7 o8 o9 o10 o11 : Option AV} : lp0 d 297 40 [some (vR 12 0 253), some (vI h), some (vI u), some (vI l), some (vI w), o5, o6, o7, o8, o9, o10, o11] M = some (some (vI 0), sI M 253 0 1) := by
  rw [lp0_eq, show (20000 : Nat) = 19997 + 1 + 1 + 1 from rfl, e297_40, e297_43, e297_52, ic_t (by decide), ic_t rfl]
  rw [show (19997 : Nat) = 19995 + 2 from rfl, q186, if_pos rfl]
theorem sp297b {h u l w : Int32} (c : ¬ RT h u l w) : evD (d + 3) 297 [vR 12 0 253, vI h, vI u, vI l, vI w] M = some (some (vI 0), sI M 253 0 1) := by
  rw [e297, sp222, cIn_s]
  by_cases c1 : wi h 0 9 = true
  · rw [c1, b2_t, ic_f (by decide), sp222, cIn_s]
    by_cases c2 : wi u 0 9 = true
    · rw [c2, b2_t, ic_f (by decide), sp222, cIn_s]
      by_cases c3 : wi l 0 9 = true
      · rw [c3, b2_t, ic_f (by decide)]
        by_cases c4 : w < -1
        · rw [ic_t c4, b297]
        · exact absurd ⟨c1, c2, c3, c4⟩ c
      · rw [Bool.eq_false_iff.mpr c3, b2_f, ic_t rfl, b297]
    · rw [Bool.eq_false_iff.mpr c2, b2_f, ic_t rfl, b297]
  · rw [Bool.eq_false_iff.mpr c1, b2_f, ic_t rfl, b297]
def rmB (a : Option Int32) (p : Int32 × Int32) (w : Int32) : Bool := match a with
  | some r => (decide (w < 0) && decide (p.1 = r)) || (!decide (w < 0) && decide (p.2 = r) && !decide (r < 0))
  | none => !decide (w < 0) && decide (p.2 < 0)
theorem rfd_no {g : Nat → Bool} {w : Int32} (hw : w ≠ -1) : ∀ (n k : Nat) (s : Int32), (∀ j, j < n → s + Int32.ofNat j ≠ w) → rfd g w n k s = none
  | 0, k, s, h => by rw [rfd, if_neg hw]
  | n + 1, k, s, h => by
    have h0 : s ≠ w := by have := h 0 (by omega); rwa [show s + Int32.ofNat 0 = s from Int32.add_zero s] at this
    rw [rfd, if_neg h0, rfd_no hw n (k + 1) (s + 1) (fun j hj => by rw [Int32.add_assoc, Int32.add_comm 1, k_inc]; exact h (j + 1) (by omega)), rfd_no hw n (k + 1) s (fun j hj => h j (by omega))]
    split <;> rfl
theorem mfd_no {g : Nat → Bool} {w : Int32} : ∀ (n k : Nat) (s f : Int32), (∀ j, j < n → s + Int32.ofNat j ≠ w) → (mfd g w n k s f).2 = f
  | 0, k, s, f, h => rfl
  | n + 1, k, s, f, h => by
    have h0 : s ≠ w := by have := h 0 (by omega); rwa [show s + Int32.ofNat 0 = s from Int32.add_zero s] at this
    rw [mfd, if_neg h0]
    split
    · exact mfd_no n (k + 1) (s + 1) f (fun j hj => by rw [Int32.add_assoc, Int32.add_comm 1, k_inc]; exact h (j + 1) (by omega))
    · exact mfd_no n (k + 1) s f (fun j hj => h j (by omega))
def rg4 (a b c e : Bool) : Nat → Bool := fun k => [a, b, c, e].getD k false
theorem rm_eq (g : Nat → Bool) {w : Int32} (hw : ¬ w < -1) : rmB (rfd g w 4 0 0) (mfd g w 4 0 0 (-1)) w = true := by
  have e1 : rfd g w 4 0 0 = rfd (rg4 (g 0) (g 1) (g 2) (g 3)) w 4 0 0 := rfl
  have e2 : mfd g w 4 0 0 (-1) = mfd (rg4 (g 0) (g 1) (g 2) (g 3)) w 4 0 0 (-1) := rfl
  rw [e1, e2]
  generalize g 0 = a
  generalize g 1 = b
  generalize g 2 = c
  generalize g 3 = e
  have hlt : w < 0 → w = -1 := fun hz => by
    rw [← Int32.toInt_inj]
    rw [Int32.lt_iff_toInt_lt] at hz hw
    have e0 : (0 : Int32).toInt = 0 := by decide
    have e1 : (-1 : Int32).toInt = -1 := by decide
    omega
  by_cases w0 : w = -1
  · subst w0; revert a b c e; decide +kernel
  by_cases w1 : w = 0
  · subst w1; revert a b c e; decide +kernel
  by_cases w2 : w = 1
  · subst w2; revert a b c e; decide +kernel
  by_cases w3 : w = 2
  · subst w3; revert a b c e; decide +kernel
  by_cases w4 : w = 3
  · subst w4; revert a b c e; decide +kernel
  have hs : ∀ j, j < 4 → (0 : Int32) + Int32.ofNat j ≠ w := fun j hj => by
    match j, hj with
    | 0, _ => exact fun z => w1 z.symm
    | 1, _ => exact fun z => w2 z.symm
    | 2, _ => exact fun z => w3 z.symm
    | 3, _ => exact fun z => w4 z.symm
    | j + 4, hj => exact absurd hj (by omega)
  rw [rfd_no w0 4 0 0 hs]
  show (!decide (w < 0) && decide ((mfd (rg4 a b c e) w 4 0 0 (-1)).2 < 0)) = true
  rw [mfd_no 4 0 0 (-1) hs, decide_eq_false (fun z => w0 (hlt z))]
  decide
/-- the two, for every four numbers -/
theorem rests_two (h u l w : Int32) : (∃ r, RT h u l w ∧ rfd (rsg h u l) w 4 0 0 = some r ∧ ∀ M, evD 60 297 [vR 12 0 253, vI h, vI u, vI l, vI w] M = some (some (vI r), sI M 253 0 0)) ∨ ((RT h u l w → rfd (rsg h u l) w 4 0 0 = none) ∧ ∀ M, evD 60 297 [vR 12 0 253, vI h, vI u, vI l, vI w] M = some (some (vI 0), sI M 253 0 1)) := by
  by_cases c : RT h u l w
  · have hm := rm_eq (rsg h u l) c.2.2.2
    cases hr : rfd (rsg h u l) w 4 0 0 with
    | some r =>
      rw [hr] at hm
      refine .inl ⟨r, c, rfl, fun M => ?_⟩
      rw [sp297 (d := 57) c, rfin]
      have hm : ((decide (w < 0) && decide ((mfd (rsg h u l) w 4 0 0 (-1)).1 = r)) || (!decide (w < 0) && decide ((mfd (rsg h u l) w 4 0 0 (-1)).2 = r) && !decide (r < 0))) = true := hm
      by_cases hw : w < 0
      · rw [decide_eq_true hw] at hm
        rw [if_pos hw]
        simp at hm
        rw [hm]
      · rw [decide_eq_false hw] at hm
        rw [if_neg hw]
        simp at hm
        rw [hm.1, if_neg (Int32.not_lt.mpr hm.2)]
    | none =>
      rw [hr] at hm
      refine .inr ⟨fun _ => rfl, fun M => ?_⟩
      rw [sp297 (d := 57) c, rfin]
      have hm : (!decide (w < 0) && decide ((mfd (rsg h u l) w 4 0 0 (-1)).2 < 0)) = true := hm
      simp only [Bool.and_eq_true, Bool.not_eq_true', decide_eq_true_eq, decide_eq_false_iff_not] at hm
      rw [if_neg hm.1, if_pos hm.2]
  · exact .inr ⟨fun z => absurd z c, fun M => sp297b (d := 57) c⟩
theorem Inv.fr {t : Nat} {M M' : Mem} {W : Nat → Nat → Prop} (h : Inv t M) (hf : Fr W M M') (h1 : ∀ c j, CCo c j → ¬ W c j) (h2 : ∀ c j, RCo c j → ¬ W c j) : Inv t M' := by
  obtain ⟨Y, N, u, P, mk, K, L, ln, Tn, tp, nm, hp, hc, hr⟩ := h
  exact ⟨Y, N, u, P, mk, K, L, ln, Tn, tp, nm, hp, hc.fr hp.2.2.1.1 hp.2.2.2.2.1.1 hf h1, hr.fr hp.1.1 hp.2.2.1.1 hp.2.2.2.2.1.1 hf h2⟩
theorem Inv.th {t : Nat} {M : Mem} {v : Int32} (h : Inv t M) : Inv t (sI M 253 0 v) := h.fr (W := fun c j => c = 253 ∧ j = 0) (Fr.rf.sI ⟨rfl, rfl⟩) (fun c j hc => by unfold CCo at hc; omega) (fun c j hc => by unfold RCo at hc; omega)
theorem Inv.out {t : Nat} {M : Mem} {v : Int64} (h : Inv t M) : Inv t (sJ M 278 0 v) := h.fr (W := fun c j => c = 278 ∧ j = 0) (Fr.rf.sJ ⟨rfl, rfl⟩) (fun c j hc => by unfold CCo at hc; omega) (fun c j hc => by unfold RCo at hc; omega)
end RESTP
