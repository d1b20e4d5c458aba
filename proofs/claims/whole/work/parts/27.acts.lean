/-! AN ACT'S OWN ROAD through the nights -/
section ACTS
variable {Y S T : YT} {v m : Int32} {a i n b c : Nat}
def aEq (S T : YT) (a : Nat) : Prop := T 1 a = S 1 a ∧ T 2 a = S 2 a ∧ T 3 a = S 3 a ∧ T 4 a = S 4 a ∧ bt (T 0 7) a = bt (S 0 7) a ∧ bt (T 0 8) a = bt (S 0 8) a ∧ T 0 0 = S 0 0
theorem aEq.rf : aEq S S a := ⟨rfl, rfl, rfl, rfl, rfl, rfl, rfl⟩
theorem aEq.tr {U : YT} (h : aEq S T a) (h2 : aEq T U a) : aEq S U a := ⟨h2.1.trans h.1, h2.2.1.trans h.2.1, h2.2.2.1.trans h.2.2.1, h2.2.2.2.1.trans h.2.2.2.1, h2.2.2.2.2.1.trans h.2.2.2.2.1, h2.2.2.2.2.2.1.trans h.2.2.2.2.2.1, h2.2.2.2.2.2.2.trans h.2.2.2.2.2.2⟩
theorem aEq.u (h : aEq S T a) : up T a = up S a := by unfold up; rw [h.2.2.2.2.1, h.2.2.2.2.2.1]
theorem aEq.mT (h : aEq S T a) : melT Y T a m = melT Y S a m := by
  unfold melT spt nnt; rw [h.1, h.2.2.1, h.2.2.2.1, h.2.2.2.2.2.2]
theorem losS_aEq (h : i ≠ a) (hi : i < 32) (ha : a < 32) : aEq S (losS S i v) a := by
  have h8 : bt (S 0 8 ||| 1 <<< (Int32.ofNat i &&& 31)) a = bt (S 0 8) a := by rw [bt_set hi ha]; simp [Ne.symm h]
  unfold losS
  split
  · unfold aEq; simp (disch := omega) only [us_ne, us_eq', h8, and_self]
  · unfold aEq; simp (disch := omega) only [us_ne, and_self]
theorem hurS_aEq : aEq S (hurS Y S i) a := by
  unfold hurS
  split
  · unfold aEq; simp (disch := omega) only [us_ne, and_self]
  · exact aEq.rf
theorem nitA_aEq {x : Int32} (h : i ≠ a) (hi : i < 32) (ha : a < 32) : aEq S (nitA Y m (S, x) i).1 a := by
  unfold nitA
  dsimp only
  split
  · split
    · exact (losS_aEq h hi ha).tr hurS_aEq
    · exact losS_aEq h hi ha
  · exact aEq.rf
theorem nit_ge (ha : a < 32) : ∀ n, n ≤ a → aEq S (nit Y m S n).1 a
  | 0, _ => aEq.rf
  | n + 1, hn => by
    have ih := nit_ge ha n (by omega)
    have := nitA_aEq (Y := Y) (m := m) (S := (nit Y m S n).1) (x := (nit Y m S n).2) (i := n) (a := a) (by omega) (by omega) ha
    exact ih.tr this
/-- an act behind its own part of the night -/
def aft (Y : YT) (m : Int32) (S : YT) (a : Nat) : YT := (nitA Y m (S, 0) a).1
theorem nitA_fst {x y : Int32} : (nitA Y m (S, x) a).1 = (nitA Y m (S, y) a).1 := by
  unfold nitA; dsimp only; split
  · split <;> rfl
  · rfl
/-- T is S, as far as the act a goes, one night (so much warmer) later -/
def aNit (Y : YT) (m : Int32) (S T : YT) (a : Nat) : Prop :=
  T 2 a = S 2 a ∧ T 3 a = S 3 a ∧ bt (T 0 7) a = bt (S 0 7) a ∧ (up S a = false → T 1 a = S 1 a ∧ T 4 a = S 4 a ∧ up T a = false) ∧
  (up S a = true → T 1 a = imax 0 (S 1 a - melT Y S a m) ∧ up T a = !losF S a (melT Y S a m) ∧ (losF S a (melT Y S a m) = false → T 4 a = S 4 a))
theorem aft_aNit (hI : SI Y b S) (ha : a < 32) {x : Int32} : aNit Y m S (nitA Y m (S, x) a).1 a := by
  unfold nitA
  dsimp only
  cases hu : up S a
  · simp only [Bool.false_eq_true, if_false]
    exact ⟨rfl, rfl, rfl, fun _ => ⟨rfl, rfl, hu⟩, fun z => by rw [hu] at z; cases z⟩
  · simp only [if_true]
    have h8 : bt (S 0 8 ||| 1 <<< (Int32.ofNat a &&& 31)) a = true := by rw [bt_set ha ha]; simp
    cases hl : losF S a (melT Y S a m)
    · simp only [Bool.false_eq_true, if_false]
      unfold aNit
      have e : losS S a (melT Y S a m) = us S 1 a (imax 0 (S 1 a - melT Y S a m)) := by unfold losS; rw [hl]; rfl
      rw [e]
      have hu' : up (us S 1 a (imax 0 (S 1 a - melT Y S a m))) a = true := by unfold up at *; simpa (disch := omega) only [us_ne] using hu
      simp (disch := omega) only [us_ne, us_eq', hu', hu, hl]
      simp
    · simp only [if_true]
      have e : losS S a (melT Y S a m) = us (us (us S 1 a (imax 0 (S 1 a - melT Y S a m))) 0 8 (S 0 8 ||| (1 <<< (Int32.ofNat a &&& 31)))) 4 a (-1) := by unfold losS; rw [hl]; rfl
      have q := hurS_aEq (Y := Y) (S := losS S a (melT Y S a m)) (i := a) (a := a)
      obtain ⟨q1, q2, q3, q4, q5, q6, -⟩ := q
      have hu2 := (hurS_aEq (Y := Y) (S := losS S a (melT Y S a m)) (i := a) (a := a)).u
      have hu' : up (losS S a (melT Y S a m)) a = false := by rw [e]; unfold up; simp (disch := omega) only [us_ne, us_eq', h8]; simp
      unfold aNit
      rw [q1, q2, q3, q5, hu2, hu', e]
      simp (disch := omega) only [us_ne, us_eq', hu, hl]
      simp
theorem aNit.of {S' T' : YT} (h : aNit Y m S' T a) (h1 : aEq S S' a) (h2 : aEq T T' a) : aNit Y m S T' a := by
  unfold aNit at h ⊢
  rw [h2.2.1, h2.2.2.1, h2.2.2.2.2.1, h2.1, h2.2.2.2.1, h2.u]
  have el : ∀ w, losF S a w = losF S' a w := fun w => by unfold losF; rw [h1.1]
  rw [el, ← h1.2.1, ← h1.2.2.1, ← h1.2.2.2.2.1, ← h1.1, ← h1.2.2.2.1, ← h1.u, ← h1.mT]
  exact h
theorem nit_lt (hN : YN Y) (hI : SI Y b S) (ha : a < nA Y) : ∀ n, a < n → n ≤ nA Y → aNit Y m S (nit Y m S n).1 a
  | 0, h, _ => by omega
  | n + 1, h, hn => by
    have h6 := hN.A6
    by_cases z : a = n
    · subst z
      have h1 := nit_ge (Y := Y) (m := m) (S := S) (a := a) (by omega) a (Nat.le_refl _)
      exact (aft_aNit (SI_nit hI hN a (by omega)) (by omega)).of h1 aEq.rf
    · have ih := nit_lt hN hI ha n (by omega) (by omega)
      have := nitA_aEq (Y := Y) (m := m) (S := (nit Y m S n).1) (x := (nit Y m S n).2) (i := n) (a := a) (by omega) (by omega) (by omega)
      exact ih.of aEq.rf this
theorem nitS_a (hN : YN Y) (hI : SI Y b S) (ha : a < nA Y) : aNit Y m S (nitS Y S m) a := by
  have h6 := hN.A6
  have h := nit_lt (m := m) hN hI ha (nA Y) ha (Nat.le_refl _)
  unfold nitS
  generalize (nit Y m S (nA Y)).1 = T at *
  have hu : up (endN T) a = up T a := by unfold up endN; simp (disch := omega) only [us_ne, fls_ne]
  unfold aNit at *
  rw [hu]
  unfold endN
  simp (disch := omega) only [us_ne, fls_ne]
  exact h
theorem nit_0 : ∀ n, (nit Y m S n).1 0 0 = S 0 0
  | 0 => rfl
  | n + 1 => by
    have ih := nit_0 n
    show (nitA Y m (nit Y m S n) n).1 0 0 = S 0 0
    unfold nitA losS hurS
    repeat' split
    all_goals (try simp (disch := omega) only [us_ne, ih])
theorem nit_5 : ∀ n, (nit Y m S n).1 5 c = S 5 c
  | 0 => rfl
  | n + 1 => by
    have ih := nit_5 n
    show (nitA Y m (nit Y m S n) n).1 5 c = S 5 c
    unfold nitA losS hurS
    repeat' split
    all_goals (try simp (disch := omega) only [us_ne, ih])
theorem nitS_n (hI : SI Y b S) (hb : b < 1000000) : nnt (nitS Y S m) = nnt S + 1 := by
  have hn := hI.nb
  apply nnt_of
  · unfold nitS endN; rw [us_eq, nit_0, hI.n, i_addl]
  · omega
/-- so many nights as told -/
def nS (Y S : YT) : Nat → YT
  | 0 => S
  | n + 1 => nitS Y (nS Y S n) 0
theorem nS_SI (hN : YN Y) (hI : SI Y b S) : ∀ n, b + n < 1000000 → SI Y (b + n) (nS Y S n)
  | 0, _ => hI
  | n + 1, h => SI_nitS (b := b + n) (nS_SI hN hI n (by omega)) hN (by omega)
theorem nS_n (hN : YN Y) (hI : SI Y b S) : ∀ n, b + n < 1000000 → nnt (nS Y S n) = nnt S + n
  | 0, _ => rfl
  | n + 1, h => by
    show nnt (nitS Y (nS Y S n) 0) = _
    rw [nitS_n (nS_SI hN hI n (by omega)) (by omega), nS_n hN hI n (by omega)]; omega
theorem nS_same (hN : YN Y) (hI : SI Y b S) (ha : a < nA Y) : ∀ n, b + n < 1000000 → nS Y S n 2 a = S 2 a ∧ nS Y S n 3 a = S 3 a ∧ bt (nS Y S n 0 7) a = bt (S 0 7) a
  | 0, _ => ⟨rfl, rfl, rfl⟩
  | n + 1, h => by
    have ih := nS_same hN hI ha n (by omega)
    have s := nitS_a (m := 0) hN (nS_SI hN hI n (by omega)) ha
    exact ⟨s.1.trans ih.1, s.2.1.trans ih.2.1, s.2.2.1.trans ih.2.2⟩
theorem nS_down (hN : YN Y) (hI : SI Y b S) (ha : a < nA Y) : ∀ k n, b + n + k < 1000000 → up (nS Y S n) a = false → up (nS Y S (n + k)) a = false
  | 0, n, _, h => h
  | k + 1, n, hk, h => by
    have ih := nS_down hN hI ha k n (by omega) h
    have s := nitS_a (m := 0) hN (nS_SI hN hI (n + k) (by omega)) ha
    exact (s.2.2.2.1 ih).2.2
/-- while it stands: its spot -/
theorem nS_spot (hN : YN Y) (hI : SI Y b S) (ha : a < nA Y) : ∀ n, b + n < 1000000 → up (nS Y S n) a = true → nS Y S n 4 a = S 4 a ∧ up S a = true
  | 0, _, h => ⟨rfl, h⟩
  | n + 1, hk, h => by
    have s := nitS_a (m := 0) hN (nS_SI hN hI n (by omega)) ha
    cases hu : up (nS Y S n) a
    · have := (s.2.2.2.1 hu).2.2
      rw [show nS Y S (n + 1) = nitS Y (nS Y S n) 0 from rfl] at h
      rw [this] at h; cases h
    · have ih := nS_spot hN hI ha n (by omega) hu
      have s2 := s.2.2.2.2 hu
      rw [show nS Y S (n + 1) = nitS Y (nS Y S n) 0 from rfl] at h ⊢
      rw [s2.2.1] at h
      have hl : losF (nS Y S n) a (melT Y (nS Y S n) a 0) = false := by revert h; cases losF (nS Y S n) a (melT Y (nS Y S n) a 0) <;> simp
      exact ⟨(s2.2.2 hl).trans ih.1, ih.2⟩
/-- the fall, by nights: it stands through n nights just if the fall comes behind them -/
theorem fall_gt (hN : YN Y) (hI : SI Y b S) (ha : a < nA Y) (hu : up S a = true) : ∀ k i, b + i + k < 1000000 → up (nS Y S i) a = true → (∀ j, j ≤ k → (up (nS Y S (i + j)) a = true ↔ i + j < fall Y a (spt S a) (S 3 a) (nnt S) (nS Y S i 1 a) i k)) ∧ fall Y a (spt S a) (S 3 a) (nnt S) (nS Y S i 1 a) i k ≤ i + k + 1 ∧ i + 1 ≤ fall Y a (spt S a) (S 3 a) (nnt S) (nS Y S i 1 a) i k
  | 0, i, hk, h => by
    refine ⟨fun j hj => ?_, Nat.le_refl _, Nat.le_refl _⟩
    obtain rfl : j = 0 := by omega
    exact ⟨fun _ => by show i + 0 < i + 1; omega, fun _ => h⟩
  | k + 1, i, hk, h => by
    have hIi := nS_SI hN hI i (by omega)
    have s := (nitS_a (m := 0) hN hIi ha).2.2.2.2 h
    have eS : nS Y S (i + 1) = nitS Y (nS Y S i) 0 := rfl
    rw [← eS] at s
    have em : melT Y (nS Y S i) a 0 = melP Y a (spt S a) (nS Y S i 1 a) (S 3 a) (warm Y (nnt S + i)) := by
      unfold melT
      rw [nS_n hN hI i (by omega), (nS_same hN hI ha i (by omega)).2.1, Int32.add_zero]
      congr 1
      unfold spt; rw [(nS_spot hN hI ha i (by omega) h).1]
    have hr := (hIi.a ha).2.2.2.1
    have hm := melT_rg (m := 0) hIi ha
    have e1 : (imax 0 (nS Y S i 1 a - melT Y (nS Y S i) a 0)).toInt = max 0 ((nS Y S i 1 a).toInt - (melT Y (nS Y S i) a 0).toInt) := by
      unfold rg at *; rw [t_max, t_sub (by omega) (by omega), t_0]
    have e2 : (nS Y S i 1 a - melT Y (nS Y S i) a 0).toInt = (nS Y S i 1 a).toInt - (melT Y (nS Y S i) a 0).toInt := by
      unfold rg at *; rw [t_sub (by omega) (by omega)]
    have ef : fall Y a (spt S a) (S 3 a) (nnt S) (nS Y S i 1 a) i (k + 1) = if 0 < nS Y S i 1 a - melT Y (nS Y S i) a 0 then fall Y a (spt S a) (S 3 a) (nnt S) (nS Y S i 1 a - melT Y (nS Y S i) a 0) (i + 1) k else i + 1 := by rw [em]; rfl
    rw [ef]
    by_cases hp : 0 < nS Y S i 1 a - melT Y (nS Y S i) a 0
    · have e3 : imax 0 (nS Y S i 1 a - melT Y (nS Y S i) a 0) = nS Y S i 1 a - melT Y (nS Y S i) a 0 := by
        rw [t_lt, t_0, e2] at hp; rw [t_eq, e1, e2]; omega
      have hl : losF (nS Y S i) a (melT Y (nS Y S i) a 0) = false := by unfold losF; rw [e3]; simp [hp]
      rw [if_pos hp, ← e3, ← s.1]
      have hu1 : up (nS Y S (i + 1)) a = true := by rw [s.2.1, hl]; rfl
      obtain ⟨i1, i2, i3⟩ := fall_gt hN hI ha hu k (i + 1) (by omega) hu1
      refine ⟨fun j hj => ?_, by omega, by omega⟩
      by_cases z : j = 0
      · subst z; exact ⟨fun _ => by omega, fun _ => h⟩
      · have := i1 (j - 1) (by omega)
        rwa [show i + 1 + (j - 1) = i + j by omega] at this
    · rw [if_neg hp]
      have hl : losF (nS Y S i) a (melT Y (nS Y S i) a 0) = true := by
        unfold losF; rw [t_lt, t_0, e2] at hp
        simp only [Bool.not_eq_true', decide_eq_false_iff_not]; rw [t_lt, t_0, e1]; omega
      have hu1 : up (nS Y S (i + 1)) a = false := by rw [s.2.1, hl]; rfl
      refine ⟨fun j hj => ?_, by omega, Nat.le_refl _⟩
      by_cases z : j = 0
      · subst z; exact ⟨fun _ => by omega, fun _ => h⟩
      · have hd := nS_down hN hI ha (j - 1) (i + 1) (by omega) hu1
        rw [show i + 1 + (j - 1) = i + j by omega] at hd
        rw [hd]
        exact ⟨fun z => (by cases z), fun z => by omega⟩
end ACTS
