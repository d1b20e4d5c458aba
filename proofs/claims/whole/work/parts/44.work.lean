/-! work: what becomes of an act hangs on its own crew alone -/
section WORK
variable {Y N S T : YT} {t a s n c b d e u k j i m W : Nat} {M : Mem} {p q x f set props deg : Int32}
/-- who is hurt by a night -/
def evt (Y : YT) (m : Int32) (S : YT) (c a : Nat) : Bool := up S a && losF S a (melT Y S a m) && decide (mv Y a = c) && decide (S 5 c = Int32.ofNat a)
theorem losF_aEq {v : Int32} (h : aEq S T a) : losF T a v = losF S a v := by unfold losF; rw [h.1]
theorem nit_hurt {mm : Int32} (hN : YN Y) (hI : SI Y b S) (hc : c < 32) : ∀ n, n ≤ nA Y → bt ((nit Y mm S n).1 0 9) c = (bt (S 0 9) c || decide (∃ a, a < n ∧ evt Y mm S c a = true))
  | 0, _ => by simp [nit, rf]
  | n + 1, hn => by
    have h6 := hN.A6
    have hC := hN.C6
    have ih := nit_hurt (mm := mm) hN hI hc n (by omega)
    have hmv := hN.mC (show n < nA Y by omega)
    have e : nit Y mm S (n + 1) = nitA Y mm (nit Y mm S n) n := rfl
    have ge := nit_ge (Y := Y) (m := mm) (S := S) (a := n) (by omega) n (Nat.le_refl _)
    have e5 : (nit Y mm S n).1 5 (mv Y n) = S 5 (mv Y n) := nit_5 n
    have ex : decide (∃ a, a < n + 1 ∧ evt Y mm S c a = true) = (decide (∃ a, a < n ∧ evt Y mm S c a = true) || evt Y mm S c n) := by
      rw [Bool.eq_iff_iff]
      simp only [decide_eq_true_eq, Bool.or_eq_true]
      constructor
      · rintro ⟨a, h1, h2⟩
        by_cases y : a = n
        · subst y; exact .inr h2
        · exact .inl ⟨a, by omega, h2⟩
      · rintro (⟨a, h1, h2⟩ | h)
        · exact ⟨a, by omega, h2⟩
        · exact ⟨n, by omega, h⟩
    rw [e, ex, ← Bool.or_assoc, ← ih]
    have hu := ge.u
    have hm := ge.mT (Y := Y) (m := mm)
    have hl := losF_aEq (v := melT Y S n mm) ge
    generalize hg : nit Y mm S n = g at *
    obtain ⟨G, cnt⟩ := g
    dsimp only at *
    unfold nitA evt
    dsimp only
    rw [hu, hm, hl]
    cases up S n
    · simp
    · simp only [if_true, Bool.true_and]
      cases losF S n (melT Y S n mm)
      · simp only [Bool.false_eq_true, if_false, Bool.false_and, Bool.or_false]
        rw [losS_9]
      · simp only [if_true, Bool.true_and]
        unfold hurS
        rw [losS_5, e5]
        by_cases h5 : S 5 (mv Y n) = Int32.ofNat n
        · rw [if_pos h5, us_eq, losS_9, bt_set (by omega) hc]
          by_cases y : c = mv Y n
          · subst y; simp [h5]
          · simp [y, Ne.symm y]
        · rw [if_neg h5, losS_9]
          by_cases y : mv Y n = c
          · subst y; simp [h5]
          · simp [y]
theorem nitS_hurt {mm : Int32} (hN : YN Y) (hI : SI Y b S) (hc : c < 32) : bt (nitS Y S mm 0 9) c = (bt (S 0 9) c || decide (∃ a, a < nA Y ∧ evt Y mm S c a = true)) := by
  rw [← nit_hurt hN hI hc (nA Y) (Nat.le_refl _)]
  unfold nitS endN
  rw [us_ne (by omega), fls_ne (by omega), fls_ne (by omega)]
theorem nitS_5 {mm : Int32} (hc : c < 6) : nitS Y S mm 5 c = -1 := by
  unfold nitS endN
  rw [us_ne (by omega), fls_ne (by omega), fls_eq hc]
/-- the workers: those who aren't hurt, four at most -/
def wkA (N : YT) : Nat → Nat × (Nat → Nat) := rf (fun g c => if decide (g.1 < 4) && !bt (N 0 9) c then (g.1 + 1, un g.2 g.1 c) else g) (0, fun _ => 0)
theorem wkA_s : wkA N (n + 1) = if decide ((wkA N n).1 < 4) && !bt (N 0 9) n then ((wkA N n).1 + 1, un (wkA N n).2 (wkA N n).1 n) else wkA N n := rfl
theorem wkA_inv : ∀ n, (wkA N n).1 ≤ 4 ∧ (wkA N n).1 ≤ n ∧ ∀ k, k < (wkA N n).1 → (wkA N n).2 k < n ∧ bt (N 0 9) ((wkA N n).2 k) = false ∧ ∀ k', k' < k → (wkA N n).2 k' < (wkA N n).2 k
  | 0 => ⟨by show 0 ≤ 4; omega, Nat.le_refl _, fun k hk => absurd hk (Nat.not_lt_zero _)⟩
  | n + 1 => by
    obtain ⟨i1, i2, i3⟩ := wkA_inv n
    rw [wkA_s]
    generalize wkA N n = g at *
    split
    · rename_i h
      simp only [Bool.and_eq_true, decide_eq_true_eq, Bool.not_eq_true'] at h
      refine ⟨by dsimp only; omega, by dsimp only; omega, fun k hk => ?_⟩
      dsimp only at hk ⊢
      by_cases y : k = g.1
      · subst y
        have e : un g.2 g.1 n g.1 = n := by unfold un; rw [if_pos rfl]
        rw [e]
        refine ⟨by omega, h.2, fun k' hk' => ?_⟩
        unfold un; rw [if_neg (by omega)]; exact (i3 k' hk').1
      · obtain ⟨q1, q2, q3⟩ := i3 k (by omega)
        have e : un g.2 g.1 n k = g.2 k := by unfold un; rw [if_neg y]
        rw [e]
        refine ⟨by omega, q2, fun k' hk' => ?_⟩
        unfold un; rw [if_neg (by omega)]; exact q3 k' hk'
    · exact ⟨i1, by omega, fun k hk => ⟨by have := (i3 k hk).1; omega, (i3 k hk).2⟩⟩
/-- may he work on the i-th day -/
def okW (Y N : YT) (c i : Nat) : Bool := decide (N 5 c = -1) || (decide (i ≠ 0) && !(decide (mv Y (N 5 c).toNatClampNeg = c) && up N (N 5 c).toNatClampNeg && losF N (N 5 c).toNatClampNeg (melT Y N (N 5 c).toNatClampNeg 0)))
/-- one act's day: its crew carves in turn -/
def dnE (Y N : YT) (wk : Nat → Nat) (cr : Nat → Bool) (a i : Nat) (tall : Int32) : Int32 → Nat → Int32 := fun done => rf (fun dn k => if cr k && decide (dn < needs Y a) && okW Y N (wk k) i then chp Y (wk k) tall dn else dn) done
/-- one act's days and nights: (tall, done), or fallen -/
def crw (Y N : YT) (W : Nat) (wk : Nat → Nat) (cr : Nat → Bool) (a : Nat) : Nat → Option (Int32 × Int32)
  | 0 => some (N 1 a, N 2 a)
  | i + 1 => match crw Y N W wk cr a i with
    | none => none
    | some (u, dn) => if 0 < u - melP Y a (spt N a) u (N 3 a) (warm Y (nnt N + i)) then some (u - melP Y a (spt N a) u (N 3 a) (warm Y (nnt N + i)), dnE Y N wk cr a i u dn W) else none
/-- the reference's day: all carve what they take -/
def day (Y : YT) (wk : Nat → Nat) (tk : Nat → Int32) (S : YT) : Nat → YT := rf (fun S k => if decide (¬ tk k < 0) && mayC Y S (wk k) (tk k).toNatClampNeg then carS Y S (wk k) (tk k).toNatClampNeg else S) S
def sim (Y N : YT) (W : Nat) (wk : Nat → Nat) (tk : Nat → Int32) : Nat → YT
  | 0 => N
  | i + 1 => nitS Y (day Y wk tk (sim Y N W wk tk i) W) 0
end WORK
