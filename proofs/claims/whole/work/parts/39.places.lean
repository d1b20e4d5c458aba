/-! places: the best row, by values 1000 a place and 1 a night -/
section PLACES
variable {Y N S : YT} {t a s n c b d e u k j met B : Nat} {M : Mem} {p q x f set props deg : Int32}
/-- what a place brings; 0 if it can't be -/
def gn (Y N : YT) (a s : Nat) : Nat := if mayB Y N a (Int32.ofNat s) then 1000 + fall Y a s 0 (nnt N) (Y 14 a) 0 40 else 0
/-- an option: so much, with what may come behind it -/
def wv (g : Nat → Nat) (nx : Nat → Nat) (met s : Nat) : Nat := if g s = 0 ∨ met.testBit s = true then 0 else g s + nx (met ||| 2 ^ s)
/-- the best of the k last acts when met is taken -/
def bs (g : Nat → Nat → Nat) (A B : Nat) : Nat → Nat → Nat
  | 0, _ => 0
  | k + 1, met => rf (fun m s => max m (wv (g (A - (k + 1))) (bs g A B k) met s)) (bs g A B k met) B
/-- the first best option among the first j -/
def rn (g : Nat → Nat) (nx : Nat → Nat) (met : Nat) : Nat → Nat × Int32 := rf (fun r s => if r.1 < wv g nx met s then (wv g nx met s, Int32.ofNat s) else r) (0, -1)
def chs (g : Nat → Nat) (nx : Nat → Nat) (met B : Nat) : Int32 := if nx met ≤ (rn g nx met B).1 then (rn g nx met B).2 else -1
theorem rn_ge {g nx : Nat → Nat} : ∀ j s, s < j → wv g nx met s ≤ (rn g nx met j).1
  | 0, s, h => by omega
  | j + 1, s, h => by
    have ih := rn_ge (g := g) (nx := nx) j
    have e : rn g nx met (j + 1) = if (rn g nx met j).1 < wv g nx met j then (wv g nx met j, Int32.ofNat j) else rn g nx met j := rfl
    rw [e]
    by_cases z : s = j
    · subst z; split
      · exact Nat.le_refl _
      · omega
    · have := ih s (by omega)
      split
      · show _ ≤ wv g nx met j; omega
      · exact this
/-- the best is an option's, the first of its worth -/
theorem rn_at {g nx : Nat → Nat} : ∀ j, ((rn g nx met j).1 = 0 ∧ (rn g nx met j).2 = -1) ∨ ∃ s, s < j ∧ (rn g nx met j).2 = Int32.ofNat s ∧ (rn g nx met j).1 = wv g nx met s ∧ wv g nx met s ≠ 0 ∧ ∀ s', s' < s → wv g nx met s' < wv g nx met s
  | 0 => .inl ⟨rfl, rfl⟩
  | j + 1 => by
    have ih := rn_at (g := g) (nx := nx) j
    have ge := rn_ge (g := g) (nx := nx) (met := met) j
    have e : rn g nx met (j + 1) = if (rn g nx met j).1 < wv g nx met j then (wv g nx met j, Int32.ofNat j) else rn g nx met j := rfl
    rw [e]
    split
    · rename_i h
      refine .inr ⟨j, by omega, rfl, rfl, by omega, fun s' hs' => ?_⟩
      have := ge s' hs'; omega
    · rcases ih with h | ⟨s, h1, h2⟩
      · exact .inl h
      · exact .inr ⟨s, by omega, h2⟩
theorem bs_rn {g : Nat → Nat → Nat} {A : Nat} : bs g A B (k + 1) met = max (rn (g (A - (k + 1))) (bs g A B k) met B).1 (bs g A B k met) := by
  have : ∀ j, rf (fun m s => max m (wv (g (A - (k + 1))) (bs g A B k) met s)) (bs g A B k met) j = max (rn (g (A - (k + 1))) (bs g A B k) met j).1 (bs g A B k met) := by
    intro j
    induction j with
    | zero => show bs g A B k met = max 0 _; omega
    | succ j ih =>
      have e : rn (g (A - (k + 1))) (bs g A B k) met (j + 1) = if (rn (g (A - (k + 1))) (bs g A B k) met j).1 < wv (g (A - (k + 1))) (bs g A B k) met j then (wv (g (A - (k + 1))) (bs g A B k) met j, Int32.ofNat j) else rn (g (A - (k + 1))) (bs g A B k) met j := rfl
      simp only [rf]
      rw [ih, e]
      split
      · dsimp only; omega
      · omega
  exact this B
/-- how many more: open acts among the k last, free spots that are not met -/
def opn (N : YT) (A : Nat) : Nat → Nat
  | 0 => 0
  | k + 1 => opn N A k + (if bt (N 0 7) (A - (k + 1)) then 0 else 1)
def frs (Y N : YT) (B met : Nat) : Nat := sm (fun s => if free Y N (Int32.ofNat s) && !met.testBit s then 1 else 0) B
theorem gn_0 : gn Y N a s = 0 ↔ mayB Y N a (Int32.ofNat s) = false := by
  unfold gn
  cases mayB Y N a (Int32.ofNat s)
  · simp
  · simp
theorem fall_pos : 1 ≤ fall Y a s props n x 0 40 := by
  have : ∀ (k : Nat) (tall : Int32) (i : Nat), i + 1 ≤ fall Y a s props n tall i k := by
    intro k
    induction k with
    | zero => intro tall i; exact Nat.le_refl _
    | succ k ih =>
      intro tall i
      unfold fall
      split
      · have := ih (tall - melP Y a s tall props (warm Y (n + i))) (i + 1); omega
      · exact Nat.le_refl _
  have := this 40 x 0; omega
theorem gn_rg : gn Y N a s = 0 ∨ (1001 ≤ gn Y N a s ∧ gn Y N a s ≤ 1041) := by
  unfold gn
  split
  · right
    have h1 := fall_le (Y := Y) (a := a) (s := s) (props := 0) (n := nnt N) 40 (Y 14 a) 0
    have h2 := fall_pos (Y := Y) (a := a) (s := s) (props := 0) (n := nnt N) (x := Y 14 a)
    omega
  · left; rfl
theorem frs_set (hs : s < B) (hf : free Y N (Int32.ofNat s) = true) (hm : met.testBit s = false) : frs Y N B (met ||| 2 ^ s) + 1 = frs Y N B met := by
  unfold frs
  have := sm_one (f := fun i => if free Y N (Int32.ofNat i) && !(met ||| 2 ^ s).testBit i then 1 else 0) (g := fun i => if free Y N (Int32.ofNat i) && !met.testBit i then 1 else 0) (a := s) B hs (fun e _ hne => by
    rw [Nat.testBit_or, Nat.testBit_two_pow]
    have : decide (s = e) = false := by simp; omega
    rw [this, Bool.or_false])
  rw [Nat.testBit_or, Nat.testBit_two_pow, hf, hm] at this
  simp only [eq_self, decide_true, Bool.or_true, Bool.not_true, Bool.and_false, Bool.not_false, Bool.and_self, Bool.false_eq_true, if_false, if_true, Nat.add_zero] at this
  omega
/-- the worth of the best: so many places, so many nights -/
theorem bs_form {A : Nat} (hA : A ≤ 6) : ∀ k, k ≤ A → ∀ met, ∃ nm, bs (gn Y N) A B k met = 1000 * min (opn N A k) (frs Y N B met) + nm ∧ nm ≤ 41 * k
  | 0, _, met => ⟨0, by simp [bs, opn], by omega⟩
  | k + 1, hk, met => by
    have ih := bs_form hA k (by omega)
    rw [bs_rn]
    have eo : opn N A (k + 1) = opn N A k + (if bt (N 0 7) (A - (k + 1)) then 0 else 1) := rfl
    obtain ⟨n0, e0, b0⟩ := ih met
    -- an option's worth
    have opt : ∀ s, s < B → wv (gn Y N (A - (k + 1))) (bs (gn Y N) A B k) met s ≠ 0 → bt (N 0 7) (A - (k + 1)) = false ∧ 1 ≤ frs Y N B met ∧ ∃ nm, wv (gn Y N (A - (k + 1))) (bs (gn Y N) A B k) met s = 1000 * min (opn N A (k + 1)) (frs Y N B met) + nm ∧ nm ≤ 41 * (k + 1) := by
      intro s hs hw
      unfold wv at hw ⊢
      by_cases z : gn Y N (A - (k + 1)) s = 0 ∨ met.testBit s = true
      · rw [if_pos z] at hw; exact absurd rfl hw
      · rw [if_neg z]
        have z1 : gn Y N (A - (k + 1)) s ≠ 0 := fun q => z (.inl q)
        have z2 : met.testBit s = false := by
          cases q : met.testBit s
          · rfl
          · exact absurd (.inr q) z
        have hb : mayB Y N (A - (k + 1)) (Int32.ofNat s) = true := by
          cases q : mayB Y N (A - (k + 1)) (Int32.ofNat s)
          · exact absurd (gn_0.mpr q) z1
          · rfl
        unfold mayB at hb
        simp only [Bool.and_eq_true, Bool.not_eq_true'] at hb
        have hfr := frs_set hs hb.2 z2
        obtain ⟨n1, e1, b1⟩ := ih (met ||| 2 ^ s)
        have hg := gn_rg (Y := Y) (N := N) (a := A - (k + 1)) (s := s)
        refine ⟨hb.1, by omega, gn Y N (A - (k + 1)) s - 1000 + n1, ?_, by omega⟩
        rw [e1, eo, hb.1]
        simp only [Bool.false_eq_true, if_false]
        have : 1000 * min (opn N A k + 1) (frs Y N B met) = 1000 * min (opn N A k) (frs Y N B (met ||| 2 ^ s)) + 1000 := by
          rw [← hfr]; omega
        rw [this]; omega
    rcases rn_at (g := gn Y N (A - (k + 1))) (nx := bs (gn Y N) A B k) (met := met) B with ⟨h1, -⟩ | ⟨s, hs, -, h1, h2, -⟩
    · rw [h1]
      have hmax : max 0 (bs (gn Y N) A B k met) = bs (gn Y N) A B k met := by omega
      rw [hmax, e0]
      refine ⟨n0, ?_, by omega⟩
      -- no option: the act is begun, or nothing is free
      have hm : min (opn N A (k + 1)) (frs Y N B met) = min (opn N A k) (frs Y N B met) := by
        by_cases hb : bt (N 0 7) (A - (k + 1)) = true
        · rw [eo, hb]; simp
        · have hb' : bt (N 0 7) (A - (k + 1)) = false := by simpa using hb
          have hz : frs Y N B met = 0 := by
            unfold frs
            rw [sm_cong (g := fun _ => 0) B (fun s hs => ?_), sm_zero]
            have hle := rn_ge (g := gn Y N (A - (k + 1))) (nx := bs (gn Y N) A B k) (met := met) B s hs
            rw [h1] at hle
            have hw0 : wv (gn Y N (A - (k + 1))) (bs (gn Y N) A B k) met s = 0 := by omega
            unfold wv at hw0
            cases hf : free Y N (Int32.ofNat s)
            · simp
            · cases ht : met.testBit s
              · exfalso
                have hmb : mayB Y N (A - (k + 1)) (Int32.ofNat s) = true := by unfold mayB; rw [hb', hf]; rfl
                have hg0 : gn Y N (A - (k + 1)) s ≠ 0 := fun q => by rw [gn_0.mp q] at hmb; cases hmb
                have hg := gn_rg (Y := Y) (N := N) (a := A - (k + 1)) (s := s)
                rw [if_neg (by rw [ht]; simp [hg0])] at hw0
                omega
              · simp
          rw [hz]; simp
      rw [hm]
    · obtain ⟨hb, hfr, n1, e1, b1⟩ := opt s hs h2
      rw [h1, e1, e0]
      by_cases hle : 1000 * min (opn N A k) (frs Y N B met) + n0 ≤ 1000 * min (opn N A (k + 1)) (frs Y N B met) + n1
      · exact ⟨n1, by omega, b1⟩
      · have hmm : min (opn N A k) (frs Y N B met) ≤ min (opn N A (k + 1)) (frs Y N B met) := by rw [eo]; omega
        by_cases heq : min (opn N A k) (frs Y N B met) = min (opn N A (k + 1)) (frs Y N B met)
        · rw [heq] at hle ⊢
          exact ⟨n0, by omega, by omega⟩
        · refine ⟨n1, ?_, b1⟩
          omega
end PLACES
