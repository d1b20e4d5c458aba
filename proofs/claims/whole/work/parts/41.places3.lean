/-! places: the reference's search -/
section PLACES3
variable {Y N S : YT} {t a s n c b d e u k j met B P cn : Nat} {M : Mem} {p q x f set props deg : Int32}
/-- a better one is kept -/
def UP (P c n : Nat) (g : Nat × (Nat → Int32)) (w : Nat) (r : Nat → Int32) : Nat × (Nat → Int32) := if c + w / 1000 = P ∧ g.1 ≤ n + w % 1000 then (n + w % 1000 + 1, r) else g
theorem UP_lt {g : Nat × (Nat → Int32)} {v w : Nat} {rv rw' : Nat → Int32} (h : v < w) (hw : c + w / 1000 ≤ P) : UP P c n (UP P c n g v rv) w rw' = UP P c n g w rw' := by
  unfold UP
  by_cases h1 : c + v / 1000 = P ∧ g.1 ≤ n + v % 1000
  · rw [if_pos h1]
    have e1 : c + w / 1000 = P := by omega
    have e2 : v % 1000 < w % 1000 := by omega
    rw [if_pos ⟨e1, by dsimp only; omega⟩, if_pos ⟨e1, by omega⟩]
  · rw [if_neg h1]
theorem UP_ge {g : Nat × (Nat → Int32)} {v w : Nat} {rv rw' : Nat → Int32} (h : w ≤ v) (hv : c + v / 1000 ≤ P) : UP P c n (UP P c n g v rv) w rw' = UP P c n g v rv := by
  unfold UP
  by_cases h1 : c + v / 1000 = P ∧ g.1 ≤ n + v % 1000
  · rw [if_pos h1, if_neg]
    rintro ⟨q1, q2⟩
    dsimp only at q2
    have : w % 1000 ≤ v % 1000 := by omega
    omega
  · rw [if_neg h1, if_neg]
    rintro ⟨q1, q2⟩
    exact h1 ⟨by omega, by omega⟩
/-- the row from an act on -/
def rwS (Y N : YT) (A B : Nat) : Nat → Nat → Nat → Int32
  | 0, _, _ => -1
  | k + 1, met, i => if i = A - (k + 1) then chs (gn Y N (A - (k + 1))) (bs (gn Y N) A B k) met B else rwS Y N A B k (if chs (gn Y N (A - (k + 1))) (bs (gn Y N) A B k) met B = -1 then met else met ||| 2 ^ (chs (gn Y N (A - (k + 1))) (bs (gn Y N) A B k) met B).toNatClampNeg) i
def rJ (a : Nat) (r r' : Nat → Int32) : Nat → Int32 := fun i => if i < a then r i else r' i
/-- the search's memory -/
def PS (Y N : YT) (t P : Nat) (g : Nat × (Nat → Int32)) (a : Nat) (r : Nat → Int32) (M : Mem) : Prop := IY Y M ∧ IN Y t N M ∧ M.1 253 37 = Int32.ofNat P ∧ M.1 253 36 = Int32.ofNat g.1 - 1 ∧ (∀ i, i < nA Y → M.1 276 i = g.2 i) ∧ (∀ i, i < a → M.1 275 i = r i) ∧ ∀ a s, a < nA Y → s < nB Y → M.1 274 (6 * a + s) = Int32.ofNat (fall Y a s 0 (nnt N) (Y 14 a) 0 40)
def PW (a c j : Nat) : Prop := (c = 275 ∧ a ≤ j) ∨ c = 276 ∨ (c = 253 ∧ j = 36)
theorem PS.sc {r r' : Nat → Int32} {g : Nat × (Nat → Int32)} {a a' v : Nat} {M' : Mem} (h : PS Y N t P g a r M) (h6 : nA Y ≤ 6) (hf : Fr (fun c j => c = 275 ∧ a ≤ j) M M') (ha : a' = a + v) (hr : ∀ i, i < a' → M'.1 275 i = r' i) : PS Y N t P g a' r' M' := by
  obtain ⟨q1, q2, q3, q4, q5, q6, q7⟩ := h
  exact ⟨q1.fr hf (fun c j hc => by unfold yc at *; omega), q2.fr h6 hf (fun c j hc => by omega), (hf.i (by omega)).trans q3, (hf.i (by omega)).trans q4, fun i hi => (hf.i (by omega)).trans (q5 i hi), hr, fun a s h1 h2 => (hf.i (by omega)).trans (q7 a s h1 h2)⟩
theorem i_m1 {cn n : Nat} (h1 : cn < 100000) (h2 : n < 100000) : (Int32.ofNat cn - 1 < Int32.ofNat n) = (cn ≤ n) := by
  rw [t_lt, t_sub (by rw [i_toInt (by omega), t_1]; omega) (by rw [i_toInt (by omega), t_1]; omega), i_toInt (by omega), i_toInt (by omega), t_1]
  simp; omega
theorem sp284_0 {g : Nat × (Nat → Int32)} {r : Nat → Int32} (h : PS Y N t P g (nA Y) r M) (hg : g.1 < 10000) (hn : n < 10000) (hP : P < 10000) (hc : c < 10000) (hm : met < 64) : Hm (evD (d + 2) 284 [vR 12 0 253, vI (Int32.ofNat (nA Y)), vI (Int32.ofNat met), vI (Int32.ofNat c), vI (Int32.ofNat n)] M) (fun z M' => z = none ∧ PS Y N t P (UP P c n g 0 (rJ (nA Y) r (fun _ => -1))) (nA Y) r M' ∧ Fr (PW (nA Y)) M M') := by
  obtain ⟨hY, hN, q3, q4, q5, q6, q7⟩ := h
  have h6 := hY.n.A6
  simp (disch := omega) only [e284, sp197 hY.r hY.n, i_nat, Nat.add_zero, Nat.not_lt_zero, i_neg, i_lt, i_le, i_eq, i_add, i_addl, i_addr, i_mulr, i_mull, i_subl, i_pred, i_ltl, i_ltr, i_eql, i_em1, cIn_s, cVd_s, cLo_s, ic_true, ic_false, ic_same, i10, eq_self, b2_0, b2_1, b2_and, b2_t, b2_f, ck', q3, q4, i_m1]
  unfold UP
  simp only [Nat.zero_div, Nat.zero_mod, Nat.add_zero]
  refine Hm_ic (fun h1 => Hm_ic (fun h2 => ?_) (fun h2 => ?_)) (fun h1 => ?_)
  · rw [if_pos ⟨h1, h2⟩]
    simp only [lp0_eq]
    refine lp_for (d := d + 1) (x := 284) (pc := 34) (nA Y) 1 0 (by omega) (fun i lv M' => lv = [some (vR 12 0 253), some (vI (Int32.ofNat (nA Y))), some (vI (Int32.ofNat met)), some (vI (Int32.ofNat c)), some (vI (Int32.ofNat n)), some (vI (Int32.ofNat i))] ∧ (∀ j, j < i → M'.1 276 j = r j) ∧ M'.1 253 36 = Int32.ofNat n ∧ Fr (fun c j => c = 276 ∨ (c = 253 ∧ j = 36)) M M') ?_ ?_ (nA Y) 0 (by omega) 20000 _ _ (by omega) ⟨rfl, fun j hj => by omega, by rw [sI_eq], Fr.rf.sI (by omega)⟩
    · rintro i hi G lv M' - ⟨rfl, hr, h36, hf⟩ z
      have hri : M'.1 275 i = r i := (hf.i (by omega)).trans (q6 i hi)
      simp (disch := omega) only [e284_34b, i_nat, Nat.add_zero, Nat.not_lt_zero, i_neg, i_lt, i_le, i_eq, i_add, i_addl, i_addr, i_mulr, i_mull, i_subl, i_pred, i_ltl, i_ltr, i_eql, i_em1, cIn_s, cVd_s, cLo_s, ic_true, ic_false, ic_same, i10, eq_self, b2_0, b2_1, b2_and, b2_t, b2_f, ck', hi, hri]
      refine z _ _ _ (by omega) ⟨rfl, fun j hj => ?_, by rw [sI_ne (by omega)]; exact h36, hf.sI (by omega)⟩
      by_cases y : j = i
      · subst y; rw [sI_eq]
      · rw [sI_ne (.inr y)]; exact hr j (by omega)
    · rintro G lv M' - ⟨rfl, hr, h36, hf⟩
      simp (disch := omega) only [e284_34b, i_nat, Nat.add_zero, Nat.not_lt_zero, i_neg, i_lt, i_le, i_eq, i_add, i_addl, i_addr, i_mulr, i_mull, i_subl, i_pred, i_ltl, i_ltr, i_eql, i_em1, cIn_s, cVd_s, cLo_s, ic_true, ic_false, ic_same, i10, eq_self, b2_0, b2_1, b2_and, b2_t, b2_f, ck', Nat.lt_irrefl]
      refine Hm_some ⟨rfl, ⟨hY.fr hf (fun c j hc => by unfold yc at *; omega), hN.fr h6 hf (fun c j hc => by omega), (hf.i (by omega)).trans q3, ?_, fun i hi => ?_, fun i hi => (hf.i (by omega)).trans (q6 i hi), fun a s z1 z2 => (hf.i (by omega)).trans (q7 a s z1 z2)⟩, hf.up (fun c j h => by unfold PW; omega)⟩
      · rw [h36]; dsimp only; rw [i_subl (by omega), Nat.add_sub_cancel]
      · rw [hr i hi]; dsimp only; unfold rJ; rw [if_pos hi]
  · rw [if_neg (fun z => h2 z.2)]
    exact Hm_some ⟨rfl, ⟨hY, hN, q3, q4, q5, q6, q7⟩, Fr.rf⟩
  · rw [if_neg (fun z => h1 z.1)]
    exact Hm_some ⟨rfl, ⟨hY, hN, q3, q4, q5, q6, q7⟩, Fr.rf⟩
theorem UP_bd {g : Nat × (Nat → Int32)} {w : Nat} {r : Nat → Int32} (h : g.1 ≤ 400) (hw : n + w % 1000 < 400) : (UP P c n g w r).1 ≤ 400 := by
  unfold UP; split
  · dsimp only; omega
  · exact h
theorem UP_ext {g : Nat × (Nat → Int32)} {w A : Nat} {r r' : Nat → Int32} {M' : Mem} (hr : ∀ i, i < A → r i = r' i) (h : ∀ i, i < A → M'.1 276 i = (UP P c n g w r).2 i) : ∀ i, i < A → M'.1 276 i = (UP P c n g w r').2 i := by
  intro i hi
  rw [h i hi]; unfold UP
  split
  · exact hr i hi
  · rfl
theorem UP_fst {g : Nat × (Nat → Int32)} {w : Nat} {r r' : Nat → Int32} : (UP P c n g w r).1 = (UP P c n g w r').1 := by
  unfold UP; split <;> rfl
theorem PS.ext {g g' : Nat × (Nat → Int32)} {r : Nat → Int32} (h : PS Y N t P g a r M) (h1 : g.1 = g'.1) (h2 : ∀ i, i < nA Y → g.2 i = g'.2 i) : PS Y N t P g' a r M := by
  obtain ⟨q1, q2, q3, q4, q5, q6, q7⟩ := h
  exact ⟨q1, q2, q3, by rw [← h1]; exact q4, fun i hi => by rw [← h2 i hi]; exact q5 i hi, q6, q7⟩
theorem PS.lo {g : Nat × (Nat → Int32)} {r : Nat → Int32} {a' : Nat} (h : PS Y N t P g a r M) (ha : a' ≤ a) : PS Y N t P g a' r M := by
  obtain ⟨q1, q2, q3, q4, q5, q6, q7⟩ := h
  exact ⟨q1, q2, q3, q4, q5, fun i hi => q6 i (by omega), q7⟩
end PLACES3
