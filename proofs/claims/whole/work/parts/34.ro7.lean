/-! stands -/
section RO7
variable {Y N S : YT} {t a s n c b d e u : Nat} {M : Mem} {p q x f set props deg : Int32}
/-- what is left of so much ice behind a night -/
def lft (Y : YT) (a s : Nat) (props deg : Int32) (u : Nat) : Nat := (imax 0 (Int32.ofNat u - melP Y a s (Int32.ofNat u) props deg)).toNatClampNeg
theorem lft_eq (hu : u ≤ 1000) (hp : rg props 0 4) : imax 0 (Int32.ofNat u - melP Y a s (Int32.ofNat u) props deg) = Int32.ofNat (lft Y a s props deg u) ∧ lft Y a s props deg u ≤ u ∧ ((lft Y a s props deg u : Int) = max 0 ((u : Int) - (melP Y a s (Int32.ofNat u) props deg).toInt)) := by
  have h := melP_rg (Y := Y) (a := a) (s := s) (tall := Int32.ofNat u) (deg := deg) hp
  unfold rg at h
  have e : (imax 0 (Int32.ofNat u - melP Y a s (Int32.ofNat u) props deg)).toInt = max 0 ((u : Int) - (melP Y a s (Int32.ofNat u) props deg).toInt) := by
    rw [t_max, t_sub (by rw [i_toInt (by omega)]; omega) (by rw [i_toInt (by omega)]; omega), t_0, i_toInt (by omega)]
  have e2 : (lft Y a s props deg u : Int) = max 0 ((u : Int) - (melP Y a s (Int32.ofNat u) props deg).toInt) := by
    unfold lft; rw [Int32.toNatClampNeg, e]; omega
  refine ⟨?_, by omega, e2⟩
  rw [t_eq, i_toInt (by omega), e, e2]
/-- the ways of ten to the nights in which it stands -/
def wys (Y : YT) (a s : Nat) (props : Int32) (mi : Nat) : Nat → Nat → Nat → Nat
  | 0, u, _ => if u = 0 then 0 else 1
  | k + 1, u, n => if u = 0 then 0 else (10 - mi) * wys Y a s props mi k (lft Y a s props (warm Y n) u) (n + 1) + mi * wys Y a s props mi k (lft Y a s props (warm Y n + 3) u) (n + 1)
theorem wys_0 {mi k : Nat} : wys Y a s props mi k 0 n = 0 := by cases k <;> rfl
def flJ (M : Mem) (k n : Nat) (v : Int64) : Mem := (M.1, fun a b => if a = k ∧ b < n then v else M.2.1 a b, M.2.2)
theorem flJ_eq {k b : Nat} {v : Int64} (h : b < n) : (flJ M k n v).2.1 k b = v := by simp [flJ, h]
theorem flJ_ne {k a b : Nat} {v : Int64} (h : a ≠ k) : (flJ M k n v).2.1 a b = M.2.1 a b := by simp [flJ, h]
theorem flJ_1 {k : Nat} {v : Int64} : (flJ M k n v).1 = M.1 := rfl
theorem flJ_s {k i : Nat} {v : Int64} : sJ (flJ M k i v) k i v = flJ M k (i + 1) v := by
  refine Prod.ext rfl (Prod.ext ?_ rfl)
  funext a b
  simp only [sJ, flJ]
  by_cases h : a = k
  · subst h
    simp only [true_and]
    by_cases h2 : b = i
    · simp [h2]
    · simp only [h2, if_false]
      by_cases h3 : b < i
      · simp [h3, show b < i + 1 by omega]
      · simp [h3, show ¬ b < i + 1 by omega]
  · simp [h]
theorem flJ_0 {k : Nat} {v : Int64} : flJ M k 0 v = M := by
  refine Prod.ext rfl (Prod.ext ?_ rfl)
  funext a b
  simp [flJ]
theorem Fr.flJ {W : Nat → Nat → Prop} {M M' : Mem} {k n : Nat} {v : Int64} (h : Fr W M M') (hw : ∀ j, W k j) : Fr W M (flJ M' k n v) := fun c i hn => by
  have h2 : c ≠ k := fun z => hn (z ▸ hw i)
  exact ⟨(h c i hn).1, (flJ_ne h2).trans (h c i hn).2.1, (h c i hn).2.2⟩
theorem Fr.cpJ {W : Nat → Nat → Prop} {M M' : Mem} {a sp b dp n : Nat} (h : Fr W M M') (hw : ∀ j, W b j) : Fr W M (cpJ M' a sp b dp n) := fun c i hn => by
  have h2 : c ≠ b := fun z => hn (z ▸ hw i)
  exact ⟨(h c i hn).1, by show (if c = b then _ else M'.2.1 c i) = _; rw [if_neg h2]; exact (h c i hn).2.1, (h c i hn).2.2⟩
theorem cpJ_eq {a b j : Nat} (h : j < n) : (cpJ M a 0 b 0 n).2.1 b j = M.2.1 a j := by
  simp only [cpJ, va_cpy, if_true, Nat.zero_le, Nat.zero_add, h, and_self, Nat.sub_zero]
theorem sp171 {k : Nat} {v : Int64} (hn : n ≤ 1000) : evD (d + 1) 171 [vR 23 n k, vJ v] M = some (none, flJ M k n v) := by
  have h : Hm (evD (d + 1) 171 [vR 23 n k, vJ v] M) (fun r M' => r = none ∧ M' = flJ M k n v) := by
    rw [e171]; simp only [lp0_eq]
    refine lp_for (d := d) (x := 171) (pc := 6) n 1 0 (by omega) (fun i lv M' => lv = [some (vR 23 n k), some (vJ v), none, some (vI (Int32.ofNat i)), some (vI (Int32.ofNat n))] ∧ M' = flJ M k i v) ?_ ?_ n 0 (by omega) 20000 _ M (by omega) ⟨rfl, flJ_0.symm⟩
    · rintro i hi G lv M' - ⟨rfl, rfl⟩ q
      simp (disch := omega) only [e171_6, i_nat, Nat.add_zero, Nat.not_lt_zero, i_neg, i_lt, i_le, i_eq, i_add, i_addl, i_addr, i_mulr, i_mull, i_subl, i_pred, i_ltl, i_ltr, i_eql, i_em1, cIn_s, cVd_s, cLo_s, ic_true, ic_false, ic_same, i10, eq_self, b2_0, b2_1, b2_and, b2_t, b2_f, ck', hi]
      exact q _ _ _ (by omega) ⟨rfl, flJ_s⟩
    · rintro G lv M' - ⟨rfl, rfl⟩
      simp (disch := omega) only [e171_6, i_nat, Nat.add_zero, Nat.not_lt_zero, i_neg, i_lt, i_le, i_eq, i_add, i_addl, i_addr, i_mulr, i_mull, i_subl, i_pred, i_ltl, i_ltr, i_eql, i_em1, cIn_s, cVd_s, cLo_s, ic_true, ic_false, ic_same, i10, eq_self, b2_0, b2_1, b2_and, b2_t, b2_f, ck', Nat.lt_irrefl]
      exact Hm_some ⟨rfl, rfl⟩
  obtain ⟨a, M', h1, h2, h3⟩ := h
  rw [h1, h2, h3]
def un (P : Nat → Nat) (j v : Nat) : Nat → Nat := fun i => if i = j then v else P i
/-- the odds are spread -/
def spd (O : Nat → Nat) (T : Nat) (g : Nat → Nat) (P : Nat → Nat) : Nat → Nat → Nat
  | 0 => P
  | i + 1 => un (spd O T g P i) (g (i + 1)) (spd O T g P i (g (i + 1)) + O (i + 1) * T)
theorem sm_un {P R : Nat → Nat} {j v : Nat} : ∀ n, j < n → sm (fun i => un P j (P j + v) i * R i) n = sm (fun i => P i * R i) n + v * R j
  | 0, h => by omega
  | n + 1, h => by
    simp only [sm]
    by_cases z : j = n
    · subst z
      rw [sm_cong (g := fun i => P i * R i) j (fun e he => by unfold un; rw [if_neg (by omega)])]
      unfold un
      rw [if_pos rfl, Nat.add_mul]; omega
    · rw [sm_un n (by omega)]
      unfold un
      rw [if_neg (Ne.symm z)]; omega
theorem spd_V {O g P R : Nat → Nat} {T : Nat} (hg : ∀ u, 1 ≤ u → u < 21 → g u < 21) : ∀ i, i ≤ 20 → sm (fun j => spd O T g P i j * R j) 21 = sm (fun j => P j * R j) 21 + T * sm (fun u => O (u + 1) * R (g (u + 1))) i
  | 0, _ => by simp [spd, sm]
  | i + 1, h => by
    have ih := spd_V (O := O) (P := P) (R := R) (T := T) hg i (by omega)
    show sm (fun j => un (spd O T g P i) (g (i + 1)) (spd O T g P i (g (i + 1)) + O (i + 1) * T) j * R j) 21 = _
    rw [sm_un 21 (hg (i + 1) (by omega) (by omega)), ih]
    simp only [sm]
    rw [Nat.mul_add, show T * (O (i + 1) * R (g (i + 1))) = O (i + 1) * T * R (g (i + 1)) by rw [← Nat.mul_assoc, Nat.mul_comm T]]
    omega
/-- one night of the odds -/
def nxt (mi : Nat) (g g3 O : Nat → Nat) : Nat → Nat := spd O mi g3 (spd O (10 - mi) g (fun _ => 0) 20) 20
theorem nxt_V {mi : Nat} {g g3 O R : Nat → Nat} (hg : ∀ u, 1 ≤ u → u < 21 → g u < 21) (hg3 : ∀ u, 1 ≤ u → u < 21 → g3 u < 21) : sm (fun j => nxt mi g g3 O j * R j) 21 = sm (fun u => O (u + 1) * ((10 - mi) * R (g (u + 1)) + mi * R (g3 (u + 1)))) 20 := by
  unfold nxt
  rw [spd_V hg3 20 (by omega), spd_V hg 20 (by omega)]
  rw [sm_cong (f := fun j => 0 * R j) (g := fun _ => 0) 21 (fun j _ => by rw [Nat.zero_mul]), sm_zero, Nat.zero_add]
  have hm : ∀ (c : Nat) (h : Nat → Nat) n, c * sm h n = sm (fun u => c * h u) n := by
    intro c h n
    induction n with
    | zero => rfl
    | succ n ih => simp only [sm]; rw [Nat.mul_add, ih]
  rw [hm, hm, ← sm_add]
  refine sm_cong _ (fun u _ => ?_)
  rw [Nat.mul_add, ← Nat.mul_assoc, ← Nat.mul_assoc, Nat.mul_comm (10 - mi), Nat.mul_comm mi, Nat.mul_assoc, Nat.mul_assoc]
theorem sm_shift {h : Nat → Nat} (h0 : h 0 = 0) : ∀ n, sm h (n + 1) = sm (fun u => h (u + 1)) n
  | 0 => by simp [sm, h0]
  | n + 1 => by
    show sm h (n + 1) + h (n + 1) = sm (fun u => h (u + 1)) n + h (n + 1)
    rw [sm_shift h0 n]
theorem sm_get {h : Nat → Nat} : ∀ n j, j < n → h j ≤ sm h n
  | 0, j, hj => by omega
  | n + 1, j, hj => by
    simp only [sm]
    by_cases z : j = n
    · subst z; omega
    · have := sm_get (h := h) n j (by omega); omega
theorem l_lt {a b : Nat} (ha : a < 9223372036854775808) (hb : b < 9223372036854775808) : (Int64.ofNat a < Int64.ofNat b) = (a < b) := by
  rw [Int64.lt_iff_toInt_lt, Int64.toInt_ofNat_of_lt ha, Int64.toInt_ofNat_of_lt hb]; simp
theorem l_T {T : Nat} (h : T ≤ 10) : (Int32.ofNat T).toInt64 = Int64.ofNat T := by
  have : ∀ T : Fin 11, (Int32.ofNat T.1).toInt64 = Int64.ofNat T.1 := by decide
  exact this ⟨T, by omega⟩
theorem un_id {P : Nat → Nat} {j : Nat} : un P j (P j) = P := by
  funext i; unfold un; split
  · rename_i h; rw [h]
  · rfl
theorem sp172 {O P : Nat → Nat} {T : Nat} (hY : IY Y M) (hN : IN Y t N M) (ha : a < nA Y) (hu : up N a = true) (hT : T ≤ 10) (hO : ∀ u, u < 21 → M.2.1 98 u = Int64.ofNat (O u) ∧ O u < 1000000000000) (hP : ∀ u, u < 21 → M.2.1 99 u = Int64.ofNat (P u)) :
    Hm (evD (d + 6) 172 [vR 3 0 69, vI (Int32.ofNat a), vI deg, vI (Int32.ofNat T)] M) (fun r M' => r = none ∧ (∀ u, u < 21 → M'.2.1 98 u = Int64.ofNat (O u)) ∧ (∀ u, u < 21 → M'.2.1 99 u = Int64.ofNat (spd O T (lft Y a (spt N a) (N 3 a) deg) P 20 u)) ∧ Fr (fun c j => c = 22 ∨ c = 99) M M') := by
  have h6 := hY.n.A6
  have hB := hY.n.B6
  obtain ⟨e4, es, -⟩ := hN.i.sp ha hu
  have p3 := (hN.i.a ha).2.2.2.2.2.1
  have p4 : rg (N 3 a) 0 4 := by unfold rg at *; omega
  rw [e172]; simp only [lp0_eq]
  refine lp_for (d := d + 5) (x := 172) (pc := 3) 20 1 0 (by omega) (fun i lv M' => ∃ o, lv = [some (vR 3 0 69), some (vI (Int32.ofNat a)), some (vI deg), some (vI (Int32.ofNat T)), some (vI (Int32.ofNat (i + 1))), o] ∧ (∀ u, u < 21 → M'.2.1 99 u = Int64.ofNat (spd O T (lft Y a (spt N a) (N 3 a) deg) P i u)) ∧ Fr (fun c j => c = 22 ∨ c = 99) M M') ?_ ?_ 20 0 (by omega) 20000 _ M (by omega) ⟨_, rfl, hP, Fr.rf⟩
  · rintro i hi G lv M' - ⟨o, rfl, hp, hf⟩ z
    have hY' : IY Y M' := hY.fr hf (fun c j hc => by unfold yc at *; omega)
    have hN' : IN Y t N M' := hN.fr h6 hf (fun c j hc => by omega)
    have hO' : M'.2.1 98 (i + 1) = Int64.ofNat (O (i + 1)) := (hf.j (by omega)).trans (hO (i + 1) (by omega)).1
    have hOb := (hO (i + 1) (by omega)).2
    have es2 : spd O T (lft Y a (spt N a) (N 3 a) deg) P (i + 1) = un (spd O T (lft Y a (spt N a) (N 3 a) deg) P i) (lft Y a (spt N a) (N 3 a) deg (i + 1)) (spd O T (lft Y a (spt N a) (N 3 a) deg) P i (lft Y a (spt N a) (N 3 a) deg (i + 1)) + O (i + 1) * T) := rfl
    rw [es2] at z
    generalize spd O T (lft Y a (spt N a) (N 3 a) deg) P i = Q at *
    obtain ⟨l1, l2, -⟩ := lft_eq (Y := Y) (a := a) (s := spt N a) (props := N 3 a) (deg := deg) (u := i + 1) (by omega) p4
    simp (disch := omega) only [e172_3, i_nat, Nat.add_zero, Nat.not_lt_zero, i_neg, i_lt, i_le, i_eq, i_add, i_addl, i_addr, i_mulr, i_mull, i_subl, i_pred, i_ltl, i_ltr, i_eql, i_em1, cIn_s, cVd_s, cLo_s, ic_true, ic_false, ic_same, i10, eq_self, b2_0, b2_1, b2_and, b2_t, b2_f, ck', eq_true (show i + 1 < 21 by omega), hO', lg_cmp_gt, show (0 : Int64) = Int64.ofNat 0 from rfl, l_lt, hN'.c.n, e4]
    have skip : O (i + 1) * T = 0 → Hm (lp (d + 5) 172 G 3 [some (vR 3 0 69), some (vI (Int32.ofNat a)), some (vI deg), some (vI (Int32.ofNat T)), some (vI (Int32.ofNat (i + 1 + 1))), o] M') (fun r M' => r = none ∧ (∀ u, u < 21 → M'.2.1 98 u = Int64.ofNat (O u)) ∧ (∀ u, u < 21 → M'.2.1 99 u = Int64.ofNat (spd O T (lft Y a (spt N a) (N 3 a) deg) P 20 u)) ∧ Fr (fun c j => c = 22 ∨ c = 99) M M') := fun h0 => by
      refine z _ _ _ (by omega) ⟨o, rfl, ?_, hf⟩
      simp only [h0, Nat.add_zero, un_id]; exact hp
    refine Hm_ic (fun h1 => Hm_ic (fun h2 => ?_) (fun h2 => ?_)) (fun h1 => ?_)
    · refine Hm_cIv (sp103 hY'.c hY'.l (by omega) (by omega)) (fun M1 f1 => ?_)
      simp only [sp21, cIn_s, l1]
      generalize hl : lft Y a (spt N a) (N 3 a) deg (i + 1) = w at *
      have q1 : M1.2.1 99 w = Int64.ofNat (Q w) := (f1.j (by omega)).trans (hp w (by omega))
      have q2 : M1.2.1 98 (i + 1) = Int64.ofNat (O (i + 1)) := (f1.j (by omega)).trans hO'
      simp (disch := omega) only [i_nat, Nat.add_zero, Nat.not_lt_zero, i_neg, i_lt, i_le, i_eq, i_add, i_addl, i_addr, i_mulr, i_mull, i_subl, i_pred, i_ltl, i_ltr, i_eql, i_em1, cIn_s, cVd_s, cLo_s, ic_true, ic_false, ic_same, i10, eq_self, b2_0, b2_1, b2_and, b2_t, b2_f, ck', q1, q2, l_T hT]
      refine z _ _ _ (by omega) ⟨_, rfl, fun u hu => ?_, (hf.tr (f1.up (fun c j h => .inl h))).sJ (.inr rfl)⟩
      by_cases y : u = w
      · subst y; rw [sJ_eq]; unfold un; rw [if_pos rfl, Int64.ofNat_add, Int64.ofNat_mul]
      · rw [sJ_ne (.inr y), f1.j (by omega), hp u hu]; unfold un; rw [if_neg y]
    · exact skip (by rw [show T = 0 by omega, Nat.mul_zero])
    · exact skip (by rw [show O (i + 1) = 0 by omega, Nat.zero_mul])
  · rintro G lv M' - ⟨o, rfl, hp, hf⟩
    simp (disch := omega) only [e172_3, i_nat, Nat.add_zero, Nat.not_lt_zero, i_neg, i_lt, i_le, i_eq, i_add, i_addl, i_addr, i_mulr, i_mull, i_subl, i_pred, i_ltl, i_ltr, i_eql, i_em1, cIn_s, cVd_s, cLo_s, ic_true, ic_false, ic_same, i10, eq_self, b2_0, b2_1, b2_and, b2_t, b2_f, ck', eq_false (show ¬ 20 + 1 < 21 by omega)]
    exact Hm_some ⟨rfl, fun u hu => (hf.j (by omega)).trans (hO u hu).1, hp, hf⟩
/-- the odds behind i nights -/
def ods (Y : YT) (a s : Nat) (props : Int32) (mi n0 u0 : Nat) : Nat → Nat → Nat
  | 0 => fun u => if u = u0 then 1 else 0
  | i + 1 => nxt mi (lft Y a s props (warm Y (n0 + i))) (lft Y a s props (warm Y (n0 + i) + 3)) (ods Y a s props mi n0 u0 i)
theorem lft_21 (hp : rg props 0 4) (h1 : u < 21) : lft Y a s props deg u < 21 := by
  have := (lft_eq (Y := Y) (a := a) (s := s) (deg := deg) (u := u) (by omega) hp).2.1; omega
theorem ods_V {mi n0 u0 : Nat} (hp : rg props 0 4) (hu : u0 < 21) (hu1 : 1 ≤ u0) : ∀ i k, sm (fun u => ods Y a s props mi n0 u0 i u * wys Y a s props mi k u (n0 + i)) 21 = wys Y a s props mi (k + i) u0 n0
  | 0, k => by
    have : ∀ n, u0 < n → sm (fun u => (if u = u0 then 1 else 0) * wys Y a s props mi k u (n0 + 0)) n = wys Y a s props mi k u0 n0 := by
      intro n
      induction n with
      | zero => intro h; omega
      | succ n ih =>
        intro h
        simp only [sm]
        by_cases z : u0 = n
        · subst z
          rw [sm_cong (g := fun _ => 0) _ (fun e he => by rw [if_neg (by omega), Nat.zero_mul]), sm_zero, if_pos rfl]; simp
        · rw [ih (by omega), if_neg (Ne.symm z)]; simp
    exact this 21 hu
  | i + 1, k => by
    have ih := ods_V (mi := mi) (n0 := n0) hp hu hu1 i (k + 1)
    show sm (fun u => nxt mi (lft Y a s props (warm Y (n0 + i))) (lft Y a s props (warm Y (n0 + i) + 3)) (ods Y a s props mi n0 u0 i) u * wys Y a s props mi k u (n0 + (i + 1))) 21 = _
    rw [nxt_V (fun u _ h => lft_21 hp h) (fun u _ h => lft_21 hp h)]
    rw [sm_shift (by rw [wys_0, Nat.mul_zero])] at ih
    rw [show k + (i + 1) = k + 1 + i by omega, ← ih]
    refine sm_cong _ (fun u hu => ?_)
    show _ = ods Y a s props mi n0 u0 i (u + 1) * (if u + 1 = 0 then 0 else _)
    rw [if_neg (by omega)]; rfl
theorem ods_mass {mi n0 u0 : Nat} (hm : mi ≤ 10) (hp : rg props 0 4) (hu : u0 < 21) : ∀ i, sm (fun u => ods Y a s props mi n0 u0 i u * 1) 21 ≤ 10 ^ i
  | 0 => by
    have : ∀ n, sm (fun u => (if u = u0 then 1 else 0) * 1) n ≤ 1 ∧ (n ≤ u0 → sm (fun u => (if u = u0 then 1 else 0) * 1) n = 0) := by
      intro n
      induction n with
      | zero => exact ⟨by simp [sm], fun _ => rfl⟩
      | succ n ih =>
        simp only [sm]
        by_cases z : n = u0
        · have := ih.2 (by omega)
          rw [this, if_pos z]; exact ⟨by omega, fun h => by omega⟩
        · rw [if_neg z]; exact ⟨by omega, fun h => by rw [ih.2 (by omega)]⟩
    exact (this 21).1
  | i + 1 => by
    have ih := ods_mass (n0 := n0) hm hp hu i
    show sm (fun u => nxt mi (lft Y a s props (warm Y (n0 + i))) (lft Y a s props (warm Y (n0 + i) + 3)) (ods Y a s props mi n0 u0 i) u * (fun _ => 1) u) 21 ≤ _
    rw [nxt_V (R := fun _ => 1) (fun u _ h => lft_21 hp h) (fun u _ h => lft_21 hp h)]
    have e : sm (fun u => ods Y a s props mi n0 u0 i (u + 1) * ((10 - mi) * 1 + mi * 1)) 20 = 10 * sm (fun u => ods Y a s props mi n0 u0 i (u + 1)) 20 := by
      have : ∀ n, sm (fun u => ods Y a s props mi n0 u0 i (u + 1) * ((10 - mi) * 1 + mi * 1)) n = 10 * sm (fun u => ods Y a s props mi n0 u0 i (u + 1)) n := by
        intro n
        induction n with
        | zero => rfl
        | succ n ih => simp only [sm]; rw [ih, show (10 - mi) * 1 + mi * 1 = 10 by omega]; omega
      exact this 20
    rw [e]
    have h2 : sm (fun u => ods Y a s props mi n0 u0 i (u + 1)) 20 ≤ sm (fun u => ods Y a s props mi n0 u0 i u * 1) 21 := by
      have : ∀ (h : Nat → Nat) n, sm (fun u => h (u + 1)) n ≤ sm (fun u => h u * 1) (n + 1) := by
        intro h n
        induction n with
        | zero => simp [sm]
        | succ n ih => simp only [sm] at ih ⊢; omega
      exact this _ 20
    rw [Nat.pow_succ]; omega
theorem l_dec {n : Nat} (h : n ≤ 8) : Int64.ofNat (10 ^ n) * 10 = Int64.ofNat (10 ^ (n + 1)) ∧ (lg_cmp (Int64.ofNat (10 ^ n)) 1 < 0) = False ∧ (Int64.ofNat (10 ^ n) = 0) = False := by
  have : ∀ n : Fin 9, Int64.ofNat (10 ^ n.1) * 10 = Int64.ofNat (10 ^ (n.1 + 1)) ∧ (lg_cmp (Int64.ofNat (10 ^ n.1)) 1 < 0) = False ∧ (Int64.ofNat (10 ^ n.1) = 0) = False := by decide
  exact this ⟨n, by omega⟩
theorem sp170 {mi : Nat} (hY : IY Y M) (hN : IN Y t N M) (ha : a < nA Y) (hu : up N a = true) (hm : Y 3 15 = Int32.ofNat mi) (hm10 : mi ≤ 10) (hn : n ≤ 8) :
    Hm (evD (d + 8) 170 [vR 3 0 69, vI (Int32.ofNat a), vI (Int32.ofNat n)] M) (fun r M' => r = some (vI ((Int64.ofNat (wys Y a (spt N a) (N 3 a) mi n (N 1 a).toNatClampNeg (nnt N)) * 1000000 / Int64.ofNat (10 ^ n)).toInt32)) ∧ Fr ScW M M') := by
  have h6 := hY.n.A6
  have ht := hN.t
  have hnb := hN.i.nb
  have f1 := (hN.i.sp ha hu).2.2
  have f2 := (hN.i.a ha).2.2.2.1
  have p3 := (hN.i.a ha).2.2.2.2.2.1
  have p4 : rg (N 3 a) 0 4 := by unfold rg at *; omega
  have ef := rg_nat f2
  have el : (N 1 a).toNatClampNeg < 21 := by have := rg_le (k := 20) f2; omega
  have el1 : 1 ≤ (N 1 a).toNatClampNeg := by rw [Int32.toNatClampNeg]; omega
  generalize hu0 : (N 1 a).toNatClampNeg = u0 at *
  have e61 := hN.c.n.2 a (by omega)
  simp (disch := omega) only [e170, sp171, cVd_s, flJ_1, i_nat, Nat.add_zero, Nat.not_lt_zero, i_neg, i_lt, i_le, i_eq, i_add, i_addl, i_addr, i_mulr, i_mull, i_subl, i_pred, i_ltl, i_ltr, i_eql, i_em1, cIn_s, cVd_s, cLo_s, ic_true, ic_false, ic_same, i10, eq_self, b2_0, b2_1, b2_and, b2_t, b2_f, ck', e61, ef, lp0_eq]
  refine lp_for (d := d + 7) (x := 170) (pc := 28) n 1 100 (by omega) (fun i lv M' => ∃ o6 o7, lv = [some (vR 3 0 69), some (vI (Int32.ofNat a)), some (vI (Int32.ofNat n)), some (vJ (Int64.ofNat (10 ^ i))), none, some (vI (Int32.ofNat i)), o6, o7] ∧ (∀ u, u < 21 → M'.2.1 98 u = Int64.ofNat (ods Y a (spt N a) (N 3 a) mi (nnt N) u0 i u)) ∧ Fr ScW M M') ?_ ?_ n 0 (by omega) 20000 _ _ (by omega) ⟨_, _, rfl, fun u hu => ?_, ?_⟩
  · rintro i hi G lv M' - ⟨o6, o7, rfl, hO, hf⟩ z
    have hY' := hY.sc hf
    have hN' := hN.sc h6 hf
    have mass := ods_mass (Y := Y) (a := a) (s := spt N a) (n0 := nnt N) hm10 p4 el i
    have e10 : 10 ^ i ≤ 10 ^ 8 := Nat.pow_le_pow_right (by omega) (by omega)
    have hOb : ∀ u, u < 21 → ods Y a (spt N a) (N 3 a) mi (nnt N) u0 i u < 1000000000000 := fun u hu => by
      have := sm_get (h := fun u => ods Y a (spt N a) (N 3 a) mi (nnt N) u0 i u * 1) 21 u hu
      omega
    simp (disch := omega) only [e170_28, i_nat, Nat.add_zero, Nat.not_lt_zero, i_neg, i_lt, i_le, i_eq, i_add, i_addl, i_addr, i_mulr, i_mull, i_subl, i_pred, i_ltl, i_ltr, i_eql, i_em1, cIn_s, cVd_s, cLo_s, ic_true, ic_false, ic_same, i10, eq_self, b2_0, b2_1, b2_and, b2_t, b2_f, ck', hi, hN'.c.n, hN'.i.n, sp101 hY'.c hY'.n, sp171]
    have fA : Fr ScW M (flJ M' 99 21 0) := hf.flJ (fun j => by unfold ScW; omega)
    have hYA := hY.sc fA
    have hNA := hN.sc h6 fA
    simp only [flJ_1, hY'.c, hm, show (10 : Int32) = Int32.ofNat 10 from rfl, i_sub hm10]
    refine Hm_cVv (sp172 (O := ods Y a (spt N a) (N 3 a) mi (nnt N) u0 i) (P := fun _ => 0) hYA hNA ha hu (by omega) (fun u hu => ⟨by rw [flJ_ne (by omega)]; exact hO u hu, hOb u hu⟩) (fun u hu => by rw [flJ_eq hu]; rfl)) (fun M4 h4 => ?_)
    obtain ⟨q1, q2, q3⟩ := h4
    have fB : Fr ScW M M4 := fA.tr (q3.up (fun c j h => by unfold ScW; omega))
    have hYB := hY.sc fB
    have hNB := hN.sc h6 fB
    simp only [hYB.c, hm]
    refine Hm_cVv (sp172 hYB hNB ha hu hm10 (fun u hu => ⟨q1 u hu, hOb u hu⟩) q2) (fun M5 h5 => ?_)
    obtain ⟨r1, r2, r3⟩ := h5
    have fC : Fr ScW M M5 := fB.tr (r3.up (fun c j h => by unfold ScW; omega))
    rw [ic_f (by decide), (l_dec (n := i) (by omega)).1]
    exact z _ _ _ (by omega) ⟨_, _, rfl, fun u hu => by rw [cpJ_eq hu, r2 u hu]; rfl, fC.cpJ (fun j => by unfold ScW; omega)⟩
  · rintro G lv M' hG ⟨o6, o7, rfl, hO, hf⟩
    simp (disch := omega) only [e170_28, i_nat, Nat.add_zero, Nat.not_lt_zero, i_neg, i_lt, i_le, i_eq, i_add, i_addl, i_addr, i_mulr, i_mull, i_subl, i_pred, i_ltl, i_ltr, i_eql, i_em1, cIn_s, cVd_s, cLo_s, ic_true, ic_false, ic_same, i10, eq_self, b2_0, b2_1, b2_and, b2_t, b2_f, ck', Nat.lt_irrefl]
    refine lp_for (d := d + 7) (x := 170) (pc := 130) 20 1 0 (by omega) (fun i lv M2 => ∃ o1 o2, lv = [some (vR 3 0 69), o1, o2, some (vJ (Int64.ofNat (10 ^ n))), none, some (vJ (Int64.ofNat (sm (fun u => ods Y a (spt N a) (N 3 a) mi (nnt N) u0 n (u + 1)) i))), none, some (vI (Int32.ofNat (i + 1)))] ∧ M2 = M') ?_ ?_ 20 0 (by omega) _ _ _ (by omega) ⟨_, _, rfl, rfl⟩
    · rintro i hi G2 lv M2 - ⟨o1, o2, rfl, rfl⟩ z
      simp (disch := omega) only [e170_130, i_nat, Nat.add_zero, Nat.not_lt_zero, i_neg, i_lt, i_le, i_eq, i_add, i_addl, i_addr, i_mulr, i_mull, i_subl, i_pred, i_ltl, i_ltr, i_eql, i_em1, cIn_s, cVd_s, cLo_s, ic_true, ic_false, ic_same, i10, eq_self, b2_0, b2_1, b2_and, b2_t, b2_f, ck', eq_true (show i + 1 < 21 by omega), hO]
      exact z _ _ _ (by omega) ⟨_, _, by rw [← Int64.ofNat_add]; rfl, rfl⟩
    · rintro G2 lv M2 - ⟨o1, o2, rfl, rfl⟩
      simp (disch := omega) only [e170_130, i_nat, Nat.add_zero, Nat.not_lt_zero, i_neg, i_lt, i_le, i_eq, i_add, i_addl, i_addr, i_mulr, i_mull, i_subl, i_pred, i_ltl, i_ltr, i_eql, i_em1, cIn_s, cVd_s, cLo_s, ic_true, ic_false, ic_same, i10, eq_self, b2_0, b2_1, b2_and, b2_t, b2_f, ck', eq_false (show ¬ 20 + 1 < 21 by omega), l_dec hn]
      have V := ods_V (Y := Y) (a := a) (s := spt N a) (mi := mi) (n0 := nnt N) p4 el el1 n 0
      rw [sm_shift (by rw [wys_0, Nat.mul_zero]), Nat.zero_add] at V
      rw [← V]
      refine Hm_some ⟨?_, hf⟩
      rw [sm_cong (f := fun u => ods Y a (spt N a) (N 3 a) mi (nnt N) u0 n (u + 1) * wys Y a (spt N a) (N 3 a) mi 0 (u + 1) (nnt N + n)) (g := fun u => ods Y a (spt N a) (N 3 a) mi (nnt N) u0 n (u + 1)) 20 (fun u _ => by show _ * (if u + 1 = 0 then 0 else 1) = _; rw [if_neg (by omega), Nat.mul_one])]
  · show _ = Int64.ofNat (if u = u0 then 1 else 0)
    by_cases y : u = u0
    · subst y; rw [sJ_eq, if_pos rfl]; rfl
    · rw [sJ_ne (.inr y), flJ_eq hu, if_neg y]; rfl
  · exact (Fr.rf.flJ (fun j => by unfold ScW; omega)).sJ (by unfold ScW; omega)
end RO7
