/-! work: the reference's days, act by act -/
section WORK2
variable {Y N S T : YT} {t a s n c b d e u k j i m W : Nat} {M : Mem} {p q x f set props deg : Int32} {wk : Nat → Nat} {tk : Nat → Int32}
/-- workers and what they take -/
def WK (Y N : YT) (W : Nat) (wk : Nat → Nat) : Prop := ∀ k, k < W → wk k < nC Y ∧ bt (N 0 9) (wk k) = false ∧ ∀ k', k' < k → wk k' < wk k
def TK (Y N : YT) (W : Nat) (tk : Nat → Int32) : Prop := ∀ k, k < W → tk k = -1 ∨ ∃ a, a < nA Y ∧ up N a = true ∧ tk k = Int32.ofNat a
theorem day_s : day Y wk tk S (j + 1) = if decide (¬ tk j < 0) && mayC Y (day Y wk tk S j) (wk j) (tk j).toNatClampNeg then carS Y (day Y wk tk S j) (wk j) (tk j).toNatClampNeg else day Y wk tk S j := rfl
theorem day_oth {r : Nat} (h2 : r ≠ 2) (h5 : r ≠ 5) : ∀ j, day Y wk tk S j r e = S r e
  | 0 => rfl
  | j + 1 => by
    have ih := day_oth h2 h5 j
    rw [day_s]; split
    · unfold carS; rw [us_ne (.inl h5), us_ne (.inl h2)]; exact ih
    · exact ih
theorem day_5 : ∀ j, (∀ k, k < j → wk k ≠ c) → day Y wk tk S j 5 c = S 5 c
  | 0, _ => rfl
  | j + 1, h => by
    have ih := day_5 j (fun k hk => h k (by omega))
    rw [day_s]; split
    · unfold carS; rw [us_ne (.inr (Ne.symm (h j (by omega)))), us_ne (by omega)]; exact ih
    · exact ih
theorem day_5w (hw : ∀ k, k < W → ∀ k', k' < k → wk k' < wk k) : ∀ j, j ≤ W → ∀ k, k < j → day Y wk tk S j 5 (wk k) = S 5 (wk k) ∨ (day Y wk tk S j 5 (wk k) = Int32.ofNat (tk k).toNatClampNeg ∧ ¬ tk k < 0 ∧ S 5 (wk k) = -1)
  | 0, _, k, hk => by omega
  | j + 1, hj, k, hk => by
    rw [day_s]
    by_cases y : k = j
    · subst y
      have h5 := day_5 (Y := Y) (tk := tk) (S := S) (wk := wk) (c := wk k) k (fun k' hk' => by have := hw k (by omega) k' hk'; omega)
      split
      · rename_i h
        simp only [Bool.and_eq_true, decide_eq_true_eq] at h
        right
        unfold carS; rw [us_eq]
        refine ⟨rfl, h.1, ?_⟩
        have := h.2
        unfold mayC at this
        simp only [Bool.and_eq_true, decide_eq_true_eq] at this
        rw [← h5]; exact this.1.1.2
      · left; exact h5
    · have ih := day_5w hw j (by omega) k (by omega)
      have hne : wk k ≠ wk j := by have := hw j (by omega) k (by omega); omega
      split
      · unfold carS; rw [us_ne (.inr hne), us_ne (by omega)]; exact ih
      · exact ih
theorem day_SI (hN : YN Y) (hI : SI Y b S) (hW : WK Y N W wk) (hT : TK Y N W tk) : ∀ j, j ≤ W → SI Y b (day Y wk tk S j)
  | 0, _ => hI
  | j + 1, hj => by
    have ih := day_SI hN hI hW hT j (by omega)
    rw [day_s]; split
    · rename_i h
      simp only [Bool.and_eq_true, decide_eq_true_eq] at h
      rcases hT j (by omega) with q | ⟨a, ha, -, q⟩
      · exact absurd (show tk j < 0 by rw [q]; decide) h.1
      · have h6 := hN.A6
        rw [q, i_nat (by omega)]
        exact SI_car ih hN ha (hW j (by omega)).1
    · exact ih
theorem day_up : up (day Y wk tk S j) a = up S a := by unfold up; rw [day_oth (by omega) (by omega), day_oth (by omega) (by omega)]
/-- an act's chips through a day -/
theorem day_2 (hN : YN Y) (hW : WK Y N W wk) (hT : TK Y N W tk) (ha : a < nA Y) (hu : up S a = true) (hok : ∀ k, k < W → tk k = Int32.ofNat a → (!bt (S 0 9) (wk k) && decide (S 5 (wk k) = -1)) = okW Y N (wk k) i) : ∀ j, j ≤ W → day Y wk tk S j 2 a = dnE Y N wk (fun k => decide (tk k = Int32.ofNat a)) a i (S 1 a) (S 2 a) j
  | 0, _ => rfl
  | j + 1, hj => by
    have h6 := hN.A6
    have ih := day_2 hN hW hT ha hu hok j (by omega)
    have es : dnE Y N wk (fun k => decide (tk k = Int32.ofNat a)) a i (S 1 a) (S 2 a) (j + 1) = if decide (tk j = Int32.ofNat a) && decide (dnE Y N wk (fun k => decide (tk k = Int32.ofNat a)) a i (S 1 a) (S 2 a) j < needs Y a) && okW Y N (wk j) i then chp Y (wk j) (S 1 a) (dnE Y N wk (fun k => decide (tk k = Int32.ofNat a)) a i (S 1 a) (S 2 a) j) else dnE Y N wk (fun k => decide (tk k = Int32.ofNat a)) a i (S 1 a) (S 2 a) j := rfl
    rw [es, ← ih, day_s]
    have h5 := day_5 (Y := Y) (tk := tk) (S := S) (wk := wk) (c := wk j) j (fun k' hk' => by have := (hW j (by omega)).2.2 k' hk'; omega)
    have h9 : day Y wk tk S j 0 9 = S 0 9 := day_oth (by omega) (by omega) j
    have h1 : day Y wk tk S j 1 a = S 1 a := day_oth (by omega) (by omega) j
    rcases hT j (by omega) with q | ⟨e, he, -, q⟩
    · have z1 : ¬ (tk j = Int32.ofNat a) := fun z => by rw [q] at z; have := i_em1 (a := a) (by omega); rw [← this]; exact z.symm
      have z2 : tk j < 0 := by rw [q]; decide
      simp only [z1, z2, not_true_eq_false, decide_false, Bool.false_and, Bool.false_eq_true, if_false]
    · have z2 : ¬ tk j < 0 := by rw [q]; exact i_neg (by omega)
      rw [q, i_nat (by omega)]
      rw [q] at z2
      by_cases y : e = a
      · subst y
        have hk := hok j (by omega) q
        have hm : mayC Y (day Y wk tk S j) (wk j) e = (okW Y N (wk j) i && decide (day Y wk tk S j 2 e < needs Y e)) := by
          unfold mayC isD
          rw [h9, h5, day_up, hu, hk]
          simp
        rw [hm]
        simp only [z2, not_false_eq_true, decide_true, Bool.true_and]
        rw [Bool.and_comm (decide (day Y wk tk S j 2 e < needs Y e))]
        split
        · unfold carS; rw [us_ne (by omega), us_eq, h1]
        · rfl
      · have z1 : ¬ (Int32.ofNat e = Int32.ofNat a) := by rw [i_eq (by omega) (by omega)]; exact y
        simp only [z1, decide_false, Bool.false_and, Bool.false_eq_true, if_false]
        split
        · unfold carS; rw [us_ne (by omega), us_ne (.inr (Ne.symm y))]
        · rfl
/-- where the reference stands on the i-th day -/
def simI (Y N : YT) (b W : Nat) (wk : Nat → Nat) (tk : Nat → Int32) (i : Nat) (S : YT) : Prop :=
  SI Y (b + i) S ∧ nnt S = nnt N + i ∧ (∀ c, c < 6 → S 5 c = if i = 0 then N 5 c else -1) ∧
  (∀ a, a < nA Y → up N a = false → up S a = false) ∧
  (∀ a, a < nA Y → up N a = true → (crw Y N W wk (fun k => decide (tk k = Int32.ofNat a)) a i = none ∧ up S a = false) ∨ ∃ u dn, crw Y N W wk (fun k => decide (tk k = Int32.ofNat a)) a i = some (u, dn) ∧ up S a = true ∧ S 1 a = u ∧ S 2 a = dn ∧ S 3 a = N 3 a ∧ S 4 a = N 4 a) ∧
  ∀ k, k < W → ∀ a, a < nA Y → tk k = Int32.ofNat a → up S a = true → bt (S 0 9) (wk k) = (decide (i ≠ 0) && !okW Y N (wk k) i)
theorem okW_s {c : Nat} (h : i ≠ 0) : okW Y N c i = okW Y N c 1 := by unfold okW; simp [h]
theorem sim_ok (hN : YN Y) (hI : SI Y b N) (hb : b < 100000) (hW : WK Y N W wk) (hT : TK Y N W tk) : ∀ i, i < 1000 → simI Y N b W wk tk i (sim Y N W wk tk i)
  | 0, _ => by
    refine ⟨hI, rfl, fun c hc => by rw [if_pos rfl]; rfl, fun a _ h => h, fun a ha hu => .inr ⟨_, _, rfl, hu, rfl, rfl, rfl, rfl⟩, fun k hk a ha h1 h2 => ?_⟩
    show bt (N 0 9) (wk k) = _
    rw [(hW k hk).2.1]; rfl
  | i + 1, hi => by
    have h6 := hN.A6
    have hC := hN.C6
    obtain ⟨q1, q2, q3, q4, q5, q6⟩ := sim_ok hN hI hb hW hT i (by omega)
    have eS : sim Y N W wk tk (i + 1) = nitS Y (day Y wk tk (sim Y N W wk tk i) W) 0 := rfl
    rw [eS]
    generalize hS : sim Y N W wk tk i = S at *
    have hD := day_SI (W := W) hN q1 hW hT W (Nat.le_refl _)
    have hok : ∀ a, a < nA Y → up S a = true → ∀ k, k < W → tk k = Int32.ofNat a → (!bt (S 0 9) (wk k) && decide (S 5 (wk k) = -1)) = okW Y N (wk k) i := by
      intro a ha hu k hk ht
      have hwk := (hW k hk).1
      rw [q6 k hk a ha ht hu, q3 (wk k) (by omega)]
      by_cases y : i = 0
      · subst y; rw [if_pos rfl]; simp [okW]
      · rw [if_neg y]; simp [y]
    have hd2 := fun a ha hu => day_2 (Y := Y) (N := N) (W := W) (S := S) (a := a) (i := i) hN hW hT ha hu (hok a ha hu) W (Nat.le_refl _)
    have h5w := fun k hk => day_5w (Y := Y) (tk := tk) (S := S) (wk := wk) (W := W) (fun k hk => (hW k hk).2.2) W (Nat.le_refl _) k hk
    have dO : ∀ r e, r ≠ 2 → r ≠ 5 → day Y wk tk S W r e = S r e := fun r e h1 h2 => day_oth h1 h2 W
    have dU : ∀ a, up (day Y wk tk S W) a = up S a := fun a => day_up
    have dn : nnt (day Y wk tk S W) = nnt S := by unfold nnt; rw [dO 0 0 (by omega) (by omega)]
    -- the melting of an act that stands
    have hmel : ∀ a, a < nA Y → up S a = true → S 4 a = N 4 a → S 3 a = N 3 a → melT Y (day Y wk tk S W) a 0 = melP Y a (spt N a) (S 1 a) (N 3 a) (warm Y (nnt N + i)) := by
      intro a ha hu h4 h3
      unfold melT
      rw [dn, q2, dO 1 a (by omega) (by omega), dO 3 a (by omega) (by omega), h3, Int32.add_zero]
      congr 1
      unfold spt; rw [dO 4 a (by omega) (by omega), h4]
    have hlos : ∀ a, a < nA Y → up S a = true → losF (day Y wk tk S W) a (melT Y (day Y wk tk S W) a 0) = !decide (0 < S 1 a - melT Y (day Y wk tk S W) a 0) ∧ (0 < S 1 a - melT Y (day Y wk tk S W) a 0 → imax 0 (S 1 a - melT Y (day Y wk tk S W) a 0) = S 1 a - melT Y (day Y wk tk S W) a 0) := by
      intro a ha hu
      have hr := (q1.a ha).2.2.2.1
      have hm := melT_rg (m := 0) hD ha
      unfold rg at hr hm
      have e2 : (S 1 a - melT Y (day Y wk tk S W) a 0).toInt = (S 1 a).toInt - (melT Y (day Y wk tk S W) a 0).toInt := by rw [t_sub (by omega) (by omega)]
      have e1 : (imax 0 (S 1 a - melT Y (day Y wk tk S W) a 0)).toInt = max 0 ((S 1 a).toInt - (melT Y (day Y wk tk S W) a 0).toInt) := by rw [t_max, e2, t_0]
      refine ⟨?_, fun h => ?_⟩
      · unfold losF
        rw [dO 1 a (by omega) (by omega)]
        congr 1
        rw [decide_eq_decide, t_lt, t_lt, t_0, e1, e2]; omega
      · rw [t_lt, t_0, e2] at h
        rw [t_eq, e1, e2]; omega
    refine ⟨SI_nitS (b := b + i) hD hN (by omega), ?_, fun c hc => by rw [if_neg (by omega)]; exact nitS_5 hc, fun a ha h => ?_, fun a ha h => ?_, fun k hk a ha ht hu => ?_⟩
    · rw [nitS_n hD (by omega), dn, q2]; omega
    · have := (nitS_a (m := 0) hN hD ha).2.2.2.1 (by rw [dU]; exact q4 a ha h)
      exact this.2.2
    · have nA' := nitS_a (m := 0) hN hD ha
      have ec : crw Y N W wk (fun k => decide (tk k = Int32.ofNat a)) a (i + 1) = match crw Y N W wk (fun k => decide (tk k = Int32.ofNat a)) a i with
        | none => none
        | some (u, dn) => if 0 < u - melP Y a (spt N a) u (N 3 a) (warm Y (nnt N + i)) then some (u - melP Y a (spt N a) u (N 3 a) (warm Y (nnt N + i)), dnE Y N wk (fun k => decide (tk k = Int32.ofNat a)) a i u dn W) else none := rfl
      rcases q5 a ha h with ⟨z1, z2⟩ | ⟨u, dn', z1, z2, z3, z4, z5, z6⟩
      · left
        rw [ec, z1]
        exact ⟨rfl, (nA'.2.2.2.1 (by rw [dU]; exact z2)).2.2⟩
      · have nB' := nA'.2.2.2.2 (by rw [dU]; exact z2)
        have hl := hlos a ha z2
        have hmm := hmel a ha z2 z6 z5
        rw [ec, z1]
        dsimp only
        rw [← z3, ← hmm]
        by_cases hp : 0 < S 1 a - melT Y (day Y wk tk S W) a 0
        · right
          have hlf : losF (day Y wk tk S W) a (melT Y (day Y wk tk S W) a 0) = false := by rw [hl.1]; simp [hp]
          refine ⟨_, _, by rw [if_pos hp], ?_, ?_, ?_, ?_, ?_⟩
          · rw [nB'.2.1, hlf]; rfl
          · rw [nB'.1, dO 1 a (by omega) (by omega), hl.2 hp]
          · rw [nA'.1, hd2 a ha z2, z4]
          · rw [nA'.2.1, dO 3 a (by omega) (by omega), z5]
          · rw [nB'.2.2 hlf, dO 4 a (by omega) (by omega), z6]
        · left
          have hlf : losF (day Y wk tk S W) a (melT Y (day Y wk tk S W) a 0) = true := by rw [hl.1]; simp [hp]
          refine ⟨by rw [if_neg hp], ?_⟩
          rw [nB'.2.1, hlf]; rfl
    · -- who is hurt
      have hwk := (hW k hk).1
      have nA' := nitS_a (m := 0) hN hD ha
      -- the act stood before, and did not fall
      have huS : up S a = true := by
        cases z : up S a
        · have := (nA'.2.2.2.1 (by rw [dU]; exact z)).2.2
          rw [this] at hu; cases hu
        · rfl
      have hnl : losF (day Y wk tk S W) a (melT Y (day Y wk tk S W) a 0) = false := by
        have := (nA'.2.2.2.2 (by rw [dU]; exact huS)).2.1
        rw [this] at hu
        revert hu; cases losF (day Y wk tk S W) a (melT Y (day Y wk tk S W) a 0) <;> simp
      rw [nitS_hurt hN hD (show wk k < 32 by omega), dO 0 9 (by omega) (by omega), q6 k hk a ha ht huS]
      have hcarv : ∀ e, e < nA Y → evt Y 0 (day Y wk tk S W) (wk k) e = true → i = 0 ∧ N 5 (wk k) = Int32.ofNat e ∧ day Y wk tk S W 5 (wk k) = N 5 (wk k) := by
        intro e he hev
        unfold evt at hev
        simp only [Bool.and_eq_true, decide_eq_true_eq] at hev
        obtain ⟨⟨⟨v1, v2⟩, v3⟩, v4⟩ := hev
        rcases h5w k hk with z | ⟨z, z2, z3⟩
        · rw [q3 (wk k) (by omega)] at z
          by_cases y : i = 0
          · rw [if_pos y] at z
            exact ⟨y, by rw [← z]; exact v4, z⟩
          · rw [if_neg y] at z
            rw [z] at v4
            have := i_em1 (a := e) (by omega)
            exact absurd v4.symm (by rw [this]; exact id)
        · rw [ht, i_nat (by omega)] at z
          rw [z, i_eq (by omega) (by omega)] at v4
          subst v4
          rw [hnl] at v2; cases v2
      by_cases y : i = 0
      · subst y
        have hS0 : S = N := by rw [← hS]; rfl
        have eu : ∀ e, up (day Y wk tk S W) e = up N e := fun e => by rw [dU, hS0]
        have em : ∀ e, melT Y (day Y wk tk S W) e 0 = melT Y N e 0 := fun e => by
          unfold melT spt nnt
          rw [dO 0 0 (by omega) (by omega), dO 1 e (by omega) (by omega), dO 3 e (by omega) (by omega), dO 4 e (by omega) (by omega), hS0]
        have el : ∀ e v, losF (day Y wk tk S W) e v = losF N e v := fun e v => by unfold losF; rw [dO 1 e (by omega) (by omega), hS0]
        simp only [ne_eq, not_true_eq_false, decide_false, Bool.false_and, Bool.false_or, Nat.zero_add, Nat.one_ne_zero, not_false_eq_true, decide_true, Bool.true_and]
        rw [Bool.eq_iff_iff]
        simp only [decide_eq_true_eq, Bool.not_eq_true']
        constructor
        · rintro ⟨e, he, hev⟩
          obtain ⟨-, c1, c2⟩ := hcarv e he hev
          unfold evt at hev
          simp only [Bool.and_eq_true, decide_eq_true_eq] at hev
          obtain ⟨⟨⟨v1, v2⟩, v3⟩, v4⟩ := hev
          rw [eu] at v1
          rw [em, el] at v2
          have nm1 : ¬ Int32.ofNat e = -1 := by rw [i_em1 (by omega)]; exact id
          unfold okW
          rw [c1, i_nat (by omega), v1, v2]
          simp [nm1, v3]
        · intro hok'
          have hn1 : ¬ N 5 (wk k) = -1 := fun z => by unfold okW at hok'; rw [z] at hok'; simp at hok'
          rcases hI.c (show wk k < 6 by omega) with z | ⟨e, he, z⟩
          · exact absurd z hn1
          · refine ⟨e, he, ?_⟩
            unfold okW at hok'
            rw [z, i_nat (by omega)] at hok'
            simp only [Bool.or_eq_false_iff, Bool.and_eq_false_iff] at hok'
            have d5 : day Y wk tk S W 5 (wk k) = Int32.ofNat e := by
              rcases h5w k hk with y | ⟨-, -, y⟩
              · rw [y, hS0, z]
              · rw [hS0] at y; exact absurd y hn1
            have hk2 := hok'.2
            simp at hk2
            unfold evt
            rw [eu, em, el, d5, hk2.1.2, hk2.2]
            simp [hk2.1.1]
      · have e1 : decide (∃ a, a < nA Y ∧ evt Y 0 (day Y wk tk S W) (wk k) a = true) = false := by
          simp only [decide_eq_false_iff_not]
          rintro ⟨e, he, hev⟩
          exact y (hcarv e he hev).1
        rw [e1, Bool.or_false, okW_s y, okW_s (i := i + 1) (by omega)]
        simp [y]
end WORK2
