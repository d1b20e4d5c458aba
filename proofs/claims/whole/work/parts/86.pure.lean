/-! YARD: what a draft keeps, line by line -/
section PUREL
variable {tp : Nat → Int32} {Tn n : Nat} {D D' : Dr} {ml : Bool}
def DO1 (D : Dr) : Prop := NOk D.cs D.nm ∧ (∀ i, i < D.cs 0 → D.g 33 i ≤ 9) ∧ (∀ i, i < D.cs 1 → D.g 34 i ≤ 1 ∧ D.g 35 i ≤ 9) ∧ (∀ i, i < D.cs 2 → D.g 36 i ≤ 3 ∧ (1 ≤ D.g 37 i ∧ D.g 37 i ≤ 20) ∧ (1 ≤ D.g 38 i ∧ D.g 38 i ≤ 99) ∧ D.g 39 i ≤ 99 ∧ D.g 40 i < D.cs 1) ∧ (∀ a b, D.cl a b = D.cl b a) ∧ (∀ a, D.cl a a = false) ∧ (∀ a b, D.cl a b = true → a < D.cs 2 ∧ b < D.cs 2) ∧ (D.nw ≤ 14 ∧ (∀ i, i < D.nw → D.g 42 i ≤ 9) ∧ D.mv ≤ 10)
def LD2 (D : Dr) : Prop := LOK (lwc dM D.lm) ∧ LOK (lwc dK D.lk)
theorem fin1_i {o : Option Nat} {n' : Nat} {D1 : Dr} {n1 : Nat} (h : fin1 o D1 n1 = .inl (D', n')) : o = none ∧ D1 = D' ∧ n1 = n' := by
  cases o with
  | none =>
    have h := Sum.inl.inj h
    exact ⟨rfl, congrArg (fun z => z.1) h, congrArg (fun z => z.2) h⟩
  | some e => exact absurd h (by simp [fin1])
theorem new_cs {q : Nat} {w : List Nat} {val : Nat → Nat} (x : Nat) : (D.new q w val).cs x = if x = q then D.cs q + 1 else D.cs x := rfl
theorem new_nm {q : Nat} {w : List Nat} {val : Nat → Nat} (x i : Nat) : (D.new q w val).nm x i = if x = q ∧ i = D.cs q then w else D.nm x i := rfl
theorem new_g {q : Nat} {w : List Nat} {val : Nat → Nat} (c i : Nat) : (D.new q w val).g c i = if rwq c q ∧ i = D.cs q then val c else D.g c i := rfl
theorem new_le {q : Nat} {w : List Nat} {val : Nat → Nat} (x : Nat) : D.cs x ≤ (D.new q w val).cs x := by
  rw [new_cs]; split
  · rename_i h; subst h; omega
  · omega
theorem new_lt {q x i : Nat} {w : List Nat} {val : Nat → Nat} (h : i < (D.new q w val).cs x) : (x = q ∧ i = D.cs q) ∨ (i < D.cs x ∧ ¬ (x = q ∧ i = D.cs q)) := by
  rw [new_cs] at h
  by_cases y : x = q
  · subst y; rw [if_pos rfl] at h; omega
  · rw [if_neg y] at h; exact .inr ⟨h, fun z => y z.1⟩
theorem NOk_new {q : Nat} {w : List Nat} {val : Nat → Nat} (h : NOk D.cs D.nm) (h6 : D.cs q < 6) (hw : isW w) (hn : ¬ ∃ q i, q < 3 ∧ i < D.cs q ∧ D.nm q i = w) : NOk (D.new q w val).cs (D.new q w val).nm := by
  obtain ⟨h1, h2, h3⟩ := h
  refine ⟨fun x hx => ?_, fun x i hx hi => ?_, fun x i x' i' hx hi hx' hi' he => ?_⟩
  · rw [new_cs]; split
    · omega
    · exact h1 x hx
  · rw [new_nm]
    rcases new_lt hi with y | y
    · rw [if_pos y]; exact hw
    · rw [if_neg y.2]; exact h2 x i hx y.1
  · rw [new_nm, new_nm] at he
    rcases new_lt hi with y | y <;> rcases new_lt hi' with z | z
    · exact ⟨y.1.trans z.1.symm, y.2.trans z.2.symm⟩
    · rw [if_pos y, if_neg z.2] at he
      exact absurd ⟨x', i', hx', z.1, he.symm⟩ hn
    · rw [if_neg y.2, if_pos z] at he
      exact absurd ⟨x, i, hx, y.1, he⟩ hn
    · rw [if_neg y.2, if_neg z.2] at he
      exact h3 x i x' i' hx y.1 hx' z.1 he
/-- a new one that is as told -/
theorem DO1_new {q : Nat} {w : List Nat} {val : Nat → Nat} (h : DO1 D) (hq : q < 3) (h6 : D.cs q < 6) (hw : isW w) (hn : ¬ ∃ q i, q < 3 ∧ i < D.cs q ∧ D.nm q i = w) (v0 : q = 0 → val 33 ≤ 9) (v1 : q = 1 → val 34 ≤ 1 ∧ val 35 ≤ 9) (v2 : q = 2 → val 36 ≤ 3 ∧ (1 ≤ val 37 ∧ val 37 ≤ 20) ∧ (1 ≤ val 38 ∧ val 38 ≤ 99) ∧ val 39 ≤ 99 ∧ val 40 < D.cs 1) : DO1 (D.new q w val) := by
  obtain ⟨a1, a2, a3, a4, a5, a6, a7, a8⟩ := h
  have g1 : ∀ c x i, rwq c x → x = q ∧ i = D.cs q → (D.new q w val).g c i = val c := fun c x i hc y => by
    rw [new_g, if_pos ⟨by rw [← y.1]; exact hc, y.2⟩]
  have g2 : ∀ c x i, rwq c x → ¬ (x = q ∧ i = D.cs q) → (D.new q w val).g c i = D.g c i := fun c x i hc y => by
    rw [new_g, if_neg (fun z => y ⟨by have := z.1; unfold rwq at hc this; omega, z.2⟩)]
  have r33 : rwq 33 0 := .inl ⟨rfl, rfl⟩
  have r34 : ∀ c, 34 ≤ c → c ≤ 35 → rwq c 1 := fun c x y => .inr (.inl ⟨x, y, rfl⟩)
  have r36 : ∀ c, 36 ≤ c → c ≤ 40 → rwq c 2 := fun c x y => .inr (.inr ⟨x, y, rfl⟩)
  have l1 : D.cs 1 ≤ (D.new q w val).cs 1 := new_le 1
  refine ⟨NOk_new a1 h6 hw hn, fun i hi => ?_, fun i hi => ?_, fun i hi => ?_, a5, a6, fun a b hab => ?_, a8.1, fun i hi => ?_, a8.2.2⟩
  · rcases new_lt hi with y | y
    · rw [g1 33 0 i r33 y]; exact v0 y.1.symm
    · rw [g2 33 0 i r33 y.2]; exact a2 i y.1
  · rcases new_lt hi with y | y
    · rw [g1 34 1 i (r34 _ (by omega) (by omega)) y, g1 35 1 i (r34 _ (by omega) (by omega)) y]; exact v1 y.1.symm
    · rw [g2 34 1 i (r34 _ (by omega) (by omega)) y.2, g2 35 1 i (r34 _ (by omega) (by omega)) y.2]; exact a3 i y.1
  · rcases new_lt hi with y | y
    · have v := v2 y.1.symm
      rw [g1 36 2 i (r36 _ (by omega) (by omega)) y, g1 37 2 i (r36 _ (by omega) (by omega)) y, g1 38 2 i (r36 _ (by omega) (by omega)) y, g1 39 2 i (r36 _ (by omega) (by omega)) y, g1 40 2 i (r36 _ (by omega) (by omega)) y]
      exact ⟨v.1, v.2.1, v.2.2.1, v.2.2.2.1, by omega⟩
    · have v := a4 i y.1
      rw [g2 36 2 i (r36 _ (by omega) (by omega)) y.2, g2 37 2 i (r36 _ (by omega) (by omega)) y.2, g2 38 2 i (r36 _ (by omega) (by omega)) y.2, g2 39 2 i (r36 _ (by omega) (by omega)) y.2, g2 40 2 i (r36 _ (by omega) (by omega)) y.2]
      exact ⟨v.1, v.2.1, v.2.2.1, v.2.2.2.1, by omega⟩
  · have := a7 a b hab
    have l2 : D.cs 2 ≤ (D.new q w val).cs 2 := new_le 2
    omega
  · rw [new_g, if_neg (fun z => by have := z.1; unfold rwq at this; omega)]; exact a8.2.1 i hi
theorem DO1_cla {a b : Nat} (h : DO1 D) (ha : a < D.cs 2) (hb : b < D.cs 2) (hab : b ≠ a) : DO1 (D.cla a b) := by
  obtain ⟨a1, a2, a3, a4, a5, a6, a7, a8⟩ := h
  have e : ∀ x y, (D.cla a b).cl x y = (D.cl x y || (decide (x = a ∧ y = b) || decide (x = b ∧ y = a))) := fun _ _ => rfl
  refine ⟨a1, a2, a3, a4, fun x y => ?_, fun x => ?_, fun x y hxy => ?_, a8⟩
  · rw [e, e, a5 x y]
    congr 1
    rw [Bool.or_comm]
    congr 1
    · rw [decide_eq_decide]; exact And.comm
    · rw [decide_eq_decide]; exact And.comm
  · rw [e, a6 x]
    have h1 : ¬ (x = a ∧ x = b) := fun z => hab (z.2.symm.trans z.1)
    have h2 : ¬ (x = b ∧ x = a) := fun z => hab (z.1.symm.trans z.2)
    simp [h1, h2]
  · rw [e] at hxy
    show x < D.cs 2 ∧ y < D.cs 2
    simp only [Bool.or_eq_true, decide_eq_true_eq] at hxy
    rcases hxy with z | z | z
    · exact a7 x y z
    · rw [z.1, z.2]; exact ⟨ha, hb⟩
    · rw [z.1, z.2]; exact ⟨hb, ha⟩
theorem pNts_ok : ∀ f k m, pNts tp Tn f n k = .inl m → (∀ i, i < k → kV tp Tn (n + i) ≤ 9) → k ≤ 14 → m ≤ 14 ∧ 1 ≤ m ∧ k ≤ m ∧ ∀ i, i < m → kV tp Tn (n + i) ≤ 9
  | 0, k, m, h, _, _ => by exact absurd h (by simp [pNts])
  | f + 1, k, m, h, hk, h14 => by
    rw [pNts_s] at h
    by_cases y : k ≠ 0 ∧ kS tp Tn (n + k) ≠ 2
    · rw [if_pos y] at h
      have h := Sum.inl.inj h
      subst h
      exact ⟨h14, by omega, Nat.le_refl _, hk⟩
    · rw [if_neg y] at h
      by_cases hn : numO tp Tn (n + k) 0 9 = 0
      · rw [if_neg (by omega)] at h
        by_cases k14 : k = 14
        · rw [if_pos k14] at h; exact absurd h (by simp)
        · rw [if_neg k14] at h
          have := pNts_ok f (k + 1) m h (fun i hi => by
            by_cases z : i = k
            · subst z; exact (numO_k hn).2.2
            · exact hk i (by omega)) (by omega)
          exact ⟨this.1, this.2.1, by omega, this.2.2.2⟩
      · rw [if_pos hn] at h; exact absurd h (by simp)
/-- the machine never goes back -/
def MGe (N : Nat) (x : MX) : Prop := match x with | .inl s => N ≤ s.2.1 | .inr (.inl p) => N ≤ p.1 | .inr (.inr _) => True
theorem MGe_st {N : Nat} {s : MS} (h : N ≤ s.2.1) : MGe N (mst tp Tn ml s) := by
  obtain ⟨m, n, st, c⟩ := s
  have h : N ≤ n := h
  have md : ∀ (p : List Nat × List Nat) (e : List Nat → MX) (f : List Nat → List Nat → MX), (∀ c, MGe N (e c)) → (∀ s c, MGe N (f s c)) → MGe N (mend1 p e f) := fun p e f h1 h2 => by
    obtain ⟨p1, p2⟩ := p
    cases p1 with
    | nil => exact h1 _
    | cons a b => exact h2 _ _
  unfold mst
  simp only
  split
  · split
    · split
      · trivial
      · show N ≤ n + 1; omega
    · split
      · trivial
      · split
        · trivial
        · show N ≤ n + 1; omega
  · split
    · split
      · exact h
      · exact h
    · split
      · exact md _ _ _ (fun c => h) (fun s c => by show N ≤ n + 1; omega)
      · split
        · exact md _ _ _ (fun c => h) (fun s c => trivial)
        · split
          · trivial
          · show N ≤ n + 1; omega
theorem MGe_it {N : Nat} : ∀ k x, MGe N x → MGe N (mit tp Tn ml k x)
  | 0, x, h => h
  | k + 1, x, h => by
    refine MGe_it k _ ?_
    cases x with
    | inl s => exact MGe_st h
    | inr o => exact h
theorem Rch_ge {n' : Nat} {c : List Nat} (h : Rch tp Tn ml (.inl (0, n, [], [])) (.inr (.inl (n', c)))) : n ≤ n' := by
  obtain ⟨k, hk⟩ := h
  have := MGe_it (tp := tp) (Tn := Tn) (ml := ml) (N := n) k (.inl (0, n, [], [])) (Nat.le_refl n)
  rw [hk] at this
  exact this
theorem lwO_ge {n' : Nat} {c : List Nat} (h : lwS tp Tn (lwO tp Tn ml n) = .inl (n', c)) : n < n' ∧ ∃ m, n' = m + 1 ∧ isSN tp Tn m 59 = true ∧ Rch tp Tn ml (.inl (0, n, [], [])) (.inr (.inl (m, c))) := by
  have hx : ∃ o, Rch tp Tn ml (.inl (0, n, [], [])) (.inr o) := by
    apply Classical.byContradiction
    intro hx
    unfold lwO at h
    rw [dif_neg hx] at h
    exact absurd h (by simp [lwS])
  obtain ⟨o, ho⟩ := hx
  rw [lwO_eq ho] at h
  cases o with
  | inr e => exact absurd h (by simp [lwS])
  | inl p =>
    obtain ⟨m, c'⟩ := p
    have h : (if isSN tp Tn m 59 then Sum.inl (m + 1, c') else Sum.inr (flt tp Tn 1 m)) = (Sum.inl (n', c) : (Nat × List Nat) ⊕ Nat) := h
    by_cases hy : isSN tp Tn m 59 = true
    · rw [if_pos hy] at h
      have h := Sum.inl.inj h
      have e1 : m + 1 = n' := congrArg (fun z => z.1) h
      have e2 : c' = c := congrArg (fun z => z.2) h
      subst e2
      have := Rch_ge ho
      exact ⟨by omega, m, e1.symm, hy, ho⟩
    · rw [if_neg hy] at h; exact absurd h (by simp)
theorem pLw_i {n' : Nat} (h : pLw tp Tn D ml n = .inl (D', n')) : n < n' ∧ ∃ c, lwS tp Tn (lwO tp Tn ml (n + 1)) = .inl (n', c) ∧ D' = (if ml then (D.cs, D.nm, D.g, D.cl, D.pr, D.nw, D.mt, D.mv, some c, D.lk) else (D.cs, D.nm, D.g, D.cl, D.pr, D.nw, D.mt, D.mv, D.lm, some c)) := by
  unfold pLw at h
  by_cases hs : (if ml then D.lm else D.lk).isSome = true
  · rw [if_pos hs] at h; exact absurd h (by simp)
  · rw [if_neg hs] at h
    cases ho : lwS tp Tn (lwO tp Tn ml (n + 1)) with
    | inr e => rw [ho] at h; exact absurd h (by simp [pLw2])
    | inl p =>
      obtain ⟨m, c⟩ := p
      rw [ho] at h
      have h := Sum.inl.inj h
      have e1 : _ = D' := congrArg (fun z => z.1) h
      have e2 : m = n' := congrArg (fun z => z.2) h
      subst e2
      have := (lwO_ge ho).1
      exact ⟨by omega, c, rfl, e1.symm⟩
theorem pLn_ok {n' : Nat} (h : DO1 D) (hp : pLn tp Tn D n = .inl (D', n')) : DO1 D' ∧ n < n' := by
  unfold pLn at hp
  by_cases c0 : isWN tp Tn n (kwd 0) = true
  · rw [if_pos c0] at hp
    obtain ⟨q1, rfl, rfl⟩ := fin1_i hp
    obtain ⟨o1, q1⟩ := chk_no q1
    obtain ⟨o2, q1⟩ := chk_no q1
    obtain ⟨o3, q1⟩ := chk_no q1
    obtain ⟨o4, q1⟩ := chk_no q1
    exact ⟨DO1_new h (by omega) (full_0 o1) (wd_isW (newO_k o2)) (newO_o o2).2 (fun _ => (numO_k o4).2.2) (fun z => by omega) (fun z => by omega), by omega⟩
  rw [if_neg c0] at hp
  by_cases c2 : isWN tp Tn n (kwd 2) = true
  · rw [if_pos c2] at hp
    obtain ⟨q1, rfl, rfl⟩ := fin1_i hp
    obtain ⟨o1, q1⟩ := chk_no q1
    obtain ⟨o2, q1⟩ := chk_no q1
    obtain ⟨o3, q1⟩ := chk_no q1
    obtain ⟨o4, q1⟩ := chk_no q1
    obtain ⟨o5, q1⟩ := chk_no q1
    refine ⟨DO1_new h (by omega) (full_0 o1) (wd_isW (newO_k o2)) (newO_o o2).2 (fun z => by omega) (fun _ => ⟨?_, ?_⟩) (fun z => by omega), by omega⟩
    · simp only [if_true]; exact (sdO_k o3).2
    · simp only [show ¬ (35 = 34) by omega, if_false]; exact (numO_k o5).2.2
  rw [if_neg c2] at hp
  by_cases c4 : isWN tp Tn n (kwd 4) = true
  · rw [if_pos c4] at hp
    obtain ⟨q1, rfl, rfl⟩ := fin1_i hp
    obtain ⟨o1, q1⟩ := chk_no q1
    obtain ⟨o2, q1⟩ := chk_no q1
    obtain ⟨o3, q1⟩ := chk_no q1
    obtain ⟨o4, q1⟩ := chk_no q1
    obtain ⟨o5, q1⟩ := chk_no q1
    obtain ⟨o6, q1⟩ := chk_no q1
    obtain ⟨o7, q1⟩ := chk_no q1
    obtain ⟨o8, q1⟩ := chk_no q1
    obtain ⟨o9, q1⟩ := chk_no q1
    obtain ⟨o10, q1⟩ := chk_no q1
    obtain ⟨o11, q1⟩ := chk_no q1
    refine ⟨DO1_new h (by omega) (full_0 o1) (wd_isW (newO_k o2)) (newO_o o2).2 (fun z => by omega) (fun z => by omega) (fun _ => ⟨?_, ?_, ?_, ?_, ?_⟩), by omega⟩
    · simp only [if_true]; exact (kdO_k o3).2
    · simp only [show ¬ (37 = 36) by omega, if_false, if_true]; exact (numO_k o5).2
    · simp only [show ¬ (38 = 36) by omega, show ¬ (38 = 37) by omega, if_false, if_true]; exact (numO_k o7).2
    · simp only [show ¬ (39 = 36) by omega, show ¬ (39 = 37) by omega, show ¬ (39 = 38) by omega, if_false, if_true]; exact (numO_k o9).2.2
    · simp only [show ¬ (40 = 36) by omega, show ¬ (40 = 37) by omega, show ¬ (40 = 38) by omega, show ¬ (40 = 39) by omega, if_false]; exact namO_f o11
  rw [if_neg c4] at hp
  by_cases c9 : isWN tp Tn n (kwd 9) = true
  · rw [if_pos c9] at hp
    obtain ⟨q1, rfl, rfl⟩ := fin1_i hp
    obtain ⟨o1, q1⟩ := chk_no q1
    obtain ⟨o2, q1⟩ := chk_no q1
    obtain ⟨o3, q1⟩ := chk_no q1
    refine ⟨DO1_cla h (namO_f o1) (namO_f o2) (fun z => ?_), by omega⟩
    rw [if_pos (.inl z)] at o3; omega
  rw [if_neg c9] at hp
  by_cases c10 : isWN tp Tn n (kwd 10) = true
  · rw [if_pos c10] at hp
    unfold pNi at hp
    by_cases hw : D.nw = 0
    · rw [if_neg (by omega)] at hp
      cases hk : pNts tp Tn 16 (n + 1) 0 with
      | inr e => rw [hk] at hp; exact absurd hp (by simp [pNi2])
      | inl k =>
        rw [hk] at hp
        obtain ⟨q1, rfl, rfl⟩ := fin1_i hp
        have ok := pNts_ok 16 0 k hk (fun i hi => by omega) (by omega)
        obtain ⟨a1, a2, a3, a4, a5, a6, a7, a8⟩ := h
        refine ⟨⟨a1, fun i hi => ?_, fun i hi => ?_, fun i hi => ?_, a5, a6, a7, ok.1, fun i hi => ?_, a8.2.2⟩, by omega⟩
        · exact a2 i hi
        · exact a3 i hi
        · exact a4 i hi
        · show (if 42 = 42 then kV tp Tn (n + 1 + i) else D.g 42 i) ≤ 9
          rw [if_pos rfl]; exact ok.2.2.2 i hi
    · rw [if_pos hw] at hp; exact absurd hp (by simp)
  rw [if_neg c10] at hp
  by_cases c11 : isWN tp Tn n (kwd 11) = true
  · rw [if_pos c11] at hp
    unfold pMi at hp
    by_cases hm : D.mt = true
    · rw [if_pos hm] at hp; exact absurd hp (by simp)
    · rw [if_neg hm] at hp
      obtain ⟨q1, rfl, rfl⟩ := fin1_i hp
      obtain ⟨o1, q1⟩ := chk_no q1
      obtain ⟨a1, a2, a3, a4, a5, a6, a7, a8⟩ := h
      exact ⟨⟨a1, a2, a3, a4, a5, a6, a7, a8.1, a8.2.1, (numO_k o1).2.2⟩, by omega⟩
  rw [if_neg c11] at hp
  by_cases c12 : isWN tp Tn n (kwd 12) = true
  · rw [if_pos c12] at hp
    obtain ⟨h1, c, -, rfl⟩ := pLw_i hp
    exact ⟨h, h1⟩
  rw [if_neg c12] at hp
  by_cases c13 : isWN tp Tn n (kwd 13) = true
  · rw [if_pos c13] at hp
    obtain ⟨h1, c, -, rfl⟩ := pLw_i hp
    exact ⟨h, h1⟩
  rw [if_neg c13] at hp
  exact absurd hp (by simp)
end PUREL
