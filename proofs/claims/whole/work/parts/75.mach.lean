/-! LAWS: a machine that reads them, as a pure thing -/
section MACH
variable {tp : Nat → Int32} {Tn n : Nat} {ml : Bool} {st : List Nat} {c : List Nat}
/-- how tightly a word joins; 0: not (10003) and the bracket (10011) -/
def wrk (w : Nat) : Nat := if w = 10004 then 4 else if w = 10005 ∨ w = 10006 then 3 else if w = 10007 ∨ w = 10008 then 2 else if w = 10009 ∨ w = 10010 then 1 else 0
def nst : List Nat → Nat
  | [] => 0
  | w :: s => nst s + if wrk w = 0 then 1 else 0
/-- what joins at least so tightly leaves the stack -/
def sttl (q : Nat) : List Nat → List Nat → List Nat × List Nat
  | [], c => ([], c)
  | w :: s, c => if q ≤ wrk w then sttl q s (c ++ [w]) else (w :: s, c)
/-- the word of the j-th fact -/
def fkw (ml : Bool) (j : Nat) : Nat := if ml then 28 + j else if j = 0 then 31 else if j = 1 then 30 else 32
/-- the leaf that stands here: 20000 for none -/
def lfw (tp : Nat → Int32) (Tn : Nat) (ml : Bool) (n : Nat) : Nat := if kS tp Tn n = 2 then kV tp Tn n else if isWN tp Tn n (kwd (fkw ml 0)) then 10000 else if isWN tp Tn n (kwd (fkw ml 1)) then 10001 else if isWN tp Tn n (kwd (fkw ml 2)) then 10002 else 20000
/-- the join that stands here: 0 for none -/
def jnw (tp : Nat → Int32) (Tn n : Nat) : Nat := if isSN tp Tn n 42 then 10004 else if isSN tp Tn n 43 then 10005 else if isSN tp Tn n 45 then 10006 else if isSN tp Tn n 60 then 10007 else if isSN tp Tn n 61 then 10008 else if isWN tp Tn n (kwd 26) then 10009 else if isWN tp Tn n (kwd 27) then 10010 else 0
/-- mode, token, stack (its top first), code; at the end token and code, or a fault -/
abbrev MS : Type := Nat × Nat × List Nat × List Nat
abbrev MX : Type := MS ⊕ ((Nat × List Nat) ⊕ Nat)
def rkt (st : List Nat) : Nat := match st with | [] => 0 | w :: _ => wrk w
def mend1 (p : List Nat × List Nat) (e : List Nat → MX) (f : List Nat → List Nat → MX) : MX := match p.1 with | [] => e p.2 | _ :: s => f s p.2
def mst (tp : Nat → Int32) (Tn : Nat) (ml : Bool) (s : MS) : MX :=
  let n := s.2.1
  let st := s.2.2.1
  let c := s.2.2.2
  if s.1 = 0 then
    (if isWN tp Tn n (kwd 25) = true ∨ isSN tp Tn n 40 = true then (if 5 ≤ nst st then .inr (.inr (flt tp Tn 5 n)) else .inl (0, n + 1, (if isWN tp Tn n (kwd 25) then 10003 else 10011) :: st, c))
     else if lfw tp Tn ml n = 20000 then .inr (.inr (flt tp Tn 1 n))
     else if 5 ≤ nst st then .inr (.inr (flt tp Tn 5 n)) else .inl (1, n + 1, st, c ++ [lfw tp Tn ml n]))
  else if s.1 = 1 then (if st.head? = some 10003 then .inl (1, n, st.tail, c ++ [10003]) else .inl (2, n, st, c))
  else if isSN tp Tn n 41 then mend1 (sttl 1 st c) (fun c' => .inr (.inl (n, c'))) (fun s' c' => .inl (1, n + 1, s', c'))
  else if jnw tp Tn n = 0 then mend1 (sttl 1 st c) (fun c' => .inr (.inl (n, c'))) (fun _ _ => .inr (.inr (flt tp Tn 1 n)))
  else if wrk (jnw tp Tn n) = 2 ∧ rkt (sttl 3 st c).1 = 2 then .inr (.inr (flt tp Tn 1 n))
  else let p := sttl (if wrk (jnw tp Tn n) = 2 then 3 else wrk (jnw tp Tn n)) st c
    .inl (0, n + 1, jnw tp Tn n :: p.1, p.2)
def mstx (tp : Nat → Int32) (Tn : Nat) (ml : Bool) : MX → MX
  | .inl s => mst tp Tn ml s
  | .inr o => .inr o
def mit (tp : Nat → Int32) (Tn : Nat) (ml : Bool) : Nat → MX → MX
  | 0, x => x
  | k + 1, x => mit tp Tn ml k (mstx tp Tn ml x)
def Rch (tp : Nat → Int32) (Tn : Nat) (ml : Bool) (x y : MX) : Prop := ∃ k, mit tp Tn ml k x = y
theorem mit_add (a b : Nat) : ∀ x, mit tp Tn ml (a + b) x = mit tp Tn ml b (mit tp Tn ml a x) := by
  induction a with
  | zero => intro x; rw [Nat.zero_add]; rfl
  | succ a ih => intro x; rw [show a + 1 + b = (a + b) + 1 by omega]; exact ih _
theorem Rch.rf {x : MX} : Rch tp Tn ml x x := ⟨0, rfl⟩
theorem Rch.tr {x y z : MX} (h : Rch tp Tn ml x y) (h' : Rch tp Tn ml y z) : Rch tp Tn ml x z := by
  obtain ⟨a, rfl⟩ := h
  obtain ⟨b, rfl⟩ := h'
  exact ⟨a + b, mit_add a b x⟩
theorem Rch.sp {s : MS} {y : MX} (h : mst tp Tn ml s = y) : Rch tp Tn ml (.inl s) y := ⟨1, h⟩
theorem mit_r {o : (Nat × List Nat) ⊕ Nat} : ∀ k, mit tp Tn ml k (.inr o) = .inr o
  | 0 => rfl
  | k + 1 => mit_r k
/-- the end is one -/
theorem Rch.one {x : MX} {o o' : (Nat × List Nat) ⊕ Nat} (h : Rch tp Tn ml x (.inr o)) (h' : Rch tp Tn ml x (.inr o')) : o = o' := by
  obtain ⟨a, h⟩ := h
  obtain ⟨b, h'⟩ := h'
  have e1 := mit_add (tp := tp) (Tn := Tn) (ml := ml) a b x
  have e2 := mit_add (tp := tp) (Tn := Tn) (ml := ml) b a x
  rw [h, mit_r] at e1
  rw [h', mit_r] at e2
  rw [Nat.add_comm, e2] at e1
  exact (Sum.inr.inj e1).symm
/-- settling -/
theorem sttl_pend {q : Nat} : ∀ (pd st c : List Nat), (∀ w ∈ pd, q ≤ wrk w) → (rkt st < q) → sttl q (pd ++ st) c = (st, c ++ pd)
  | [], st, c, _, h => by
    rw [List.nil_append, List.append_nil]
    cases st with
    | nil => rfl
    | cons w s => show (if q ≤ wrk w then _ else _) = _; rw [if_neg (by have : wrk w < q := h; omega)]
  | w :: pd, st, c, hp, h => by
    show (if q ≤ wrk w then sttl q (pd ++ st) (c ++ [w]) else _) = _
    rw [if_pos (hp w (by simp)), sttl_pend pd st (c ++ [w]) (fun x hx => hp x (by simp [hx])) h, List.append_assoc]
    rfl
theorem sttl_nil {q : Nat} {pd c : List Nat} (hp : ∀ w ∈ pd, q ≤ wrk w) (h : 0 < q) : sttl q pd c = ([], c ++ pd) := by
  have := sttl_pend (q := q) pd [] c hp h
  rw [List.append_nil] at this; exact this
theorem wrk_le {w : Nat} : wrk w ≤ 4 := by
  unfold wrk; split
  · omega
  · split
    · omega
    · split
      · omega
      · split <;> omega
theorem jnw_rk (h : jnw tp Tn n ≠ 0) : 1 ≤ wrk (jnw tp Tn n) ∧ jnw tp Tn n ≠ 10003 ∧ jnw tp Tn n ≠ 10011 ∧ 10004 ≤ jnw tp Tn n ∧ jnw tp Tn n ≤ 10010 := by
  revert h
  unfold jnw
  split
  · intro _; decide
  · split
    · intro _; decide
    · split
      · intro _; decide
      · split
        · intro _; decide
        · split
          · intro _; decide
          · split
            · intro _; decide
            · split
              · intro _; decide
              · intro h; exact absurd rfl h
/-- signs and words that stand at one token -/
theorem sn_1 {a b : Nat} (h : isSN tp Tn n a = true) (hab : a ≠ b) : isSN tp Tn n b = false := by
  unfold isSN at *
  exact decide_eq_false (fun z => hab ((of_decide_eq_true h).2.symm.trans z.2))
theorem sn_w {a : Nat} {w : List Nat} (h : isSN tp Tn n a = true) : isWN tp Tn n w = false := by
  unfold isSN isWN at *
  exact decide_eq_false (fun z => by have := (of_decide_eq_true h).1; omega)
theorem wn_s {a : Nat} {w : List Nat} (h : isWN tp Tn n w = true) : isSN tp Tn n a = false := by
  unfold isSN isWN at *
  exact decide_eq_false (fun z => by have := (of_decide_eq_true h).1; omega)
theorem wn_1 {a b : Nat} (h : isWN tp Tn n (kwd a) = true) (ha : a < 33) (hb : b < 33) (hab : a ≠ b) : isWN tp Tn n (kwd b) = false := by
  unfold isWN at *
  exact decide_eq_false (fun z => hab (kwd_inj a ha b hb ((of_decide_eq_true h).2.symm.trans z.2)))
/-- steps of the machine -/
theorem ms_not (h : isWN tp Tn n (kwd 25) = true) (h5 : nst st < 5) : mst tp Tn ml (0, n, st, c) = .inl (0, n + 1, 10003 :: st, c) := by
  simp only [mst, if_true, h, true_or, show ¬ 5 ≤ nst st by omega, if_false]
theorem ms_br (h : isSN tp Tn n 40 = true) (h5 : nst st < 5) : mst tp Tn ml (0, n, st, c) = .inl (0, n + 1, 10011 :: st, c) := by
  have hw : isWN tp Tn n (kwd 25) = false := sn_w h
  simp only [mst, if_true, h, hw, or_true, show ¬ 5 ≤ nst st by omega, if_false]; rfl
theorem ms_op5 (h : isWN tp Tn n (kwd 25) = true ∨ isSN tp Tn n 40 = true) (h5 : 5 ≤ nst st) : mst tp Tn ml (0, n, st, c) = .inr (.inr (flt tp Tn 5 n)) := by
  simp only [mst, if_true, h, h5]
theorem ms_lf (h : ¬ (isWN tp Tn n (kwd 25) = true ∨ isSN tp Tn n 40 = true)) (hl : lfw tp Tn ml n ≠ 20000) (h5 : nst st < 5) : mst tp Tn ml (0, n, st, c) = .inl (1, n + 1, st, c ++ [lfw tp Tn ml n]) := by
  simp only [mst, if_true, h, hl, show ¬ 5 ≤ nst st by omega, if_false]
theorem ms_lf5 (h : ¬ (isWN tp Tn n (kwd 25) = true ∨ isSN tp Tn n 40 = true)) (hl : lfw tp Tn ml n ≠ 20000) (h5 : 5 ≤ nst st) : mst tp Tn ml (0, n, st, c) = .inr (.inr (flt tp Tn 5 n)) := by
  simp only [mst, if_true, h, hl, h5, if_false]
theorem ms_no (h : ¬ (isWN tp Tn n (kwd 25) = true ∨ isSN tp Tn n 40 = true)) (hl : lfw tp Tn ml n = 20000) : mst tp Tn ml (0, n, st, c) = .inr (.inr (flt tp Tn 1 n)) := by
  simp only [mst, if_true, h, hl, if_false]
theorem ms_cn : mst tp Tn ml (1, n, 10003 :: st, c) = .inl (1, n, st, c ++ [10003]) := by
  simp only [mst, show ¬ (1 = 0) by omega, if_false, if_true, List.head?_cons, List.tail_cons]
theorem ms_12 (h : st.head? ≠ some 10003) : mst tp Tn ml (1, n, st, c) = .inl (2, n, st, c) := by
  simp only [mst, show ¬ (1 = 0) by omega, if_false, if_true, h]
/-- a closing bracket over a bracket -/
theorem ms_cl {pd cm : List Nat} (h : isSN tp Tn n 41 = true) (hp : ∀ w ∈ pd, 1 ≤ wrk w) : mst tp Tn ml (2, n, pd ++ 10011 :: st, cm) = .inl (1, n + 1, st, cm ++ pd) := by
  simp only [mst, show ¬ (2 = 0) by omega, show ¬ (2 = 1) by omega, if_false, h, if_true, sttl_pend (q := 1) pd (10011 :: st) cm hp (show rkt (10011 :: st) < 1 from by show wrk 10011 < 1; decide), mend1]
theorem ms_end {pd cm : List Nat} (h : isSN tp Tn n 41 = true ∨ jnw tp Tn n = 0) (hp : ∀ w ∈ pd, 1 ≤ wrk w) : mst tp Tn ml (2, n, pd, cm) = .inr (.inl (n, cm ++ pd)) := by
  by_cases h1 : isSN tp Tn n 41 = true
  · simp only [mst, show ¬ (2 = 0) by omega, show ¬ (2 = 1) by omega, if_false, h1, if_true, sttl_nil (q := 1) hp (by omega), mend1]
  · have h2 := h.resolve_left h1
    simp only [mst, show ¬ (2 = 0) by omega, show ¬ (2 = 1) by omega, if_false, nf h1, h2, if_true, sttl_nil (q := 1) hp (by omega), mend1]; rfl
/-- nothing that goes on within a bracket -/
theorem ms_bad {pd cm : List Nat} (h1 : isSN tp Tn n 41 = false) (h2 : jnw tp Tn n = 0) (hp : ∀ w ∈ pd, 1 ≤ wrk w) : mst tp Tn ml (2, n, pd ++ 10011 :: st, cm) = .inr (.inr (flt tp Tn 1 n)) := by
  simp only [mst, show ¬ (2 = 0) by omega, show ¬ (2 = 1) by omega, if_false, h1, h2, if_true, sttl_pend (q := 1) pd (10011 :: st) cm hp (show rkt (10011 :: st) < 1 from by show wrk 10011 < 1; decide), mend1]; rfl
/-- a join: what is pending at least so tightly goes -/
theorem ms_jn {pd cm : List Nat} (h1 : isSN tp Tn n 41 = false) (hj : jnw tp Tn n ≠ 0) (h2 : wrk (jnw tp Tn n) ≠ 2) (hp : ∀ w ∈ pd, wrk (jnw tp Tn n) ≤ wrk w) (hr : rkt st < wrk (jnw tp Tn n)) : mst tp Tn ml (2, n, pd ++ st, cm) = .inl (0, n + 1, jnw tp Tn n :: st, cm ++ pd) := by
  simp only [mst, show ¬ (2 = 0) by omega, show ¬ (2 = 1) by omega, if_false, h1, hj, h2, false_and, sttl_pend pd st cm hp hr]; rfl
theorem ms_cm {pd cm : List Nat} (h1 : isSN tp Tn n 41 = false) (hj : jnw tp Tn n ≠ 0) (h2 : wrk (jnw tp Tn n) = 2) (hp : ∀ w ∈ pd, 3 ≤ wrk w) (hr : rkt st < 2) : mst tp Tn ml (2, n, pd ++ st, cm) = .inl (0, n + 1, jnw tp Tn n :: st, cm ++ pd) := by
  have hs := sttl_pend (q := 3) pd st cm hp (by omega)
  simp only [mst, show ¬ (2 = 0) by omega, show ¬ (2 = 1) by omega, if_false, h1, hj, h2, true_and, hs, if_true, show ¬ rkt st = 2 by omega]; rfl
theorem ms_cb {pd cm : List Nat} (h1 : isSN tp Tn n 41 = false) (hj : jnw tp Tn n ≠ 0) (h2 : wrk (jnw tp Tn n) = 2) (hp : ∀ w ∈ pd, 3 ≤ wrk w) (hr : rkt st = 2) : mst tp Tn ml (2, n, pd ++ st, cm) = .inr (.inr (flt tp Tn 1 n)) := by
  have hs := sttl_pend (q := 3) pd st cm hp (by omega)
  simp only [mst, show ¬ (2 = 0) by omega, show ¬ (2 = 1) by omega, if_false, h1, hj, h2, true_and, hs, if_true, hr]; rfl
end MACH
