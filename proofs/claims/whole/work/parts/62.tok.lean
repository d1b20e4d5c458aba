/-! TOKENS, as pure things: by the place at which they stand -/
section TOK
variable {tp : Nat → Int32} {Tn : Nat}
def ch (tp : Nat → Int32) (i : Nat) : Nat := (tp i).toNatClampNeg
def isBl (c : Nat) : Bool := c == 10 || c == 32
def isLt (c : Nat) : Bool := decide (97 ≤ c) && decide (c ≤ 122)
def isDg (c : Nat) : Bool := decide (48 ≤ c) && decide (c ≤ 57)
def isSg (c : Nat) : Bool := c == 40 || c == 41 || c == 59 || c == 61 || c == 60 || c == 43 || c == 45 || c == 42
/-- the first place from k on where P does not hold -/
def tkrf (tp : Nat → Int32) (Tn : Nat) (P : Nat → Bool) : Nat → Nat → Nat
  | 0, k => k
  | f + 1, k => if k < Tn ∧ P (ch tp k) = true then tkrf tp Tn P f (k + 1) else k
def tkr (tp : Nat → Int32) (Tn : Nat) (P : Nat → Bool) (k : Nat) : Nat := tkrf tp Tn P (Tn - k) k
theorem tkr_y {P : Nat → Bool} {k : Nat} (h : k < Tn) (hp : P (ch tp k) = true) : tkr tp Tn P k = tkr tp Tn P (k + 1) := by
  unfold tkr
  obtain ⟨f, hf⟩ : ∃ f, Tn - k = f + 1 := ⟨Tn - k - 1, by omega⟩
  rw [hf, show Tn - (k + 1) = f by omega]
  show (if _ then _ else _) = _
  rw [if_pos ⟨h, hp⟩]
theorem tkr_n {P : Nat → Bool} {k : Nat} (h : ¬ (k < Tn ∧ P (ch tp k) = true)) : tkr tp Tn P k = k := by
  unfold tkr
  cases hf : Tn - k with
  | zero => rfl
  | succ f =>
    show (if _ then _ else _) = _
    rw [if_neg h]
theorem tkrf_ge {P : Nat → Bool} : ∀ f k, k ≤ tkrf tp Tn P f k ∧ (k ≤ Tn → tkrf tp Tn P f k ≤ Tn)
  | 0, k => ⟨Nat.le_refl k, fun h => h⟩
  | f + 1, k => by
    show k ≤ (if _ then _ else _) ∧ _
    by_cases h : k < Tn ∧ P (ch tp k) = true
    · have := tkrf_ge (P := P) f (k + 1)
      rw [if_pos h]
      refine ⟨by omega, fun _ => ?_⟩
      show (if _ then _ else _) ≤ Tn
      rw [if_pos h]; exact this.2 (by omega)
    · rw [if_neg h]
      refine ⟨Nat.le_refl k, fun hk => ?_⟩
      show (if _ then _ else _) ≤ Tn
      rw [if_neg h]; exact hk
theorem tkr_ge {P : Nat → Bool} {k : Nat} : k ≤ tkr tp Tn P k := (tkrf_ge _ k).1
theorem tkr_le {P : Nat → Bool} {k : Nat} (h : k ≤ Tn) : tkr tp Tn P k ≤ Tn := (tkrf_ge _ k).2 h
theorem tkrf_in {P : Nat → Bool} : ∀ f k i, k ≤ i → i < tkrf tp Tn P f k → i < Tn ∧ P (ch tp i) = true
  | 0, k, i, h1, h2 => by have : i < k := h2; omega
  | f + 1, k, i, h1, h2 => by
    have h2 : i < (if _ then _ else _) := h2
    by_cases h : k < Tn ∧ P (ch tp k) = true
    · rw [if_pos h] at h2
      by_cases y : i = k
      · subst y; exact h
      · exact tkrf_in f (k + 1) i (by omega) h2
    · rw [if_neg h] at h2; omega
theorem tkr_in {P : Nat → Bool} {k i : Nat} (h1 : k ≤ i) (h2 : i < tkr tp Tn P k) : i < Tn ∧ P (ch tp i) = true := tkrf_in _ k i h1 h2
/-- the end of a run is no more of it -/
theorem tkr_end {P : Nat → Bool} : ∀ j k, Tn - k = j → ¬ (tkr tp Tn P k < Tn ∧ P (ch tp (tkr tp Tn P k)) = true)
  | 0, k, hj => by
    rw [tkr_n (by omega)]
    intro h; omega
  | j + 1, k, hj => by
    by_cases h : k < Tn ∧ P (ch tp k) = true
    · rw [tkr_y h.1 h.2]; exact tkr_end j (k + 1) (by omega)
    · rw [tkr_n h]; exact h
def skp (tp : Nat → Int32) (Tn k : Nat) : Nat := tkr tp Tn isBl k
/-- of the token at p: its end, its sort (0 the end, 1 a word, 2 a number, 3 a sign, 4 none) -/
def te (tp : Nat → Int32) (Tn p : Nat) : Nat := if p < Tn then (if isLt (ch tp p) then tkr tp Tn isLt p else if isDg (ch tp p) then tkr tp Tn isDg p else p + 1) else p
def so (tp : Nat → Int32) (Tn p : Nat) : Nat := if p < Tn then (if isLt (ch tp p) then (if 8 < te tp Tn p - p then 4 else 1) else if isDg (ch tp p) then (if 4 < te tp Tn p - p then 4 else 2) else if isSg (ch tp p) then 3 else 4) else 0
/-- letters from p to k, a number's digits from p to k -/
def lts (tp : Nat → Int32) (p k : Nat) : List Nat := (List.range (k - p)).map (fun i => ch tp (p + i) - 96)
def dgs (tp : Nat → Int32) (p k : Nat) : Nat := (List.range (k - p)).foldl (fun v i => v * 10 + (ch tp (p + i) - 48)) 0
def wd (tp : Nat → Int32) (Tn p : Nat) : List Nat := lts tp p (te tp Tn p)
def nbv (tp : Nat → Int32) (Tn p : Nat) : Nat := dgs tp p (te tp Tn p)
theorem lts_0 {p : Nat} : lts tp p p = [] := by unfold lts; rw [Nat.sub_self]; rfl
theorem lts_s {p k : Nat} (h : p ≤ k) : lts tp p (k + 1) = lts tp p k ++ [ch tp k - 96] := by
  unfold lts
  rw [show k + 1 - p = (k - p) + 1 by omega, List.range_succ, List.map_append]
  show _ ++ [ch tp (p + (k - p)) - 96] = _
  rw [show p + (k - p) = k by omega]
theorem dgs_0 {p : Nat} : dgs tp p p = 0 := by unfold dgs; rw [Nat.sub_self]; rfl
theorem dgs_s {p k : Nat} (h : p ≤ k) : dgs tp p (k + 1) = dgs tp p k * 10 + (ch tp k - 48) := by
  unfold dgs
  rw [show k + 1 - p = (k - p) + 1 by omega, List.range_succ, List.foldl_append]
  show _ * 10 + _ = _
  rw [show p + (k - p) = k by omega]
theorem wc_s {b : Int64} {w : List Nat} {l : Nat} : wc b (w ++ [l]) = wc b w * b + Int64.ofNat l := by
  unfold wc; rw [List.foldl_append]; rfl
theorem lts_len {p k : Nat} : (lts tp p k).length = k - p := by unfold lts; simp
/-- a word is one -/
theorem wd_isW {p : Nat} (h : so tp Tn p = 1) : isW (wd tp Tn p) := by
  have hp : p < Tn := by unfold so at h; split at h; assumption; omega
  unfold so at h
  rw [if_pos hp] at h
  by_cases hl : isLt (ch tp p) = true
  · rw [if_pos hl] at h
    have h8 : ¬ 8 < te tp Tn p - p := by intro z; rw [if_pos z] at h; omega
    refine ⟨by unfold wd; rw [lts_len]; omega, fun l hl' => ?_⟩
    unfold wd lts at hl'
    rw [List.mem_map] at hl'
    obtain ⟨i, hi, rfl⟩ := hl'
    rw [List.mem_range] at hi
    have ht : te tp Tn p = tkr tp Tn isLt p := by unfold te; rw [if_pos hp, if_pos hl]
    have := (tkr_in (tp := tp) (Tn := Tn) (P := isLt) (k := p) (i := p + i) (by omega) (by omega)).2
    unfold isLt at this
    simp at this
    omega
  · rw [if_neg hl] at h
    exfalso
    split at h
    · split at h <;> omega
    · split at h <;> omega
theorem so_num {p : Nat} (h : so tp Tn p = 2) : te tp Tn p - p ≤ 4 ∧ p < Tn := by
  have hp : p < Tn := by unfold so at h; split at h; assumption; omega
  refine ⟨?_, hp⟩
  unfold so at h
  rw [if_pos hp] at h
  by_cases hl : isLt (ch tp p) = true
  · rw [if_pos hl] at h; split at h <;> omega
  · rw [if_neg hl] at h
    by_cases hd : isDg (ch tp p) = true
    · rw [if_pos hd] at h
      by_cases h4 : 4 < te tp Tn p - p
      · rw [if_pos h4] at h; omega
      · omega
    · rw [if_neg hd] at h; split at h <;> omega
theorem dgs_lt {p : Nat} : ∀ k, (∀ i, i < k → isDg (ch tp (p + i)) = true) → dgs tp p (p + k) < 10 ^ k
  | 0, _ => by rw [Nat.add_zero, dgs_0]; decide
  | k + 1, h => by
    have ih := dgs_lt k (fun i hi => h i (by omega))
    have := h k (by omega)
    unfold isDg at this
    simp at this
    rw [show p + (k + 1) = (p + k) + 1 by omega, dgs_s (by omega), Nat.pow_succ]
    omega
theorem nbv_lt {p : Nat} (h : so tp Tn p = 2) : nbv tp Tn p < 10000 := by
  obtain ⟨h4, hp⟩ := so_num h
  have hd : isDg (ch tp p) = true ∧ ¬ isLt (ch tp p) = true := by
    unfold so at h
    rw [if_pos hp] at h
    by_cases hl : isLt (ch tp p) = true
    · rw [if_pos hl] at h; split at h <;> omega
    · rw [if_neg hl] at h
      by_cases hd : isDg (ch tp p) = true
      · exact ⟨hd, hl⟩
      · rw [if_neg hd] at h; split at h <;> omega
  have ht : te tp Tn p = tkr tp Tn isDg p := by unfold te; rw [if_pos hp, if_neg hd.2, if_pos hd.1]
  have hge := tkr_ge (tp := tp) (Tn := Tn) (P := isDg) (k := p)
  have := dgs_lt (tp := tp) (p := p) (te tp Tn p - p) (fun i hi => (tkr_in (tp := tp) (Tn := Tn) (P := isDg) (k := p) (by omega) (by omega)).2)
  rw [show p + (te tp Tn p - p) = te tp Tn p by omega] at this
  refine Nat.lt_of_lt_of_le this ?_
  exact Nat.pow_le_pow_right (by omega) h4
theorem te_le {p : Nat} (h : p ≤ Tn) : te tp Tn p ≤ Tn := by
  unfold te
  split
  · split
    · exact tkr_le h
    · split
      · exact tkr_le h
      · omega
  · exact h
theorem te_gt {p : Nat} (h : p < Tn) : p < te tp Tn p := by
  unfold te
  rw [if_pos h]
  split
  · rename_i hl
    rw [tkr_y h hl]
    have := tkr_ge (tp := tp) (Tn := Tn) (P := isLt) (k := p + 1)
    omega
  · split
    · rename_i hl
      rw [tkr_y h hl]
      have := tkr_ge (tp := tp) (Tn := Tn) (P := isDg) (k := p + 1)
      omega
    · omega
/-- the n-th token's place -/
def tP (tp : Nat → Int32) (Tn : Nat) : Nat → Nat
  | 0 => skp tp Tn 0
  | n + 1 => skp tp Tn (te tp Tn (tP tp Tn n))
theorem tP_le : ∀ n, tP tp Tn n ≤ Tn
  | 0 => tkr_le (by omega)
  | n + 1 => tkr_le (te_le (tP_le n))
theorem tP_s {n : Nat} (h : tP tp Tn n < Tn) : tP tp Tn n < tP tp Tn (n + 1) := by
  have h1 := te_gt (tp := tp) h
  have h2 : te tp Tn (tP tp Tn n) ≤ tP tp Tn (n + 1) := tkr_ge
  omega
theorem tP_ge : ∀ n, tP tp Tn n < Tn → n ≤ tP tp Tn n
  | 0, _ => by omega
  | n + 1, h => by
    have h1 : tP tp Tn n ≤ tP tp Tn (n + 1) := by
      have h2 : te tp Tn (tP tp Tn n) ≤ tP tp Tn (n + 1) := tkr_ge
      by_cases hl : tP tp Tn n < Tn
      · have := te_gt (tp := tp) hl; omega
      · have : te tp Tn (tP tp Tn n) = tP tp Tn n := by unfold te; rw [if_neg hl]
        omega
    have := tP_ge n (by omega)
    have := tP_s (tp := tp) (Tn := Tn) (n := n) (by omega)
    omega
theorem so_0 {p : Nat} : (so tp Tn p = 0) ↔ ¬ p < Tn := by
  unfold so
  by_cases h : p < Tn
  · rw [if_pos h]
    constructor
    · intro z; exfalso; revert z
      split
      · split <;> omega
      · split
        · split <;> omega
        · split <;> omega
    · intro z; exact absurd h z
  · rw [if_neg h]; exact ⟨fun _ => h, fun _ => rfl⟩
theorem so_le {p : Nat} : so tp Tn p ≤ 4 := by
  unfold so
  split
  · split
    · split <;> omega
    · split
      · split <;> omega
      · split <;> omega
  · omega
/-- a word that is told apart by its number -/
theorem wc_nat {b : Nat} (hb : b ≤ 37) : ∀ w : List Nat, (∀ l ∈ w, l < b) → w.length ≤ 8 → wc (Int64.ofNat b) w = Int64.ofNat (w.foldl (fun v l => v * b + l) 0) ∧ w.foldl (fun v l => v * b + l) 0 < b ^ w.length := by
  intro w
  suffices H : ∀ n (w : List Nat), w.length = n → (∀ l ∈ w, l < b) → wc (Int64.ofNat b) w = Int64.ofNat (w.foldl (fun v l => v * b + l) 0) ∧ w.foldl (fun v l => v * b + l) 0 < b ^ w.length by
    intro h1 _; exact H _ w rfl h1
  intro n
  induction n with
  | zero => intro w hw _; rw [List.length_eq_zero_iff.mp hw]; exact ⟨rfl, by simp⟩
  | succ n ih =>
    intro w hw h1
    obtain ⟨w', l, rfl⟩ : ∃ w' l, w = w' ++ [l] := ⟨w.dropLast, w.getLast (by intro h; rw [h] at hw; simp at hw), (List.dropLast_concat_getLast _).symm⟩
    have hw' : w'.length = n := by simp at hw; exact hw
    obtain ⟨i1, i2⟩ := ih w' hw' (fun l hl => h1 l (by simp [hl]))
    have hl : l < b := h1 l (by simp)
    rw [List.foldl_append]
    refine ⟨?_, ?_⟩
    · rw [wc_s, i1]
      show _ = Int64.ofNat (_ * b + l)
      rw [Int64.ofNat_add, Int64.ofNat_mul]
    · show List.foldl (fun v l => v * b + l) 0 w' * b + l < _
      simp only [List.length_append, List.length_cons, List.length_nil, Nat.pow_succ, Nat.zero_add]
      have : (List.foldl (fun v l => v * b + l) 0 w' + 1) * b ≤ b ^ w'.length * b := Nat.mul_le_mul_right b i2
      rw [Nat.add_mul] at this
      omega
theorem fold_inj {b : Nat} : ∀ (n : Nat) (w w' : List Nat), w.length = n → (∀ l ∈ w, 1 ≤ l ∧ l < b) → (∀ l ∈ w', 1 ≤ l ∧ l < b) → w.foldl (fun v l => v * b + l) 0 = w'.foldl (fun v l => v * b + l) 0 → w = w' := by
  intro n
  induction n with
  | zero =>
    intro w w' hw _ h2 he
    rw [List.length_eq_zero_iff.mp hw] at he ⊢
    rcases List.eq_nil_or_concat w' with rfl | ⟨u, l, rfl⟩
    · rfl
    · exfalso
      rw [List.concat_eq_append] at he h2
      have := (h2 l (by simp)).1
      rw [List.foldl_append] at he
      have he : 0 = List.foldl (fun v l => v * b + l) 0 u * b + l := he
      omega
  | succ n ih =>
    intro w w' hw h1 h2 he
    rcases List.eq_nil_or_concat w with rfl | ⟨v, k, rfl⟩
    · simp at hw
    rcases List.eq_nil_or_concat w' with rfl | ⟨u, l, rfl⟩
    · exfalso
      rw [List.concat_eq_append] at he h1
      have := (h1 k (by simp)).1
      rw [List.foldl_append] at he
      have he : List.foldl (fun v l => v * b + l) 0 v * b + k = 0 := he
      omega
    · rw [List.concat_eq_append] at *
      rw [List.concat_eq_append] at *
      rw [List.foldl_append, List.foldl_append] at he
      have he : List.foldl (fun v l => v * b + l) 0 v * b + k = List.foldl (fun v l => v * b + l) 0 u * b + l := he
      have hk := (h1 k (by simp)).2
      have hl := (h2 l (by simp)).2
      have e1 : k = l := by
        have := congrArg (· % b) he
        simp only [Nat.mul_add_mod_self_right, Nat.mod_eq_of_lt hk, Nat.mod_eq_of_lt hl] at this
        exact this
      subst e1
      have e2 : List.foldl (fun v l => v * b + l) 0 v = List.foldl (fun v l => v * b + l) 0 u := Nat.eq_of_mul_eq_mul_right (show 0 < b by omega) (by omega)
      rw [ih v u (by simp at hw; exact hw) (fun x hx => h1 x (by simp [hx])) (fun x hx => h2 x (by simp [hx])) e2]
theorem wc_inj {b : Nat} (hb : b = 32 ∨ b = 37) {w w' : List Nat} (h : isW w) (h' : isW w') (he : wc (Int64.ofNat b) w = wc (Int64.ofNat b) w') : w = w' := by
  have h37 : b ≤ 37 ∧ 27 ≤ b := by omega
  have a1 := wc_nat (b := b) h37.1 w (fun l hl => by have := (h.2 l hl).2; omega) h.1
  have a2 := wc_nat (b := b) h37.1 w' (fun l hl => by have := (h'.2 l hl).2; omega) h'.1
  rw [a1.1, a2.1] at he
  have bd : ∀ n, n ≤ 8 → b ^ n ≤ 37 ^ 8 := fun n hn => Nat.le_trans (Nat.pow_le_pow_left h37.1 n) (Nat.pow_le_pow_right (by omega) hn)
  have b1 := bd _ h.1
  have b2' := bd _ h'.1
  have c8 : 37 ^ 8 = 3512479453921 := by decide
  have e := congrArg Int64.toInt he
  rw [l_ti (by omega), l_ti (by omega)] at e
  exact fold_inj (b := b) _ w w' rfl (fun l hl => by have := h.2 l hl; omega) (fun l hl => by have := h'.2 l hl; omega) (by omega)
end TOK
