/-! TOKENS of the reference: the cut -/
section RTOK
variable {tp : Nat → Int32} {Tn d n : Nat} {M M' : Mem}
/-- a loop with a measure -/
theorem lp_ms {d x pc : Nat} (c F0 : Nat) (I : Nat → Lv → Mem → Prop) {Q : Option AV → Mem → Prop}
    (hstep : ∀ m lv M F, F0 + (m + 1) * c ≤ F → I m lv M → (∀ m' lv' M' F', m' < m → F0 + (m' + 1) * c ≤ F' → I m' lv' M' → Hm (lp d x F' pc lv' M') Q) → Hm (lp d x F pc lv M) Q) :
    ∀ m lv M F, F0 + (m + 1) * c ≤ F → I m lv M → Hm (lp d x F pc lv M) Q := by
  intro m
  induction m using Nat.strongRecOn with
  | _ m ih =>
    intro lv M F hF hI
    exact hstep m lv M F hF hI (fun m' lv' M' F' hm hF' hI' => ih m' hm lv' M' F' hF' hI')
def vis (tp : Nat → Int32) (Tn n : Nat) : Prop := ∀ i, i < n → kS tp Tn i ≠ 0
theorem vis_s (h : vis tp Tn n) (hk : kS tp Tn n ≠ 0) : vis tp Tn (n + 1) := fun i hi => by
  by_cases y : i = n
  · subst y; exact hk
  · exact h i (by omega)
theorem vis_le (h : vis tp Tn n) : n ≤ Tn := by
  cases n with
  | zero => omega
  | succ m =>
    have := kS_lt (h m (by omega))
    have := tP_ge (tp := tp) (Tn := Tn) m this
    omega
def kval (tp : Nat → Int32) (Tn n : Nat) : Int64 := if kS tp Tn n = 1 then wc 37 (kW tp Tn n) else if kS tp Tn n = 2 then Int64.ofNat (kV tp Tn n) else Int64.ofNat (kC tp Tn n)
def TE (tp : Nat → Int32) (Tn : Nat) (M : Mem) (i : Nat) : Prop := M.1 255 i = Int32.ofNat (kS tp Tn i) ∧ M.1 256 i = Int32.ofNat (tP tp Tn i) ∧ (kS tp Tn i ≠ 0 → kS tp Tn i ≠ 4 → M.2.1 257 i = kval tp Tn i)
def TT (tp : Nat → Int32) (Tn : Nat) (M : Mem) : Prop := ∀ i, vis tp Tn i → TE tp Tn M i
def TB (tp : Nat → Int32) (Tn n : Nat) (M : Mem) : Prop := TT tp Tn M ∧ vis tp Tn n ∧ M.1 253 7 = Int32.ofNat n ∧ M.1 253 8 = 0
def CW (c j : Nat) : Prop := (c = 253 ∧ (j = 2 ∨ j = 3 ∨ j = 7 ∨ j = 8)) ∨ c = 255 ∨ c = 256 ∨ c = 257
theorem sp201 {c : Nat} (hc : c < 1000) : evD (d + 1) 201 [vI (Int32.ofNat c)] M = some (some (vI (b2 (isLt c))), M) := by
  rw [e201, show (97 : Int32) = Int32.ofNat 97 from rfl, show (122 : Int32) = Int32.ofNat 122 from rfl, i_lt (by omega) (by omega), i_lt (by omega) (by omega)]
  unfold isLt
  by_cases h1 : c < 97
  · rw [ic_t h1]; simp [show ¬ 97 ≤ c by omega, b2]
  · rw [ic_f h1]
    by_cases h2 : 122 < c
    · rw [ic_t h2]; simp [show ¬ c ≤ 122 by omega, b2]
    · rw [ic_f h2]; simp [show c ≤ 122 by omega, show 97 ≤ c by omega, b2]
theorem sp203 {c : Nat} (hc : c < 1000) : evD (d + 1) 203 [vI (Int32.ofNat c)] M = some (some (vI (b2 (isDg c))), M) := by
  rw [e203, show (48 : Int32) = Int32.ofNat 48 from rfl, show (57 : Int32) = Int32.ofNat 57 from rfl, i_lt (by omega) (by omega), i_lt (by omega) (by omega)]
  unfold isDg
  by_cases h1 : c < 48
  · rw [ic_t h1]; simp [show ¬ 48 ≤ c by omega, b2]
  · rw [ic_f h1]
    by_cases h2 : 57 < c
    · rw [ic_t h2]; simp [show ¬ c ≤ 57 by omega, b2]
    · rw [ic_f h2]; simp [show c ≤ 57 by omega, show 48 ≤ c by omega, b2]
theorem sp204 {c : Nat} (hc : c ≤ 126) : evD (d + 1) 204 [vI (Int32.ofNat c)] M = some (some (vI (b2 (isSg c))), M) := by
  have e : ∀ k : Nat, k < 1000 → (Int32.ofNat c = Int32.ofNat k) = (c = k) := fun k hk => i_eq (by omega) (by omega)
  rw [e204, show (40 : Int32) = Int32.ofNat 40 from rfl, show (41 : Int32) = Int32.ofNat 41 from rfl, show (59 : Int32) = Int32.ofNat 59 from rfl, show (61 : Int32) = Int32.ofNat 61 from rfl, show (60 : Int32) = Int32.ofNat 60 from rfl, show (43 : Int32) = Int32.ofNat 43 from rfl, show (45 : Int32) = Int32.ofNat 45 from rfl, show (42 : Int32) = Int32.ofNat 42 from rfl]
  rw [e 40 (by omega), e 41 (by omega), e 59 (by omega), e 61 (by omega), e 60 (by omega), e 43 (by omega), e 45 (by omega), e 42 (by omega)]
  unfold isSg
  by_cases h1 : c = 40
  · rw [ic_t h1]; simp [h1, b2]
  rw [ic_f h1]
  by_cases h2 : c = 41
  · rw [ic_t h2]; simp [h2, b2]
  rw [ic_f h2]
  by_cases h3 : c = 59
  · rw [ic_t h3]; simp [h3, b2]
  rw [ic_f h3]
  by_cases h4 : c = 61
  · rw [ic_t h4]; simp [h4, b2]
  rw [ic_f h4]
  by_cases h5 : c = 60
  · rw [ic_t h5]; simp [h5, b2]
  rw [ic_f h5]
  by_cases h6 : c = 43
  · rw [ic_t h6]; simp [h6, b2]
  rw [ic_f h6]
  by_cases h7 : c = 45
  · rw [ic_t h7]; simp [h7, b2]
  rw [ic_f h7]
  by_cases h8 : c = 42
  · rw [ic_t h8]; simp [h8, b2]
  · rw [ic_f h8]; simp [h1, h2, h3, h4, h5, h6, h7, h8, b2]
theorem sp202 {c : Nat} (h : isLt c = true) : evD (d + 2) 202 [vI (Int32.ofNat c)] M = some (some (vI (Int32.ofNat (c - 96))), M) := by
  have hc := isLt_iff.mp h
  rw [e202, sp201 (by omega), cIn_s, h, ic_f (by decide), show (96 : Int32) = Int32.ofNat 96 from rfl, i_sub (by omega)]
/-- letters and digits, as many as count -/
theorem wcm {p k : Nat} (h : p ≤ k) (h8 : k - p < 8) {l : Nat} (hl : l = ch tp k - 96) : (37 * wc 37 (lts tp p (min k (p + 8)))) + Int64.ofNat l = wc 37 (lts tp p (min (k + 1) (p + 8))) := by
  rw [show min k (p + 8) = k by omega, show min (k + 1) (p + 8) = k + 1 by omega, lts_s h, wc_s, Int64.mul_comm, hl]
theorem wcm' {p k : Nat} (h8 : ¬ k - p < 8) : lts tp p (min k (p + 8)) = lts tp p (min (k + 1) (p + 8)) := by
  rw [show min k (p + 8) = p + 8 by omega, show min (k + 1) (p + 8) = p + 8 by omega]
theorem dgm {p k : Nat} (h : p ≤ k) (h4 : k - p < 4) (hd : 48 ≤ ch tp k) : ((10 * Int64.ofNat (dgs tp p (min k (p + 4)))) + Int64.ofNat (ch tp k)) - 48 = Int64.ofNat (dgs tp p (min (k + 1) (p + 4))) := by
  rw [show min k (p + 4) = k by omega, show min (k + 1) (p + 4) = k + 1 by omega, dgs_s h]
  have e1 : (10 : Int64) * Int64.ofNat (dgs tp p k) = Int64.ofNat (10 * dgs tp p k) := by rw [Int64.ofNat_mul]; rfl
  have e2 : Int64.ofNat (dgs tp p k * 10 + (ch tp k - 48)) + 48 = Int64.ofNat (10 * dgs tp p k) + Int64.ofNat (ch tp k) := by
    rw [show (48 : Int64) = Int64.ofNat 48 from rfl, ← Int64.ofNat_add, ← Int64.ofNat_add]
    congr 1; omega
  rw [e1, ← e2, Int64.add_sub_cancel]
end RTOK
