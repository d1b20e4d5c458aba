/-! THE WORLD IN ITS MAKING: what is set and what is not -/
section NZ
variable {M M' : Mem} {Z Z0 Z1 Z' : Zs} {k n n' : Nat} {js : List Nat}
def Mz (n : Nat) (M : Mem) : Prop := ∀ k, n ≤ k → ∀ j, M.1 k j = 0 ∧ M.2.1 k j = 0
def PZ (k n : Nat) (Z Z' : Zs) : Prop := (∀ a b, a < k ∨ n ≤ a → Z' a b = Z a b) ∧ ∀ a, k ≤ a → a < n → ∀ b, Z' a b = false
def QZ (k : Nat) (js : List Nat) (n : Nat) (Z0 Z : Zs) : Prop := k < n ∧ (∀ a b, a < k ∨ n ≤ a → Z a b = Z0 a b) ∧ (∀ a, k < a → a < n → ∀ b, Z a b = false) ∧ ∀ b, Z k b = if b ∈ js then false else Z0 k b
theorem QZ.start : QZ k [] (k + 1) Z Z := ⟨by omega, fun _ _ _ => rfl, fun a h1 h2 => by omega, fun b => by simp⟩
theorem QZ.fz (h : QZ k js n Z0 Z) (fz : Fz k M Z0) (hm : Mz k M) : Fz n M Z := fun a ha b => ⟨(fz a (by have := h.1; omega) b).1, (fz a (by have := h.1; omega) b).2.1, by rw [h.2.1 a b (.inr ha)]; exact (fz a (by have := h.1; omega) b).2.2⟩
theorem rfK_arr {t m : Nat} (hW : WF[n]? = some (t, m, n)) (ht : ¬ t < 13 ∧ t ≠ 24) (b : Nat) : rfK n b = false := by
  unfold rfK
  rw [WF_t hW]
  simp [ht.1, ht.2]
theorem QZ.arr {t m : Nat} (h : QZ k js n Z0 Z) (fz : Fz k M Z0) (hW : WF[n]? = some (t, m, n)) (ht : ¬ t < 13 ∧ t ≠ 24) : QZ k js (n + 1) Z0 Z := by
  have h0 := h.1
  refine ⟨by omega, fun a b hab => h.2.1 a b (by omega), fun a h1 h2 b => ?_, h.2.2.2⟩
  by_cases y : a = n
  · subst y
    rw [h.2.1 a b (.inr (Nat.le_refl a)), (fz a (by omega) b).2.2]; exact rfK_arr hW ht b
  · exact h.2.2.1 a h1 (by omega) b
theorem QZ.put {j : Nat} (h : QZ k js n Z0 Z) (e : Z' = uZ Z k j) : QZ k (j :: js) n Z0 Z' := by
  subst e
  have h0 := h.1
  refine ⟨h0, fun a b hab => ?_, fun a h1 h2 b => ?_, fun b => ?_⟩
  · unfold uZ; rw [if_neg (by omega)]; exact h.2.1 a b hab
  · unfold uZ; rw [if_neg (by omega)]; exact h.2.2.1 a h1 h2 b
  · unfold uZ
    by_cases y : b = j
    · rw [if_pos ⟨rfl, y⟩, if_pos (by simp [y])]
    · rw [if_neg (fun z => y z.2), h.2.2.2 b]
      simp [y]
theorem QZ.get {j : Nat} (h : QZ k js n Z0 Z) (hj : j ∈ js) : Z k j = false := by rw [h.2.2.2 j, if_pos hj]
/-- something whole was made -/
theorem QZ.sub (h : QZ k js n Z0 Z) (hp : PZ n n' Z Z') (hn : n ≤ n') : QZ k js n' Z0 Z' := by
  have h0 := h.1
  refine ⟨by omega, fun a b hab => ?_, fun a h1 h2 b => ?_, fun b => ?_⟩
  · rw [hp.1 a b (by omega)]; exact h.2.1 a b (by omega)
  · by_cases y : a < n
    · rw [hp.1 a b (.inl y)]; exact h.2.2.1 a h1 y b
    · exact hp.2 a (by omega) h2 b
  · rw [hp.1 k b (.inl h0)]; exact h.2.2.2 b
def rsl : Nat → List Nat
  | 0 => [1, 2, 3, 4, 5, 6]
  | 1 => [1, 3]
  | 2 => [0, 1, 4]
  | 3 => [0, 1, 2, 3, 4, 6, 8, 9, 10, 11, 12, 13, 14]
  | 4 => [1]
  | 5 => [0, 1, 2]
  | 6 => [1, 2, 3, 4, 5, 6, 10]
  | 7 => [4]
  | 8 => [5, 6]
  | 9 => [0, 1, 2, 3, 4, 5, 6, 7, 8, 9, 10, 11, 13, 16, 17]
  | 10 => [0, 1, 2]
  | 11 => [0, 1, 2, 3, 4, 5, 6, 7, 9, 11, 12, 13]
  | 12 => [1, 4, 5, 6, 9, 10, 11, 12, 14, 15, 16, 17, 22, 23, 24, 25, 27, 28, 29, 30, 33, 34, 35, 38]
  | _ => []
theorem fk_rsl : ∀ t b, fk t b = 2 ∨ fk t b = 3 → b ∈ rsl t := by
  intro t b h
  unfold fk at h
  split at h <;> first | decide | omega
theorem QZ.fin {t m : Nat} (h : QZ k js n Z0 Z) (fz : Fz k M Z0) (hW : WF[k]? = some (t, m, k)) (hr : t ≠ 24 ∧ ∀ b ∈ rsl t, b ∈ js) : PZ k n Z0 Z := by
  refine ⟨h.2.1, fun a h1 h2 b => ?_⟩
  by_cases y : a = k
  · subst y
    rw [h.2.2.2 b]
    by_cases z : b ∈ js
    · rw [if_pos z]
    · rw [if_neg z, (fz a (Nat.le_refl a) b).2.2]
      unfold rfK
      rw [WF_t hW]
      have : ¬ (fk t b = 2 ∨ fk t b = 3) := fun w => z (hr.2 b (fk_rsl t b w))
      have h2 : ¬ fk t b = 2 := fun w => this (.inl w)
      have h3 : ¬ fk t b = 3 := fun w => this (.inr w)
      simp [hr.1, h2, h3]
  · exact h.2.2.1 a (by omega) h2 b
end NZ
