/-! THE INVARIANT: class and reference over the same things -/
section INV2
variable {Y N : YT} {t u L Tn : Nat} {P K : Nat → YT} {mk : Int32} {ln : Nat → Nat → Int32} {tp : Nat → Int32} {M M' : Mem} {W : Nat → Nat → Prop}
/-- undo, marks, lines, tape: as the class has them -/
def UC (u : Nat) (P : Nat → YT) (M : Mem) : Prop := M.1 0 8 = Int32.ofNat u ∧ (∀ i, i < 16 → ∃ j, j < 16 ∧ M.2.2 67 i = 113 + 7 * j) ∧ (∀ i i', i < 16 → i' < 16 → i ≠ i' → M.2.2 67 i ≠ M.2.2 67 i') ∧ ∀ i, i < u → SC (P i) (M.2.2 67 i) M
def KC (mk : Int32) (K : Nat → YT) (M : Mem) : Prop := M.1 0 10 = mk ∧ (∀ m, m < 4 → M.2.2 68 m = 225 + 7 * m) ∧ ∀ m, m < 4 → bt mk m = true → SC (K m) (225 + 7 * m) M
def LC (L : Nat) (ln : Nat → Nat → Int32) (M : Mem) : Prop := M.1 52 3 = Int32.ofNat L ∧ ∀ i, i < L → M.1 53 i = ln 0 i ∧ M.1 54 i = ln 1 i ∧ M.1 55 i = ln 2 i
def TC (Tn : Nat) (tp : Nat → Int32) (M : Mem) : Prop := M.1 1 0 = Int32.ofNat Tn ∧ ∀ i, i < Tn → M.1 2 i = tp i
/-- as the reference has them -/
def UR (Y : YT) (u : Nat) (P : Nat → YT) (M : Mem) : Prop := M.1 253 26 = Int32.ofNat u ∧ ∀ i, i < u → SR Y (P i) (49 * (5 + i)) M
def KR (Y : YT) (mk : Int32) (K : Nat → YT) (M : Mem) : Prop := ∀ m, m < 4 → M.1 270 m = b2 (bt mk m) ∧ (bt mk m = true → SR Y (K m) (49 * (1 + m)) M)
def LRr (L : Nat) (ln : Nat → Nat → Int32) (M : Mem) : Prop := M.1 266 0 = Int32.ofNat L ∧ ∀ i, i < L → M.1 266 (1 + 3 * i) = ln 0 i ∧ (ln 0 i ≠ 4 → M.1 266 (2 + 3 * i) = ln 1 i) ∧ (ln 0 i = 0 ∨ ln 0 i = 1 → M.1 266 (3 + 3 * i) = ln 2 i)
def TRr (Tn : Nat) (tp : Nat → Int32) (M : Mem) : Prop := M.1 253 2 = Int32.ofNat Tn ∧ ∀ i, i < Tn → M.1 254 i = tp i
/-- the words that are told apart, and words at all: letters from 1 to 26, eight at most -/
def wc (b : Int64) (w : List Nat) : Int64 := w.foldl (fun v l => v * b + Int64.ofNat l) 0
def isW (w : List Nat) : Prop := w.length ≤ 8 ∧ ∀ l ∈ w, 1 ≤ l ∧ l ≤ 26
/-- names: nm 0 spots, nm 1 carvers, nm 2 acts -/
def NC (Y : YT) (nm : Nat → Nat → List Nat) (M : Mem) : Prop := (∀ i, i < nB Y → M.2.1 5 i = wc 32 (nm 0 i)) ∧ (∀ i, i < nC Y → M.2.1 7 i = wc 32 (nm 1 i)) ∧ ∀ i, i < nA Y → M.2.1 9 i = wc 32 (nm 2 i)
def nsz (Y : YT) (q : Nat) : Nat := if q = 0 then nB Y else if q = 1 then nC Y else nA Y
def NRr (Y : YT) (nm : Nat → Nat → List Nat) (M : Mem) : Prop := ∃ kn, kn ≤ 18 ∧ M.1 253 18 = Int32.ofNat kn ∧ (∀ k, k < kn → ∃ q i, q < 3 ∧ i < nsz Y q ∧ M.1 264 k = Int32.ofNat (20 * q + i) ∧ M.2.1 262 k = wc 37 (nm q i)) ∧ ∀ q i, q < 3 → i < nsz Y q → ∃ k, k < kn ∧ M.1 264 k = Int32.ofNat (20 * q + i) ∧ M.2.1 262 k = wc 37 (nm q i)
def wtab : List Int64 := [984886, 36015805, 210848107, 36179019, 1500, 310968, 6040639, 43890888, 99, 6232399, 988049129, 671258, 24634545, 210848108, 4011517, 5698597, 835661, 38267776, 26704030, 85082, 729881, 30596128, 583488913, 1024359, 20983, 19741, 1891, 573, 1597715471, 204658, 1014885, 53840, 223670]
def WT33 (M : Mem) : Prop := ∀ i, i < 33 → M.2.1 258 i = wtab.getD i 0
def CI (Y N : YT) (u : Nat) (P : Nat → YT) (mk : Int32) (K : Nat → YT) (L : Nat) (ln : Nat → Nat → Int32) (Tn : Nat) (tp : Nat → Int32) (nm : Nat → Nat → List Nat) (M : Mem) : Prop := YC Y M ∧ SC N 60 M ∧ UC u P M ∧ KC mk K M ∧ LC L ln M ∧ TC Tn tp M ∧ NC Y nm M
def RI (Y N : YT) (u : Nat) (P : Nat → YT) (mk : Int32) (K : Nat → YT) (L : Nat) (ln : Nat → Nat → Int32) (Tn : Nat) (tp : Nat → Int32) (nm : Nat → Nat → List Nat) (M : Mem) : Prop := YR Y M ∧ SR Y N 0 M ∧ UR Y u P M ∧ KR Y mk K M ∧ LRr L ln M ∧ TRr Tn tp M ∧ NRr Y nm M ∧ WT33 M
/-- a line that can be told -/
def lnok (Y : YT) (ln : Nat → Nat → Int32) (i : Nat) : Prop := (ln 0 i = 0 ∧ ∃ a s, a < nA Y ∧ s < nB Y ∧ ln 1 i = Int32.ofNat a ∧ ln 2 i = Int32.ofNat s) ∨ (ln 0 i = 1 ∧ ∃ c a, c < nC Y ∧ a < nA Y ∧ ln 1 i = Int32.ofNat c ∧ ln 2 i = Int32.ofNat a) ∨ ((ln 0 i = 2 ∨ ln 0 i = 3) ∧ ∃ a, a < nA Y ∧ ln 1 i = Int32.ofNat a) ∨ ln 0 i = 4
def sgn (x : Int32) : Prop := x = 10 ∨ rg x 32 126
def PI (t : Nat) (Y N : YT) (u : Nat) (P : Nat → YT) (mk : Int32) (K : Nat → YT) (L : Nat) (ln : Nat → Nat → Int32) (Tn : Nat) (tp : Nat → Int32) (nm : Nat → Nat → List Nat) : Prop := (YN Y ∧ YL Y ∧ YG Y) ∧ (SI Y t N ∧ t < 10000) ∧ (u ≤ 16 ∧ ∀ i, i < u → SI Y t (P i)) ∧ (∀ m, m < 4 → bt mk m = true → SI Y t (K m)) ∧ (L ≤ 40 ∧ ∀ i, i < L → lnok Y ln i) ∧ (Tn ≤ 1000 ∧ ∀ i, i < Tn → sgn (tp i)) ∧ ((∀ q i, q < 3 → i < nsz Y q → isW (nm q i)) ∧ ∀ q i q' i', q < 3 → i < nsz Y q → q' < 3 → i' < nsz Y q' → nm q i = nm q' i' → q = q' ∧ i = i')
def CCo (c j : Nat) : Prop := (c = 0 ∧ (j = 8 ∨ j = 10)) ∨ (c = 1 ∧ j = 0) ∨ c = 2 ∨ (3 ≤ c ∧ c ≤ 24 ∧ c ≠ 22) ∨ (52 ≤ c ∧ c ≤ 55) ∨ (60 ≤ c ∧ c ≤ 68) ∨ (113 ≤ c ∧ c ≤ 252)
def RCo (c j : Nat) : Prop := (c = 253 ∧ (j = 2 ∨ j = 18 ∨ j = 26)) ∨ c = 254 ∨ c = 258 ∨ (c = 259 ∧ j < 110) ∨ (c = 260 ∧ j < 1100) ∨ (c = 261 ∧ j < 1100) ∨ c = 262 ∨ c = 264 ∨ (c = 266 ∧ j < 125) ∨ (c = 269 ∧ j < 1029) ∨ c = 270
theorem SC.sl {S : YT} {k : Nat} (h : SC S k M) (hf : Fr W M M') (hw : ∀ c j, k ≤ c → c ≤ k + 6 → ¬ W c j) : SC S k M' := h.fr hf hw
theorem CI.fr {nm : Nat → Nat → List Nat} (h : CI Y N u P mk K L ln Tn tp nm M) (hu : u ≤ 16) (hL : L ≤ 40) (hf : Fr W M M') (hw : ∀ c j, CCo c j → ¬ W c j) : CI Y N u P mk K L ln Tn tp nm M' := by
  obtain ⟨h1, h2, ⟨u1, u2, u3, u4⟩, ⟨k1, k2, k3⟩, ⟨l1, l2⟩, ⟨t1, t2⟩, n1, n2, n3⟩ := h
  have hi : ∀ c j, CCo c j → M'.1 c j = M.1 c j := fun c j h => hf.i (hw c j h)
  have hj : ∀ c j, CCo c j → M'.2.1 c j = M.2.1 c j := fun c j h => hf.j (hw c j h)
  have hr : ∀ c j, CCo c j → M'.2.2 c j = M.2.2 c j := fun c j h => hf.r (hw c j h)
  refine ⟨h1.fr hf (fun c j hc => hw c j (by unfold yc CCo at *; omega)), h2.fr hf (fun c j a1 a2 => hw c j (by unfold CCo; omega)), ⟨?_, fun i hi' => ?_, fun i i' a1 a2 a3 => ?_, fun i hi' => ?_⟩, ⟨?_, fun m hm => ?_, fun m hm hb => ?_⟩, ⟨?_, fun i hi' => ?_⟩, ⟨?_, fun i hi' => ?_⟩, fun i hi' => ?_, fun i hi' => ?_, fun i hi' => ?_⟩
  · rw [hi 0 8 (by unfold CCo; omega)]; exact u1
  · rw [hr 67 i (by unfold CCo; omega)]; exact u2 i hi'
  · rw [hr 67 i (by unfold CCo; omega), hr 67 i' (by unfold CCo; omega)]; exact u3 i i' a1 a2 a3
  · rw [hr 67 i (by unfold CCo; omega)]
    obtain ⟨j, hj', e⟩ := u2 i (by omega)
    exact (u4 i hi').fr hf (fun c j' a1 a2 => hw c j' (by unfold CCo; omega))
  · rw [hi 0 10 (by unfold CCo; omega)]; exact k1
  · rw [hr 68 m (by unfold CCo; omega)]; exact k2 m hm
  · exact (k3 m hm hb).fr hf (fun c j' a1 a2 => hw c j' (by unfold CCo; omega))
  · rw [hi 52 3 (by unfold CCo; omega)]; exact l1
  · rw [hi 53 i (by unfold CCo; omega), hi 54 i (by unfold CCo; omega), hi 55 i (by unfold CCo; omega)]; exact l2 i hi'
  · rw [hi 1 0 (by unfold CCo; omega)]; exact t1
  · rw [hi 2 i (by unfold CCo; omega)]; exact t2 i hi'
  · rw [hj 5 i (by unfold CCo; omega)]; exact n1 i hi'
  · rw [hj 7 i (by unfold CCo; omega)]; exact n2 i hi'
  · rw [hj 9 i (by unfold CCo; omega)]; exact n3 i hi'
theorem YR.fr' (h : YR Y M) (hN : YN Y) (hf : Fr W M M') (hw : ∀ c j, RCo c j → ¬ W c j) : YR Y M' := by
  have hA := hN.A6
  have hB := hN.B6
  have hC := hN.C6
  have k0 : ∀ j, j < 110 → M'.1 259 j = M.1 259 j := fun j hj => hf.i (hw 259 j (by unfold RCo; omega))
  have k1 : ∀ j, j < 1100 → M'.1 260 j = M.1 260 j := fun j hj => hf.i (hw 260 j (by unfold RCo; omega))
  have k2 : ∀ j, j < 1100 → M'.1 261 j = M.1 261 j := fun j hj => hf.i (hw 261 j (by unfold RCo; omega))
  obtain ⟨⟨⟨a1, a2, a3, a4, a5⟩, b, c, d, e⟩, ⟨w, w1, w2, w3, w4⟩, l1, l2⟩ := h
  have lr : ∀ z g df code n, z < 110 → LR z g df code n M → LR z g df code n M' := by
    intro z g df code n hz hl
    rcases hl with ⟨q1, q2⟩ | ⟨f, q1, q2, q3, q4⟩
    · exact .inl ⟨by rw [k0 z hz]; exact q1, q2⟩
    · refine .inr ⟨f, by rw [k0 z hz]; exact q1, q2, by rw [k1 _ (by omega)]; exact q3, fun i hi => ?_⟩
      rw [k1 _ (by omega), k2 _ (by omega)]; exact q4 i hi
  refine ⟨⟨⟨?_, ?_, ?_, ?_, ?_⟩, fun s hs => ?_, fun x hx => ?_, fun a ha => ?_, fun a x ha hx => ?_⟩, ⟨w, w1, w2, ?_, fun n => ?_⟩, lr _ _ _ _ _ (by omega) l1, lr _ _ _ _ _ (by omega) l2⟩
  · rw [k0 0 (by omega)]; exact a1
  · rw [k0 1 (by omega)]; exact a2
  · rw [k0 2 (by omega)]; exact a3
  · rw [k0 3 (by omega)]; exact a4
  · rw [k0 5 (by omega)]; exact a5
  · rw [k0 _ (by omega)]; exact b s hs
  · rw [k0 _ (by omega), k0 _ (by omega)]; exact c x hx
  · rw [k0 _ (by omega), k0 _ (by omega), k0 _ (by omega), k0 _ (by omega), k0 _ (by omega)]; exact d a ha
  · rw [k0 _ (by omega)]; exact e a x ha hx
  · rw [k0 4 (by omega)]; exact w3
  · have := Nat.mod_lt n (show 0 < w by omega)
    rw [k0 _ (by omega)]; exact w4 n
theorem RI.fr {nm : Nat → Nat → List Nat} (h : RI Y N u P mk K L ln Tn tp nm M) (hN : YN Y) (hu : u ≤ 16) (hL : L ≤ 40) (hf : Fr W M M') (hw : ∀ c j, RCo c j → ¬ W c j) : RI Y N u P mk K L ln Tn tp nm M' := by
  have hA := hN.A6
  obtain ⟨h1, h2, ⟨u1, u2⟩, k, ⟨l1, l2⟩, ⟨t1, t2⟩, ⟨kn, n0, n1, n2, n3⟩, w⟩ := h
  have hi : ∀ c j, RCo c j → M'.1 c j = M.1 c j := fun c j h => hf.i (hw c j h)
  have hj : ∀ c j, RCo c j → M'.2.1 c j = M.2.1 c j := fun c j h => hf.j (hw c j h)
  have sr : ∀ S b, b + 49 ≤ 1029 → SR Y S b M → SR Y S b M' := fun S b hb hs => hs.fr hA hf (fun j a1 a2 => hw 269 j (by unfold RCo; omega))
  refine ⟨h1.fr' hN hf hw, sr N 0 (by omega) h2, ⟨?_, fun i hi' => sr _ _ (by omega) (u2 i hi')⟩, fun m hm => ⟨?_, fun hb => sr _ _ (by omega) ((k m hm).2 hb)⟩, ⟨?_, fun i hi' => ?_⟩, ⟨?_, fun i hi' => ?_⟩, ⟨kn, n0, ?_, fun k' hk => ?_, fun q i hq hi' => ?_⟩, fun i hi' => ?_⟩
  · rw [hi 253 26 (by unfold RCo; omega)]; exact u1
  · rw [hi 270 m (by unfold RCo; omega)]; exact (k m hm).1
  · rw [hi 266 0 (by unfold RCo; omega)]; exact l1
  · rw [hi 266 _ (by unfold RCo; omega), hi 266 _ (by unfold RCo; omega), hi 266 _ (by unfold RCo; omega)]; exact l2 i hi'
  · rw [hi 253 2 (by unfold RCo; omega)]; exact t1
  · rw [hi 254 i (by unfold RCo; omega)]; exact t2 i hi'
  · rw [hi 253 18 (by unfold RCo; omega)]; exact n1
  · rw [hi 264 k' (by unfold RCo; omega), hj 262 k' (by unfold RCo; omega)]; exact n2 k' hk
  · obtain ⟨k', a1, a2, a3⟩ := n3 q i hq hi'
    exact ⟨k', a1, by rw [hi 264 k' (by unfold RCo; omega)]; exact a2, by rw [hj 262 k' (by unfold RCo; omega)]; exact a3⟩
  · rw [hj 258 i (by unfold RCo; omega)]; exact w i hi'
/-- between two calls, at most t nights old -/
def Inv (t : Nat) (M : Mem) : Prop := ∃ (Y N : YT) (u : Nat) (P : Nat → YT) (mk : Int32) (K : Nat → YT) (L : Nat) (ln : Nat → Nat → Int32) (Tn : Nat) (tp : Nat → Int32) (nm : Nat → Nat → List Nat), PI t Y N u P mk K L ln Tn tp nm ∧ CI Y N u P mk K L ln Tn tp nm M ∧ RI Y N u P mk K L ln Tn tp nm M
/-- a pair of calls: they answer alike, and the invariant stands -/
def Two (t t' x y : Nat) (ax ay : List AV) : Prop := ∀ M, Inv t M → Hm (evD 60 x ax M) (fun r M1 => ∃ v, r = some (vI v) ∧ Hm (evD 60 y ay M1) (fun r' M2 => r' = some (vI v) ∧ Inv t' M2))
theorem PI.le {nm : Nat → Nat → List Nat} {t' : Nat} (h : PI t Y N u P mk K L ln Tn tp nm) (ht : t ≤ t') (ht' : t' < 10000) : PI t' Y N u P mk K L ln Tn tp nm :=
  ⟨h.1, ⟨h.2.1.1.le ht, ht'⟩, ⟨h.2.2.1.1, fun i hi => (h.2.2.1.2 i hi).le ht⟩, fun m hm hb => (h.2.2.2.1 m hm hb).le ht, h.2.2.2.2⟩
theorem Inv.le {t' : Nat} (h : Inv t M) (ht : t ≤ t') (ht' : t' < 10000) : Inv t' M := by
  obtain ⟨Y, N, u, P, mk, K, L, ln, Tn, tp, nm, h1, h2, h3⟩ := h
  exact ⟨Y, N, u, P, mk, K, L, ln, Tn, tp, nm, h1.le ht ht', h2, h3⟩
theorem Two_ro {x y : Nat} {ax ay : List AV} (h : ∀ Y N, YN Y → YG Y → SI Y t N → RO x y ax ay Y t N) : Two t t x y ax ay := by
  rintro M ⟨Y, N, u, P, mk, K, L, ln, Tn, tp, nm, hp, hc, hr⟩
  obtain ⟨v, h1, h2⟩ := h Y N hp.1.1 hp.1.2.2 hp.2.1.1
  have hA := hp.1.1.A6
  have mkY : ∀ M, CI Y N u P mk K L ln Tn tp nm M → RI Y N u P mk K L ln Tn tp nm M → IY Y M ∧ IN Y t N M := fun M c r => ⟨⟨c.1, hp.1.1, hp.1.2.1, hp.1.2.2, r.1⟩, ⟨c.2.1, r.2.1, hp.2.1.1, hp.2.1.2⟩⟩
  obtain ⟨a1, a2⟩ := mkY M hc hr
  refine Hm_mono (h1 20 M a1 a2) (fun r M1 hh => ⟨v, hh.1, ?_⟩)
  have c1 := hc.fr hp.2.2.1.1 hp.2.2.2.2.1.1 hh.2 (fun c j hcc => by unfold CCo ScW at *; omega)
  have r1 := hr.fr hp.1.1 hp.2.2.1.1 hp.2.2.2.2.1.1 hh.2 (fun c j hcc => by unfold RCo ScW at *; omega)
  obtain ⟨b1, b2'⟩ := mkY M1 c1 r1
  refine Hm_mono (h2 20 M1 b1 b2') (fun r' M2 hh2 => ⟨hh2.1, Y, N, u, P, mk, K, L, ln, Tn, tp, nm, hp, ?_, ?_⟩)
  · exact c1.fr hp.2.2.1.1 hp.2.2.2.2.1.1 hh2.2 (fun c j hcc => by unfold CCo ScW at *; omega)
  · exact r1.fr hp.1.1 hp.2.2.1.1 hp.2.2.2.2.1.1 hh2.2 (fun c j hcc => by unfold RCo ScW at *; omega)
end INV2
