/-! what the class takes: words, signs, numbers, names -/
section CTOK4
variable {tp : Nat → Int32} {Tn d n : Nat} {M M' : Mem}
/-- a fault was told -/
def FC (tp : Nat → Int32) (Tn e n : Nat) (M : Mem) : Prop := M.1 1 1 = Int32.ofNat (flt tp Tn e n)
theorem z1 : ((0 : Int32) &&& 1 = 0) = True := by decide
theorem sp45c {e : Nat} {E : Int32} (hE : E = Int32.ofNat e) (h : TA tp Tn n M) : Hm (cIn (evD (d + 1) 45 [vR 7 0 1, vI E] M) fun v5 M4 => ic (v5 &&& 1 = v5) (some (some (vI v5), M4)) none) (fun r M' => r = some (vI 0) ∧ FC tp Tn e n M' ∧ Fr TV M M') := by
  subst hE
  rw [sp45 h, cIn_s, ic_t (by decide)]
  exact Hm_some ⟨rfl, sI_eq, Fr.rf.sI (by unfold TV; omega)⟩
theorem sp45b {e : Nat} {E : Int32} (hE : E = Int32.ofNat e) (h : TA tp Tn n M) : Hm (cIn (evD (d + 1) 45 [vR 7 0 1, vI E] M) fun v2 M1 => ic (v2 = 0) (some (some (vI 0), M1)) (some (some (vI 1), M1))) (fun r M' => r = some (vI 0) ∧ FC tp Tn e n M' ∧ Fr TV M M') := by
  subst hE
  rw [sp45 h, cIn_s, ic_t rfl]
  exact Hm_some ⟨rfl, sI_eq, Fr.rf.sI (by unfold TV; omega)⟩
theorem sp52y {is : Nat} (hs : SG tp Tn) (hi : is < 35) (h0 : is ≠ 0) (h2 : is ≠ 2) (h : TA tp Tn n M) (hc : isWN tp Tn n (stW is) = true) : Hm (evD (d + 8) 52 [vR 7 0 1, vR 40 is (SB + is)] M) (fun r M' => r = some (vI 1) ∧ TA tp Tn (n + 1) M' ∧ Fr TV M M') := by
  rw [e52, sp35 hs hi h0 h2 h, cIn_s, hc, ic_f (by decide)]
  refine Hm_cVv (sp11n hs h) (fun M1 h1 => Hm_some ⟨rfl, h1⟩)
theorem sp52n {is : Nat} (hs : SG tp Tn) (hi : is < 35) (h0 : is ≠ 0) (h2 : is ≠ 2) (h : TA tp Tn n M) (hc : isWN tp Tn n (stW is) = false) : Hm (evD (d + 8) 52 [vR 7 0 1, vR 40 is (SB + is)] M) (fun r M' => r = some (vI 0) ∧ FC tp Tn 1 n M' ∧ Fr TV M M') := by
  rw [e52, sp35 hs hi h0 h2 h, cIn_s, hc, ic_t (by decide)]
  exact sp45c rfl h
theorem sp54y {c : Nat} {E : Int32} (hE : E = Int32.ofNat c) (hs : SG tp Tn) (hc : c < 1000) (h : TA tp Tn n M) (hy : isSN tp Tn n c = true) : Hm (evD (d + 8) 54 [vR 7 0 1, vI E] M) (fun r M' => r = some (vI 1) ∧ TA tp Tn (n + 1) M' ∧ Fr TV M M') := by
  subst hE
  rw [e54, sp55 hs hc h, cIn_s, hy, ic_f (by decide)]
  refine Hm_cVv (sp11n hs h) (fun M1 h1 => Hm_some ⟨rfl, h1⟩)
theorem sp54n {c : Nat} {E : Int32} (hE : E = Int32.ofNat c) (hs : SG tp Tn) (hc : c < 1000) (h : TA tp Tn n M) (hy : isSN tp Tn n c = false) : Hm (evD (d + 8) 54 [vR 7 0 1, vI E] M) (fun r M' => r = some (vI 0) ∧ FC tp Tn 1 n M' ∧ Fr TV M M') := by
  subst hE
  rw [e54, sp55 hs hc h, cIn_s, hy, ic_t (by decide)]
  exact sp45c rfl h
theorem kV_lt (h : kS tp Tn n = 2) : kV tp Tn n < 10000 := nbv_lt h
theorem sp53y {lo hi : Nat} (hh : hi < 10000) (h : TA tp Tn n M) (h2 : kS tp Tn n = 2) (h3 : lo ≤ kV tp Tn n) (h4 : kV tp Tn n ≤ hi) : evD (d + 2) 53 [vR 7 0 1, vI (Int32.ofNat lo), vI (Int32.ofNat hi)] M = some (some (vI 1), M) := by
  have hv := kV_lt h2
  have e2 : M.1 1 2 = Int32.ofNat (kV tp Tn n) := h.2.2.2.2.2 h2
  rw [e53, h.k.2.1, ic_t h2, e2, i_lt (by omega) (by omega), ic_f (by omega), i_lt (by omega) (by omega), ic_f (by omega)]
theorem sp53n {lo hi : Nat} (h : TA tp Tn n M) (h2 : kS tp Tn n ≠ 2) : Hm (evD (d + 2) 53 [vR 7 0 1, vI (Int32.ofNat lo), vI (Int32.ofNat hi)] M) (fun r M' => r = some (vI 0) ∧ FC tp Tn 1 n M' ∧ Fr TV M M') := by
  rw [e53, h.k.2.1, ic_f h2]
  exact sp45c rfl h
theorem sp53o {lo hi : Nat} (hh : hi < 10000) (hl : lo < 10000) (h : TA tp Tn n M) (h2 : kS tp Tn n = 2) (h3 : ¬ (lo ≤ kV tp Tn n ∧ kV tp Tn n ≤ hi)) : Hm (evD (d + 2) 53 [vR 7 0 1, vI (Int32.ofNat lo), vI (Int32.ofNat hi)] M) (fun r M' => r = some (vI 0) ∧ FC tp Tn 4 n M' ∧ Fr TV M M') := by
  have hv := kV_lt h2
  have e2 : M.1 1 2 = Int32.ofNat (kV tp Tn n) := h.2.2.2.2.2 h2
  rw [e53, h.k.2.1, ic_t h2, e2, i_lt (by omega) (by omega)]
  by_cases c1 : kV tp Tn n < lo
  · rw [ic_t c1]; exact sp45b rfl h
  · rw [ic_f c1, i_lt (by omega) (by omega), ic_t (by omega)]; exact sp45b rfl h
/-- a number as told -/
def numO (tp : Nat → Int32) (Tn n lo hi : Nat) : Nat := if kS tp Tn n ≠ 2 then 1 else if lo ≤ kV tp Tn n ∧ kV tp Tn n ≤ hi then 0 else 4
theorem sp53 {lo hi : Nat} (hh : hi < 10000) (hl : lo < 10000) (h : TA tp Tn n M) : Hm (evD (d + 2) 53 [vR 7 0 1, vI (Int32.ofNat lo), vI (Int32.ofNat hi)] M) (fun r M' => if numO tp Tn n lo hi = 0 then r = some (vI 1) ∧ M' = M else r = some (vI 0) ∧ FC tp Tn (numO tp Tn n lo hi) n M' ∧ Fr TV M M') := by
  unfold numO
  by_cases h2 : kS tp Tn n = 2
  · rw [if_neg (show ¬ kS tp Tn n ≠ 2 by omega)]
    by_cases h3 : lo ≤ kV tp Tn n ∧ kV tp Tn n ≤ hi
    · rw [if_pos h3]
      exact Hm_eq (sp53y hh h h2 h3.1 h3.2) (by rw [if_pos rfl]; exact ⟨rfl, rfl⟩)
    · rw [if_neg h3]
      exact Hm_mono (sp53o hh hl h h2 h3) (fun r M' z => by rw [if_neg (by omega)]; exact z)
  · rw [if_pos (show kS tp Tn n ≠ 2 by omega)]
    exact Hm_mono (sp53n h h2) (fun r M' z => by rw [if_neg (by omega)]; exact z)
/-- a name of a roll -/
def RL (kR m : Nat) (f : Nat → List Nat) (M : Mem) : Prop := M.1 kR 0 = Int32.ofNat m ∧ m ≤ 6 ∧ ∀ i, i < m → M.2.1 (kR + 1) i = wc 32 (f i) ∧ isW (f i)
/-- the first i from j on where f is w, of m: m if none -/
def fnd (f : Nat → List Nat) (w : List Nat) : Nat → Nat
  | 0 => 0
  | m + 1 => if fnd f w m < m then fnd f w m else if f m = w then m else m + 1
theorem fnd_le {f : Nat → List Nat} {w : List Nat} : ∀ m, fnd f w m ≤ m ∧ (∀ i, i < fnd f w m → i < m → f i ≠ w) ∧ (fnd f w m < m → f (fnd f w m) = w)
  | 0 => ⟨Nat.le_refl 0, fun i hi => by omega, fun h => by omega⟩
  | m + 1 => by
    obtain ⟨h1, h2, h3⟩ := fnd_le (f := f) (w := w) m
    have e : fnd f w (m + 1) = if fnd f w m < m then fnd f w m else if f m = w then m else m + 1 := rfl
    rw [e]
    by_cases c1 : fnd f w m < m
    · rw [if_pos c1]
      exact ⟨by omega, fun i hi hm => h2 i hi (by omega), fun _ => h3 c1⟩
    · rw [if_neg c1]
      by_cases c2 : f m = w
      · rw [if_pos c2]; exact ⟨by omega, fun i hi hm => h2 i (by omega) hi, fun _ => c2⟩
      · rw [if_neg c2]
        refine ⟨by omega, fun i hi hm => ?_, fun h => by omega⟩
        by_cases y : i = m
        · subst y; exact c2
        · exact h2 i (by omega) (by omega)
theorem fnd_eq {f : Nat → List Nat} {w : List Nat} {m i : Nat} (hi : i ≤ m) (h1 : ∀ j, j < i → f j ≠ w) (h2 : i < m → f i = w) : fnd f w m = i := by
  obtain ⟨a1, a2, a3⟩ := fnd_le (f := f) (w := w) m
  rcases Nat.lt_trichotomy (fnd f w m) i with h | h | h
  · exact absurd (a3 (by omega)) (h1 _ h)
  · exact h
  · exact absurd (h2 (by omega)) (a2 i h (by omega))
theorem sp49 {kR m : Nat} {f : Nat → List Nat} {w : List Nat} (hR : RL kR m f M) (hw : isW w) : evD (d + 1) 49 [vR 4 0 kR, vJ (wc 32 w)] M = some (some (vI (if fnd f w m < m then Int32.ofNat (fnd f w m) else -1)), M) := by
  obtain ⟨r1, r2, r3⟩ := hR
  rw [e49, lp0_eq]
  have key : Hm (lp d 49 20000 2 [some (vR 4 0 kR), some (vJ (wc 32 w)), none, some (vI 0)] M) (fun r M' => r = some (vI (if fnd f w m < m then Int32.ofNat (fnd f w m) else -1)) ∧ M' = M) := by
    refine lp_for (d := d) (x := 49) (pc := 2) m 1 0 (by omega) (fun i lv M1 => lv = [some (vR 4 0 kR), some (vJ (wc 32 w)), none, some (vI (Int32.ofNat i))] ∧ M1 = M ∧ ∀ j, j < i → f j ≠ w) ?_ ?_ m 0 (by omega) 20000 _ _ (by omega) ⟨rfl, rfl, fun j hj => by omega⟩
    · rintro i hi G lv M1 - ⟨rfl, rfl, hq⟩ z
      rw [e49_2, r1, i_lt (by omega) (by omega), ic_t hi, ck (show i < 6 by omega) (by omega), i_nat (by omega), (r3 i hi).1, lcmp0]
      by_cases he : wc 32 (f i) = wc 32 w
      · rw [ic_t he]
        have hew := wc_inj (b := 32) (.inl rfl) (r3 i hi).2 hw he
        have : fnd f w m = i := fnd_eq (by omega) hq (fun _ => hew)
        rw [this, if_pos hi]
        exact Hm_some ⟨rfl, rfl⟩
      · rw [ic_f he, i_addl]
        refine z _ _ _ (by omega) ⟨rfl, rfl, fun j hj => ?_⟩
        by_cases y : j = i
        · subst y; intro z; exact he (by rw [z])
        · exact hq j (by omega)
    · rintro G lv M1 - ⟨rfl, rfl, hq⟩
      rw [e49_2, r1, i_lt (by omega) (by omega), ic_f (by omega)]
      have : fnd f w m = m := fnd_eq (by omega) hq (fun h => by omega)
      rw [this, if_neg (by omega)]
      exact Hm_some ⟨rfl, rfl⟩
  obtain ⟨a, M1, e1, e2, rfl⟩ := key
  rw [e1, e2]
theorem RL.fr {W : Nat → Nat → Prop} {kR m : Nat} {f : Nat → List Nat} (h : RL kR m f M) (hf : Fr W M M') (h0 : ¬ W kR 0) (h1 : ∀ j, j < 6 → ¬ W (kR + 1) j) : RL kR m f M' :=
  ⟨(hf.i h0).trans h.1, h.2.1, fun i hi => ⟨(hf.j (h1 i (by have := h.2.1; omega))).trans (h.2.2 i hi).1, (h.2.2 i hi).2⟩⟩
/-- what is wrong with a name that should be told: 1 no name, 2 of none, 0 nothing -/
noncomputable def namO (tp : Nat → Int32) (Tn n m : Nat) (f : Nat → List Nat) : Nat := if isNN tp Tn n = true then (if fnd f (kW tp Tn n) m < m then 0 else 2) else 1
theorem sp61 {kR m : Nat} {f : Nat → List Nat} (hs : SG tp Tn) (h : TA tp Tn n M) (hR : RL kR m f M) : Hm (evD (d + 6) 61 [vR 7 0 1, vR 4 0 kR] M) (fun r M' => Fr TV M M' ∧ if namO tp Tn n m f = 0 then r = some (vI 1) ∧ TA tp Tn n M' ∧ M'.1 1 3 = Int32.ofNat (fnd f (kW tp Tn n) m) else r = some (vI 0) ∧ FC tp Tn (namO tp Tn n m f) n M') := by
  unfold namO
  rw [e61, sp47 hs h, cIn_s]
  by_cases h1 : isNN tp Tn n = true
  · have hk := (isNN_o h1).1
    have hm := hR.2.1
    rw [h1, ic_f (by decide), if_pos rfl, h.2.2.2.2.1 hk]
    have e49 := sp49 (d := d + 4) hR (wd_isW hk)
    have e49 : evD (d + 5) 49 [vR 4 0 kR, vJ (wc 32 (wd tp Tn (tP tp Tn n)))] M = some (some (vI (if fnd f (kW tp Tn n) m < m then Int32.ofNat (fnd f (kW tp Tn n) m) else -1)), M) := e49
    rw [e49, cIn_s, sI_eq]
    have hT : ∀ v, TA tp Tn n (sI M 1 3 v) := fun v => h.fr (W := fun c j => c = 1 ∧ j = 3) (Fr.rf.sI (by omega)) (fun c j z => by omega)
    have hF : ∀ v, Fr TV M (sI M 1 3 v) := fun v => Fr.rf.sI (by unfold TV; omega)
    by_cases c1 : fnd f (kW tp Tn n) m < m
    · rw [if_pos c1, if_pos c1, ic_f (by rw [i_em1 (by omega)]; exact id)]
      exact Hm_some ⟨hF _, by rw [if_pos rfl]; exact ⟨rfl, hT _, sI_eq⟩⟩
    · rw [if_neg c1, if_neg c1, ic_t rfl]
      exact Hm_mono (sp45b (e := 2) rfl (hT (-1))) (fun r M' z => ⟨(hF _).tr z.2.2, by rw [if_neg (by omega)]; exact ⟨z.1, z.2.1⟩⟩)
  · rw [nf h1, ic_t (by decide), if_neg (by decide)]
    exact Hm_mono (sp45c (e := 1) rfl h) (fun r M' z => ⟨z.2.2, by rw [if_neg (by omega)]; exact ⟨z.1, z.2.1⟩⟩)
theorem sp63 {kR m : Nat} {f : Nat → List Nat} (hs : SG tp Tn) (h : TA tp Tn n M) (hR : RL kR m f M) : Hm (evD (d + 8) 63 [vR 7 0 1, vR 4 0 kR] M) (fun r M' => Fr TV M M' ∧ if namO tp Tn n m f = 0 then r = some (vI 1) ∧ TA tp Tn (n + 1) M' ∧ M'.1 1 3 = Int32.ofNat (fnd f (kW tp Tn n) m) else r = some (vI 0) ∧ FC tp Tn (namO tp Tn n m f) n M') := by
  rw [e63]
  by_cases c : namO tp Tn n m f = 0
  · refine Hm_cIv (v := 1) (P := fun M' => Fr TV M M' ∧ TA tp Tn n M' ∧ M'.1 1 3 = Int32.ofNat (fnd f (kW tp Tn n) m)) (Hm_mono (sp61 hs h hR) (fun r M' z => by rw [if_pos c] at z; exact ⟨z.2.1, z.1, z.2.2⟩)) (fun M1 h1 => ?_)
    rw [ic_f (by decide)]
    refine Hm_cVv (sp11 hs h1.2.1.1 (te_le (tP_le n)) h1.2.1.2.2.2.1) (fun M2 h2 => Hm_some ⟨h1.1.tr (TW_TV h2.2), ?_⟩)
    rw [if_pos c]
    exact ⟨rfl, h2.1, (h2.2.i (by unfold TW; omega)).trans h1.2.2⟩
  · refine Hm_cIv (v := 0) (P := fun M' => Fr TV M M' ∧ FC tp Tn (namO tp Tn n m f) n M') (Hm_mono (sp61 hs h hR) (fun r M' z => by rw [if_neg c] at z; exact ⟨z.2.1, z.1, z.2.2⟩)) (fun M1 h1 => ?_)
    rw [ic_t rfl]
    exact Hm_some ⟨h1.1, by rw [if_neg c]; exact ⟨rfl, h1.2⟩⟩
end CTOK4
