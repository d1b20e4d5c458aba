/-! what the reference takes -/
section RTOK2
variable {tp : Nat → Int32} {Tn d n : Nat} {M M' : Mem} {c : Nat → Nat} {nm : Nat → Nat → List Nat}
def TFa (e : Nat) (M : Mem) : Prop := M.1 253 8 = Int32.ofNat e ∧ 1 ≤ e ∧ e ≤ 16005
def R78 (c j : Nat) : Prop := c = 253 ∧ (j = 7 ∨ j = 8)
theorem TFa.ne {e : Nat} (h : TFa e M) : ¬ M.1 253 8 = 0 ∧ (0 : Int32) < M.1 253 8 := by
  have h3 := h.2.2
  have h2 := h.2.1
  rw [h.1]
  refine ⟨?_, ?_⟩
  · rw [show (0 : Int32) = Int32.ofNat 0 from rfl, i_eq (by omega) (by omega)]; omega
  · rw [show (0 : Int32) = Int32.ofNat 0 from rfl, i_lt (by omega) (by omega)]; omega
theorem TT.fr {W : Nat → Nat → Prop} (h : TT tp Tn M) (hf : Fr W M M') (hw : ∀ c i, (c = 255 ∨ c = 256 ∨ c = 257) → ¬ W c i) : TT tp Tn M' := fun i hi => (h i hi).fr hf (fun c hc => hw c i hc)
theorem TB.fr {W : Nat → Nat → Prop} (h : TB tp Tn n M) (hf : Fr W M M') (hw : ∀ c i, (c = 255 ∨ c = 256 ∨ c = 257 ∨ (c = 253 ∧ (i = 7 ∨ i = 8))) → ¬ W c i) : TB tp Tn n M' := ⟨h.1.fr hf (fun c i hc => hw c i (by omega)), h.2.1, (hf.i (hw 253 7 (by omega))).trans h.2.2.1, (hf.i (hw 253 8 (by omega))).trans h.2.2.2⟩
theorem TB.le (hs : SG tp Tn) (h : TB tp Tn n M) : n ≤ 1000 := Nat.le_trans (vis_le h.2.1) hs.1
theorem TB.s (h : TB tp Tn n M) (hk : kS tp Tn n ≠ 0) : TB tp Tn (n + 1) (sI M 253 7 (Int32.ofNat (n + 1))) := ⟨h.1.fr (W := R78) (Fr.rf.sI (by unfold R78; omega)) (fun c i hc => by unfold R78; omega), vis_s h.2.1 hk, sI_eq, by rw [sI_ne (by omega)]; exact h.2.2.2⟩
theorem TB.f (hs : SG tp Tn) {e : Nat} (he : 1 ≤ e) (he5 : e ≤ 5) : TFa (flt tp Tn e n) (sI M 253 8 (Int32.ofNat (flt tp Tn e n))) := ⟨sI_eq, flt_pos he, flt_lt hs.1 he5⟩
theorem n0 : ¬ ((0 : Int32) < 0) := by decide
theorem wt_ok : ∀ w, w < 33 → wtab.getD w 0 = wc 37 (kwd w) ∧ isW (kwd w) := by
  have : ∀ w : Fin 33, wtab.getD w.1 0 = wc 37 (kwd w.1) ∧ ((kwd w.1).length ≤ 8 ∧ ∀ l ∈ kwd w.1, 1 ≤ l ∧ l ≤ 26) := by decide +kernel
  intro w hw; exact this ⟨w, hw⟩
theorem kwd_inj : ∀ a, a < 33 → ∀ b, b < 33 → kwd a = kwd b → a = b := by
  have : ∀ a : Fin 33, ∀ b : Fin 33, kwd a.1 = kwd b.1 → a.1 = b.1 := by decide +kernel
  intro a ha b hb h; exact this ⟨a, ha⟩ ⟨b, hb⟩ h
theorem i_s1 {a : Nat} (ha : a ≤ 4) : (Int32.ofNat a = 1) = (a = 1) ∧ (Int32.ofNat a = 2) = (a = 2) ∧ (Int32.ofNat a = 3) = (a = 3) ∧ (Int32.ofNat a = 0) = (a = 0) := ⟨i_eq (b := 1) (by omega) (by omega), i_eq (b := 2) (by omega) (by omega), i_eq (b := 3) (by omega) (by omega), i_eq (b := 0) (by omega) (by omega)⟩
theorem sp206 {w : Nat} (hs : SG tp Tn) (hw : w < 33) (hW : WT33 M) (h : TB tp Tn n M) : evD (d + 1) 206 [vR 12 0 253, vI (Int32.ofNat w)] M = some (some (vI (b2 (isWN tp Tn n (kwd w)))), M) := by
  have hn := h.le hs
  obtain ⟨t1, t2, t3⟩ := h.1 n h.2.1
  rw [e206, ic_t h.2.2.2, h.2.2.1, ck (show n < 1002 by omega) (by omega), i_nat (by omega), t1, (i_s1 (a := kS tp Tn n) so_le).1]
  unfold isWN
  by_cases h1 : kS tp Tn n = 1
  · rw [ic_t h1, ckn (show n < 1002 by omega) (by omega), ck hw (by omega), i_nat (by omega), hW w hw, (wt_ok w hw).1, t3 (by omega) (by omega), lcmp0]
    have ek : kval tp Tn n = wc 37 (kW tp Tn n) := by unfold kval; rw [if_pos h1]
    rw [ek]
    by_cases he : kW tp Tn n = kwd w
    · rw [ic_t (by rw [he])]; simp [h1, he, b2]
    · rw [ic_f (show ¬ wc 37 (kW tp Tn n) = wc 37 (kwd w) from fun z => he (wc_inj (b := 37) (.inr rfl) (wd_isW h1) (wt_ok w hw).2 z))]; simp [he, b2]
  · rw [ic_f h1]; simp [h1, b2]
theorem sp206f {e : Nat} {p : Int32} (h : TFa e M) : evD (d + 1) 206 [vR 12 0 253, vI p] M = some (some (vI 0), M) := by rw [e206, ic_f h.ne.1]
theorem sp231 {k : Nat} (hs : SG tp Tn) (hk : k < 1000) (h : TB tp Tn n M) : evD (d + 1) 231 [vR 12 0 253, vI (Int32.ofNat k)] M = some (some (vI (b2 (isSN tp Tn n k))), M) := by
  have hn := h.le hs
  obtain ⟨t1, t2, t3⟩ := h.1 n h.2.1
  rw [e231, ic_t h.2.2.2, h.2.2.1, ck (show n < 1002 by omega) (by omega), i_nat (by omega), t1, (i_s1 (a := kS tp Tn n) so_le).2.2.1]
  unfold isSN
  by_cases h1 : kS tp Tn n = 3
  · rw [ic_t h1, ckn (show n < 1002 by omega) (by omega), t3 (by omega) (by omega), lcmp0]
    have ek : kval tp Tn n = Int64.ofNat (kC tp Tn n) := by unfold kval; rw [if_neg (by omega), if_neg (by omega)]
    have hc : kC tp Tn n ≤ 126 := (hs.2 _ (kS_lt (by omega))).2
    rw [ek, toI64 (by omega)]
    have : (Int64.ofNat (kC tp Tn n) = Int64.ofNat k) = (kC tp Tn n = k) := by
      rw [← Int64.toInt_inj, l_ti (by omega), l_ti (by omega)]; exact propext Int.ofNat_inj
    rw [this, ic_b2]; simp [h1]
  · rw [ic_f h1]; simp [h1, b2]
theorem sp231f {e : Nat} {p : Int32} (h : TFa e M) : evD (d + 1) 231 [vR 12 0 253, vI p] M = some (some (vI 0), M) := by rw [e231, ic_f h.ne.1]
theorem sp208 {e : Nat} {E : Int32} (hE : E = Int32.ofNat e) (hs : SG tp Tn) (h : TB tp Tn n M) : evD (d + 1) 208 [vR 12 0 253, vI E] M = some (none, sI M 253 8 (Int32.ofNat (flt tp Tn e n))) := by
  have hn := h.le hs
  obtain ⟨t1, t2, t3⟩ := h.1 n h.2.1
  subst hE
  rw [e208, ic_t h.2.2.2, h.2.2.1, ck (show n < 1002 by omega) (by omega), i_nat (by omega), t2, i_mulr, i_add]; rfl
theorem sp208f {e : Nat} {p : Int32} (h : TFa e M) : evD (d + 1) 208 [vR 12 0 253, vI p] M = some (none, M) := by rw [e208, ic_f h.ne.1]
theorem isSN_k {k : Nat} (h : isSN tp Tn n k = true) : kS tp Tn n ≠ 0 := by unfold isSN at h; have := of_decide_eq_true h; omega
theorem isWN_k {w : List Nat} (h : isWN tp Tn n w = true) : kS tp Tn n ≠ 0 := by unfold isWN at h; have := of_decide_eq_true h; omega
theorem isNN_k (h : isNN tp Tn n = true) : kS tp Tn n ≠ 0 := by have := (isNN_o h).1; omega
/-- signs and words that are taken -/
theorem sp234y {k : Nat} {E : Int32} (hE : E = Int32.ofNat k) (hs : SG tp Tn) (hk : k < 1000) (h : TB tp Tn n M) (hy : isSN tp Tn n k = true) : evD (d + 2) 234 [vR 12 0 253, vI E] M = some (none, sI M 253 7 (Int32.ofNat (n + 1))) := by
  subst hE; rw [e234, sp231 hs hk h, cIn_s, hy, ic_f (by decide), h.2.2.1, i_addl]
theorem sp234n {k : Nat} {E : Int32} (hE : E = Int32.ofNat k) (hs : SG tp Tn) (hk : k < 1000) (h : TB tp Tn n M) (hy : isSN tp Tn n k = false) : evD (d + 2) 234 [vR 12 0 253, vI E] M = some (none, sI M 253 8 (Int32.ofNat (flt tp Tn 1 n))) := by
  subst hE; rw [e234, sp231 hs hk h, cIn_s, hy, ic_t (by decide), sp208 (e := 1) (E := 1) rfl hs h, cVd_s]
theorem sp234f {e : Nat} {p : Int32} (h : TFa e M) : evD (d + 2) 234 [vR 12 0 253, vI p] M = some (none, M) := by rw [e234, sp231f h, cIn_s, ic_t rfl, sp208f h, cVd_s]
theorem sI7 (h : TB tp Tn n M) : sI M 253 7 (M.1 253 7 + 0) = M := by rw [Int32.add_zero, sI_id]
theorem sp233 {k : Nat} {E : Int32} (hE : E = Int32.ofNat k) (hs : SG tp Tn) (hk : k < 1000) (h : TB tp Tn n M) : evD (d + 2) 233 [vR 12 0 253, vI E] M = some (some (vI (b2 (isSN tp Tn n k))), if isSN tp Tn n k then sI M 253 7 (Int32.ofNat (n + 1)) else M) := by
  subst hE
  rw [e233, sp231 hs hk h, cIn_s]
  by_cases hy : isSN tp Tn n k = true
  · rw [hy, ic_f (by decide), ic_t (by decide), h.2.2.1, i_addl, if_pos rfl]
  · rw [nf hy, ic_t (by decide), ic_t (by decide), sI7 h, if_neg (by decide)]
theorem sp233f {e : Nat} {p : Int32} (h : TFa e M) : evD (d + 2) 233 [vR 12 0 253, vI p] M = some (some (vI 0), M) := by
  rw [e233, sp231f h, cIn_s, ic_t rfl, ic_t (by decide), Int32.add_zero, sI_id]
theorem sp215 {w : Nat} {E : Int32} (hE : E = Int32.ofNat w) (hs : SG tp Tn) (hw : w < 33) (hW : WT33 M) (h : TB tp Tn n M) : evD (d + 2) 215 [vR 12 0 253, vI E] M = some (some (vI (b2 (isWN tp Tn n (kwd w)))), if isWN tp Tn n (kwd w) then sI M 253 7 (Int32.ofNat (n + 1)) else M) := by
  subst hE
  rw [e215, sp206 hs hw hW h, cIn_s]
  by_cases hy : isWN tp Tn n (kwd w) = true
  · rw [hy, ic_f (by decide), ic_t (by decide), h.2.2.1, i_addl, if_pos rfl]
  · rw [nf hy, ic_t (by decide), ic_t (by decide), sI7 h, if_neg (by decide)]
theorem sp215f {e : Nat} {p : Int32} (h : TFa e M) : evD (d + 2) 215 [vR 12 0 253, vI p] M = some (some (vI 0), M) := by
  rw [e215, sp206f h, cIn_s, ic_t rfl, ic_t (by decide), Int32.add_zero, sI_id]
theorem sp214y {w : Nat} {E : Int32} (hE : E = Int32.ofNat w) (hs : SG tp Tn) (hw : w < 33) (hW : WT33 M) (h : TB tp Tn n M) (hy : isWN tp Tn n (kwd w) = true) : evD (d + 3) 214 [vR 12 0 253, vI E] M = some (none, sI M 253 7 (Int32.ofNat (n + 1))) := by
  rw [e214, sp215 hE hs hw hW h, cIn_s, hy, ic_f (by decide), if_pos rfl]
theorem sp214n {w : Nat} {E : Int32} (hE : E = Int32.ofNat w) (hs : SG tp Tn) (hw : w < 33) (hW : WT33 M) (h : TB tp Tn n M) (hy : isWN tp Tn n (kwd w) = false) : evD (d + 3) 214 [vR 12 0 253, vI E] M = some (none, sI M 253 8 (Int32.ofNat (flt tp Tn 1 n))) := by
  rw [e214, sp215 hE hs hw hW h, cIn_s, hy, ic_t (by decide), if_neg (by decide), sp208 (e := 1) (E := 1) rfl hs h, cVd_s]
theorem sp214f {e : Nat} {p : Int32} (h : TFa e M) : evD (d + 3) 214 [vR 12 0 253, vI p] M = some (none, M) := by rw [e214, sp215f h, cIn_s, ic_t rfl, sp208f h, cVd_s]
/-- which of some words stands here -/
noncomputable def whr (tp : Nat → Int32) (Tn n f : Nat) : Nat → Int32 := rf (fun x k => if isWN tp Tn n (kwd (f + k)) then Int32.ofNat k else x) (-1)
theorem sp211 {f m : Nat} {E E' : Int32} (hE : E = Int32.ofNat f) (hE' : E' = Int32.ofNat m) (hs : SG tp Tn) (hm : f + m ≤ 33) (hW : WT33 M) (h : TB tp Tn n M) : evD (d + 2) 211 [vR 12 0 253, vI E, vI E'] M = some (some (vI (whr tp Tn n f m)), M) := by
  subst hE hE'
  rw [e211, lp0_eq]
  have key : Hm (lp (d + 1) 211 20000 5 [some (vR 12 0 253), some (vI (Int32.ofNat f)), some (vI (Int32.ofNat m)), some (vI (-1)), some (vI 0)] M) (fun r M' => r = some (vI (whr tp Tn n f m)) ∧ M' = M) := by
    refine lp_for (d := d + 1) (x := 211) (pc := 5) m 1 0 (by omega) (fun i lv M1 => lv = [some (vR 12 0 253), some (vI (Int32.ofNat f)), some (vI (Int32.ofNat m)), some (vI (whr tp Tn n f i)), some (vI (Int32.ofNat i))] ∧ M1 = M) ?_ ?_ m 0 (by omega) 20000 _ _ (by omega) ⟨rfl, rfl⟩
    · rintro i hi G lv M1 - ⟨rfl, rfl⟩ z
      rw [e211_5, i_lt (by omega) (by omega), ic_t hi, i_add, sp206 hs (show f + i < 33 by omega) hW h, cIn_s, i_addl]
      have es : whr tp Tn n f (i + 1) = if isWN tp Tn n (kwd (f + i)) then Int32.ofNat i else whr tp Tn n f i := rfl
      by_cases hy : isWN tp Tn n (kwd (f + i)) = true
      · rw [hy, ic_f (by decide)]
        exact z _ _ _ (by omega) ⟨by rw [es, if_pos hy], rfl⟩
      · rw [nf hy, ic_t (by decide)]
        exact z _ _ _ (by omega) ⟨by rw [es, if_neg hy], rfl⟩
    · rintro G lv M1 - ⟨rfl, rfl⟩
      rw [e211_5, i_lt (by omega) (by omega), ic_f (by omega)]
      exact Hm_some ⟨rfl, rfl⟩
  obtain ⟨a, M1, e1, e2, rfl⟩ := key
  rw [e1, e2]
theorem whr_no {f : Nat} : ∀ m, (∀ k, k < m → isWN tp Tn n (kwd (f + k)) = false) → whr tp Tn n f m = -1
  | 0, _ => rfl
  | m + 1, h => by
    show (if isWN tp Tn n (kwd (f + m)) then Int32.ofNat m else whr tp Tn n f m) = -1
    rw [h m (by omega), if_neg (by decide)]; exact whr_no m (fun k hk => h k (by omega))
theorem whr_y {f i : Nat} (hy : isWN tp Tn n (kwd (f + i)) = true) : ∀ m, i < m → f + m ≤ 33 → whr tp Tn n f m = Int32.ofNat i
  | 0, h, _ => by omega
  | m + 1, h, hm => by
    show (if isWN tp Tn n (kwd (f + m)) then Int32.ofNat m else whr tp Tn n f m) = _
    by_cases y : i = m
    · subst y; rw [if_pos hy]
    · have : isWN tp Tn n (kwd (f + m)) = false := nf (fun z => y (by
        unfold isWN at z hy
        have z := (of_decide_eq_true z).2
        have hy := (of_decide_eq_true hy).2
        have := kwd_inj (f + i) (by omega) (f + m) (by omega) (hy.symm.trans z)
        omega))
      rw [this, if_neg (by decide)]; exact whr_y hy m (by omega) (by omega)
theorem whr_neg {f m : Nat} (hm : f + m ≤ 33) : (whr tp Tn n f m < 0) ↔ ∀ k, k < m → isWN tp Tn n (kwd (f + k)) = false := by
  constructor
  · intro h k hk
    refine nf (fun z => ?_)
    rw [whr_y z m hk hm] at h
    exact i_neg (by omega) h
  · intro h; rw [whr_no m h]; decide
theorem whr_dd : whr tp Tn n 14 5 = if dd tp Tn n = 5 then -1 else Int32.ofNat (dd tp Tn n) := by
  unfold dd
  by_cases c0 : isWN tp Tn n (kwd 14) = true
  · rw [whr_y (f := 14) (i := 0) c0 5 (by omega) (by omega), if_pos c0]; rfl
  by_cases c1 : isWN tp Tn n (kwd 15) = true
  · rw [whr_y (f := 14) (i := 1) c1 5 (by omega) (by omega), if_neg c0, if_pos c1]; rfl
  by_cases c2 : isWN tp Tn n (kwd 16) = true
  · rw [whr_y (f := 14) (i := 2) c2 5 (by omega) (by omega), if_neg c0, if_neg c1, if_pos c2]; rfl
  by_cases c3 : isWN tp Tn n (kwd 17) = true
  · rw [whr_y (f := 14) (i := 3) c3 5 (by omega) (by omega), if_neg c0, if_neg c1, if_neg c2, if_pos c3]; rfl
  by_cases c4 : isWN tp Tn n (kwd 18) = true
  · rw [whr_y (f := 14) (i := 4) c4 5 (by omega) (by omega), if_neg c0, if_neg c1, if_neg c2, if_neg c3, if_pos c4]; rfl
  · rw [whr_no 5 (fun k hk => ?_), if_neg c0, if_neg c1, if_neg c2, if_neg c3, if_neg c4]; rfl
    rcases k with _ | _ | _ | _ | _ | k
    · exact nf c0
    · exact nf c1
    · exact nf c2
    · exact nf c3
    · exact nf c4
    · omega
theorem sp210 (hs : SG tp Tn) (hW : WT33 M) (h : TB tp Tn n M) : evD (d + 3) 210 [vR 12 0 253] M = some (some (vI (b2 (isNN tp Tn n))), M) := by
  have hn := h.le hs
  obtain ⟨t1, t2, t3⟩ := h.1 n h.2.1
  rw [e210, ic_t h.2.2.2, h.2.2.1, ck (show n < 1002 by omega) (by omega), i_nat (by omega), t1, (i_s1 (a := kS tp Tn n) so_le).1]
  by_cases h1 : kS tp Tn n = 1
  · rw [ic_t h1, sp211 (f := 0) (m := 28) (E := 0) (E' := 28) rfl rfl hs (by omega) hW h, cIn_s]
    by_cases hy : ∀ k, k < 28 → isWN tp Tn n (kwd (0 + k)) = false
    · rw [ic_t ((whr_neg (by omega)).mpr hy)]
      have : isNN tp Tn n = true := isNN_t ⟨h1, fun w hw e => by
        have := hy w hw
        rw [Nat.zero_add] at this
        unfold isWN at this
        exact of_decide_eq_false this ⟨h1, e⟩⟩
      rw [this]; rfl
    · rw [ic_f (fun z => hy ((whr_neg (by omega)).mp z))]
      have : isNN tp Tn n = false := isNN_f (fun z => hy (fun k hk => by
        rw [Nat.zero_add]; unfold isWN
        exact decide_eq_false (fun y => z.2 k hk y.2)))
      rw [this]; rfl
  · rw [ic_f h1, isNN_f (fun z => h1 z.1)]; rfl
end RTOK2
