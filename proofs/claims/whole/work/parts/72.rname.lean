/-! names of the reference -/
section RNAME
variable {tp : Nat → Int32} {Tn d n : Nat} {M M' : Mem} {c : Nat → Nat} {nm : Nat → Nat → List Nat}
/-- a table of names: cells a (names) and b (whose), so many of them -/
def NTb (a b : Nat) (c : Nat → Nat) (nm : Nat → Nat → List Nat) (kn : Nat) (M : Mem) : Prop := (∀ k, k < kn → ∃ q i, q < 3 ∧ i < c q ∧ M.1 b k = Int32.ofNat (20 * q + i) ∧ M.2.1 a k = wc 37 (nm q i)) ∧ ∀ q i, q < 3 → i < c q → ∃ k, k < kn ∧ M.1 b k = Int32.ofNat (20 * q + i) ∧ M.2.1 a k = wc 37 (nm q i)
/-- names are words and all different -/
def NOk (c : Nat → Nat) (nm : Nat → Nat → List Nat) : Prop := (∀ q, q < 3 → c q ≤ 6) ∧ (∀ q i, q < 3 → i < c q → isW (nm q i)) ∧ ∀ q i q' i', q < 3 → i < c q → q' < 3 → i' < c q' → nm q i = nm q' i' → q = q' ∧ i = i'
def NTp (p : Int32) (c : Nat → Nat) (nm : Nat → Nat → List Nat) (kn : Nat) (M : Mem) : Prop := kn ≤ 18 ∧ ((p = 0 ∧ M.1 253 18 = Int32.ofNat kn ∧ NTb 262 264 c nm kn M) ∨ (¬ p = 0 ∧ M.1 253 19 = Int32.ofNat kn ∧ NTb 263 265 c nm kn M))
theorem NTp.fr {W : Nat → Nat → Prop} {p : Int32} {kn : Nat} (h : NTp p c nm kn M) (hf : Fr W M M') (hw : ∀ c j, ((c = 253 ∧ (j = 18 ∨ j = 19)) ∨ (262 ≤ c ∧ c ≤ 265)) → ¬ W c j) : NTp p c nm kn M' := by
  have nt : ∀ a b, 262 ≤ a → a ≤ 265 → 262 ≤ b → b ≤ 265 → NTb a b c nm kn M → NTb a b c nm kn M' := by
    intro a b a1 a2 b1 b2' hh
    refine ⟨fun k hk => ?_, fun q i hq hi => ?_⟩
    · rw [hf.i (hw b k (by omega)), hf.j (hw a k (by omega))]; exact hh.1 k hk
    · obtain ⟨k, z1, z2, z3⟩ := hh.2 q i hq hi
      exact ⟨k, z1, by rw [hf.i (hw b k (by omega))]; exact z2, by rw [hf.j (hw a k (by omega))]; exact z3⟩
  refine ⟨h.1, h.2.imp (fun z => ⟨z.1, (hf.i (hw 253 18 (by omega))).trans z.2.1, nt _ _ (by omega) (by omega) (by omega) (by omega) z.2.2⟩) (fun z => ⟨z.1, (hf.i (hw 253 19 (by omega))).trans z.2.1, nt _ _ (by omega) (by omega) (by omega) (by omega) z.2.2⟩)⟩
/-- the number of a name, or -1 -/
theorem sp212 {p : Int32} {kn : Nat} (hs : SG tp Tn) (hN : NOk c nm) (hT : NTp p c nm kn M) (h : TB tp Tn n M) (h1 : kS tp Tn n = 1) : Hm (evD (d + 1) 212 [vR 12 0 253, vI p] M) (fun r M' => M' = M ∧ ((∃ q i, q < 3 ∧ i < c q ∧ nm q i = kW tp Tn n ∧ r = some (vI (Int32.ofNat (20 * q + i)))) ∨ ((∀ q i, q < 3 → i < c q → nm q i ≠ kW tp Tn n) ∧ r = some (vI (-1))))) := by
  have hn := h.le hs
  obtain ⟨t1, t2, t3⟩ := h.1 n h.2.1
  have ek : kval tp Tn n = wc 37 (kW tp Tn n) := by unfold kval; rw [if_pos h1]
  have t3 : M.2.1 257 n = wc 37 (kW tp Tn n) := (t3 (by omega) (by omega)).trans ek
  have hW := wd_isW h1
  obtain ⟨h18, hT⟩ := hT
  rw [e212, lp0_eq]
  refine lp_for (d := d) (x := 212) (pc := 2) kn 2 2 (by omega) (fun i lv M1 => lv = [some (vR 12 0 253), some (vI p), some (vI (Int32.ofNat i))] ∧ M1 = M ∧ ∀ k, k < i → (p = 0 → M.2.1 262 k ≠ wc 37 (kW tp Tn n)) ∧ (¬ p = 0 → M.2.1 263 k ≠ wc 37 (kW tp Tn n))) ?_ ?_ kn 0 (by omega) 20000 _ _ (by omega) ⟨rfl, rfl, fun k hk => by omega⟩
  · rintro i hi G lv M1 hG ⟨rfl, rfl, hq⟩ z
    obtain ⟨G', rfl⟩ : ∃ G', G = G' + 2 := ⟨G - 2, by omega⟩
    rcases hT with ⟨p0, q18, hT⟩ | ⟨p0, q18, hT⟩
    · obtain ⟨q, j, hq3, hj, e1, e2⟩ := hT.1 i hi
      rw [show G' + 2 + 2 = (G' + 3) + 1 from rfl, e212_2, ic_t p0, q18, i_lt (by omega) (by omega), ic_t hi, show G' + 3 = (G' + 2) + 1 from rfl, e212_21, ic_t p0, ck (show i < 18 by omega) (by omega), h.2.2.1, ck (show n < 1002 by omega) (by omega), i_nat (by omega), i_nat (by omega), e2, t3, lcmp0]
      by_cases he : wc 37 (nm q j) = wc 37 (kW tp Tn n)
      · rw [ic_t he, show G' + 2 = (G' + 1) + 1 from rfl, e212_53, ic_t p0, ck (show i < 18 by omega) (by omega), i_nat (by omega), e1]
        exact Hm_some ⟨rfl, .inl ⟨q, j, hq3, hj, wc_inj (b := 37) (.inr rfl) (hN.2.1 q j hq3 hj) hW he, rfl⟩⟩
      · rw [ic_f he, i_addl]
        refine z _ _ _ (by omega) ⟨rfl, rfl, fun k hk => ?_⟩
        by_cases y : k = i
        · subst y; exact ⟨fun _ => by rw [e2]; exact he, fun z => absurd p0 z⟩
        · exact hq k (by omega)
    · obtain ⟨q, j, hq3, hj, e1, e2⟩ := hT.1 i hi
      rw [show G' + 2 + 2 = (G' + 3) + 1 from rfl, e212_2, ic_f p0, q18, i_lt (by omega) (by omega), ic_t hi, show G' + 3 = (G' + 2) + 1 from rfl, e212_21, ic_f p0, ck (show i < 18 by omega) (by omega), h.2.2.1, ck (show n < 1002 by omega) (by omega), i_nat (by omega), i_nat (by omega), e2, t3, lcmp0]
      by_cases he : wc 37 (nm q j) = wc 37 (kW tp Tn n)
      · rw [ic_t he, show G' + 2 = (G' + 1) + 1 from rfl, e212_53, ic_f p0, ck (show i < 18 by omega) (by omega), i_nat (by omega), e1]
        exact Hm_some ⟨rfl, .inl ⟨q, j, hq3, hj, wc_inj (b := 37) (.inr rfl) (hN.2.1 q j hq3 hj) hW he, rfl⟩⟩
      · rw [ic_f he, i_addl]
        refine z _ _ _ (by omega) ⟨rfl, rfl, fun k hk => ?_⟩
        by_cases y : k = i
        · subst y; exact ⟨fun z => absurd z p0, fun _ => by rw [e2]; exact he⟩
        · exact hq k (by omega)
  · rintro G lv M1 - ⟨rfl, rfl, hq⟩
    rcases hT with ⟨p0, q18, hT⟩ | ⟨p0, q18, hT⟩
    · rw [show G + 2 = (G + 1) + 1 from rfl, e212_2, ic_t p0, q18, i_lt (by omega) (by omega), ic_f (by omega)]
      refine Hm_some ⟨rfl, .inr ⟨fun q i hq3 hi e => ?_, rfl⟩⟩
      obtain ⟨k, hk, k1, k2⟩ := hT.2 q i hq3 hi
      exact (hq k hk).1 p0 (by rw [k2, e])
    · rw [show G + 2 = (G + 1) + 1 from rfl, e212_2, ic_f p0, q18, i_lt (by omega) (by omega), ic_f (by omega)]
      refine Hm_some ⟨rfl, .inr ⟨fun q i hq3 hi e => ?_, rfl⟩⟩
      obtain ⟨k, hk, k1, k2⟩ := hT.2 q i hq3 hi
      exact (hq k hk).2 p0 (by rw [k2, e])
theorem fnd_of {q i : Nat} {w : List Nat} (hN : NOk c nm) (hq : q < 3) (hi : i < c q) (he : nm q i = w) : fnd (nm q) w (c q) = i := by
  refine fnd_eq (by omega) (fun j hj e => ?_) (fun _ => he)
  have := (hN.2.2 q i q j hq hi hq (by omega) (he.trans e.symm)).2
  omega
theorem i_m {a b : Nat} (ha : a < 1000) (hb : b < 1000) (h : ¬ (b ≤ a ∧ a ≤ b + 5)) : wi (Int32.ofNat a - Int32.ofNat b) 0 5 = false := by
  unfold wi
  refine decide_eq_false (fun z => h ?_)
  rw [t_lt, t_lt, t_sub (by rw [i_toInt (by omega), i_toInt (by omega)]; omega) (by rw [i_toInt (by omega), i_toInt (by omega)]; omega), i_toInt (by omega), i_toInt (by omega), t_0, show (5 : Int32).toInt = 5 by decide] at z
  omega
theorem i_mm1 {b : Nat} (hb : b < 1000) : wi (-1 - Int32.ofNat b) 0 5 = false := by
  unfold wi
  refine decide_eq_false (fun z => ?_)
  rw [t_lt, t_lt, t_sub (by rw [i_toInt (by omega), t_m1]; omega) (by rw [i_toInt (by omega), t_m1]; omega), i_toInt (by omega), t_0, t_m1] at z
  omega
/-- a name that is told, of the q-th kind -/
theorem sp221 {p : Int32} {kn q : Nat} {E : Int32} (hE : E = Int32.ofNat (20 * q)) (hq : q < 3) (hs : SG tp Tn) (hN : NOk c nm) (hT : NTp p c nm kn M) (hW : WT33 M) (h : TB tp Tn n M) : Hm (evD (d + 4) 221 [vR 12 0 253, vI p, vI E] M) (fun r M' => if namO tp Tn n (c q) (nm q) = 0 then r = some (vI (Int32.ofNat (fnd (nm q) (kW tp Tn n) (c q)))) ∧ M' = M else r = some (vI 0) ∧ M' = sI M 253 8 (Int32.ofNat (flt tp Tn (namO tp Tn n (c q) (nm q)) n))) := by
  subst hE
  have h6 := hN.1 q hq
  rw [e221, ic_t h.2.2.2, sp210 hs hW h, cIn_s]
  by_cases hy : isNN tp Tn n = true
  · have h1 := (isNN_o hy).1
    rw [hy, ic_f (by decide), lp0_eq, show (20000 : Nat) = 19999 + 1 from rfl, e221_19, h.2.2.2, ic_f n0]
    refine Hm_cIn (sp212 (d := d + 2) hs hN hT h h1) (fun a M1 z => ?_)
    obtain ⟨rfl, z⟩ := z
    rcases z with ⟨q', i, hq', hi, he, rfl⟩ | ⟨hno, rfl⟩
    · refine ⟨_, rfl, ?_⟩
      have h6' := hN.1 q' hq'
      rw [show (19999 : Nat) = 19998 + 1 from rfl, e221_38, ic_t h.2.2.2]
      by_cases hqq : q' = q
      · subst hqq
        have ef := fnd_of hN hq' hi he
        have en : namO tp Tn n (c q') (nm q') = 0 := by unfold namO; rw [if_pos hy, if_pos (by rw [ef]; exact hi)]
        have ew : wi (Int32.ofNat i) 0 5 = true := by unfold wi; exact decide_eq_true ⟨i_neg (by omega), by rw [show (5 : Int32) = Int32.ofNat 5 from rfl, i_lt (by omega) (by omega)]; omega⟩
        rw [i_sub (by omega), show 20 * q' + i - 20 * q' = i by omega, sp222, cIn_s, ew, ic_f (by decide), show (19998 : Nat) = 19997 + 1 from rfl, e221_59, h.2.2.2, ic_f n0]
        exact Hm_some (by rw [if_pos en, ef]; exact ⟨rfl, rfl⟩)
      · have en : namO tp Tn n (c q) (nm q) = 2 := by
          unfold namO
          rw [if_pos hy, if_neg]
          intro z
          have := (fnd_le (f := nm q) (w := kW tp Tn n) (c q)).2.2 z
          exact hqq (hN.2.2 q' i q _ hq' hi hq z (he.trans this.symm)).1
        rw [sp222, cIn_s, i_m (by omega) (by omega) (by omega), ic_t (by decide), sp208 (e := 2) (E := 2) rfl hs h, cVd_s, show (19998 : Nat) = 19997 + 1 from rfl, e221_59, ic_t (TB.f hs (e := 2) (by omega) (by omega)).ne.2]
        exact Hm_some (by rw [if_neg (by omega), en]; exact ⟨rfl, rfl⟩)
    · refine ⟨_, rfl, ?_⟩
      have en : namO tp Tn n (c q) (nm q) = 2 := by
        unfold namO
        rw [if_pos hy, if_neg]
        intro z
        exact hno q _ hq z ((fnd_le (f := nm q) (w := kW tp Tn n) (c q)).2.2 z)
      rw [show (19999 : Nat) = 19998 + 1 from rfl, e221_38, ic_t h.2.2.2, sp222, cIn_s, i_mm1 (by omega), ic_t (by decide), sp208 (e := 2) (E := 2) rfl hs h, cVd_s, show (19998 : Nat) = 19997 + 1 from rfl, e221_59, ic_t (TB.f hs (e := 2) (by omega) (by omega)).ne.2]
      exact Hm_some (by rw [if_neg (by omega), en]; exact ⟨rfl, rfl⟩)
  · have en : namO tp Tn n (c q) (nm q) = 1 := by unfold namO; rw [if_neg hy]
    have hF := TB.f (M := M) (n := n) hs (e := 1) (by omega) (by omega)
    rw [nf hy, ic_t (by decide), sp208 (e := 1) (E := 1) rfl hs h, cVd_s, lp0_eq, show (20000 : Nat) = 19999 + 1 from rfl, e221_19, ic_t hF.ne.2, show (19999 : Nat) = 19998 + 1 from rfl, e221_38, ic_f hF.ne.1, show (19998 : Nat) = 19997 + 1 from rfl, e221_59, ic_t hF.ne.2]
    exact Hm_some (by rw [if_neg (by omega), en]; exact ⟨rfl, rfl⟩)
theorem sp221f {e : Nat} {p q : Int32} (h : TFa e M) : evD (d + 4) 221 [vR 12 0 253, vI p, vI q] M = some (some (vI 0), M) := by
  rw [e221, ic_f h.ne.1, lp0_eq, show (20000 : Nat) = 19999 + 1 from rfl, e221_19, ic_t h.ne.2, show (19999 : Nat) = 19998 + 1 from rfl, e221_38, ic_f h.ne.1, show (19998 : Nat) = 19997 + 1 from rfl, e221_59, ic_t h.ne.2]
theorem namO_k {m : Nat} {f : Nat → List Nat} (h : namO tp Tn n m f = 0) : kS tp Tn n ≠ 0 := by
  unfold namO at h
  by_cases hy : isNN tp Tn n = true
  · exact isNN_k hy
  · rw [if_neg hy] at h; omega
theorem namO_le {m : Nat} {f : Nat → List Nat} : namO tp Tn n m f ≤ 2 := by unfold namO; split; split <;> omega; omega
theorem sp220 {p : Int32} {kn q : Nat} {E : Int32} (hE : E = Int32.ofNat (20 * q)) (hq : q < 3) (hs : SG tp Tn) (hN : NOk c nm) (hT : NTp p c nm kn M) (hW : WT33 M) (h : TB tp Tn n M) : Hm (evD (d + 5) 220 [vR 12 0 253, vI p, vI E] M) (fun r M' => Fr R78 M M' ∧ if namO tp Tn n (c q) (nm q) = 0 then r = some (vI (Int32.ofNat (fnd (nm q) (kW tp Tn n) (c q)))) ∧ TB tp Tn (n + 1) M' else r = some (vI 0) ∧ TFa (flt tp Tn (namO tp Tn n (c q) (nm q)) n) M') := by
  rw [e220]
  have hle := namO_le (tp := tp) (Tn := Tn) (n := n) (m := c q) (f := nm q)
  by_cases c0 : namO tp Tn n (c q) (nm q) = 0
  · refine Hm_cIv (v := Int32.ofNat (fnd (nm q) (kW tp Tn n) (c q))) (P := fun M' => M' = M) (Hm_mono (sp221 hE hq hs hN hT hW h) (fun r M' z => by rw [if_pos c0] at z; exact z)) (fun M1 h1 => ?_)
    subst h1
    rw [h.2.2.2, ic_f n0, h.2.2.1, i_addl]
    exact Hm_some ⟨Fr.rf.sI (by unfold R78; omega), by rw [if_pos c0]; exact ⟨rfl, h.s (namO_k c0)⟩⟩
  · refine Hm_cIv (v := 0) (P := fun M' => M' = sI M 253 8 (Int32.ofNat (flt tp Tn (namO tp Tn n (c q) (nm q)) n))) (Hm_mono (sp221 hE hq hs hN hT hW h) (fun r M' z => by rw [if_neg c0] at z; exact z)) (fun M1 h1 => ?_)
    subst h1
    have hF := TB.f (M := M) (n := n) hs (e := namO tp Tn n (c q) (nm q)) (by omega) (by omega)
    rw [ic_t hF.ne.2, Int32.add_zero, sI_id]
    exact Hm_some ⟨Fr.rf.sI (by unfold R78; omega), by rw [if_neg c0]; exact ⟨rfl, hF⟩⟩
theorem sp220f {e : Nat} {p q : Int32} (h : TFa e M) : evD (d + 5) 220 [vR 12 0 253, vI p, vI q] M = some (some (vI 0), M) := by
  rw [e220, sp221f h, cIn_s, ic_t h.ne.2, Int32.add_zero, sI_id]
end RNAME
