/-! TOKENS of the class: the next one, words, names -/
section CTOK2
variable {tp : Nat → Int32} {Tn d p k : Nat} {M M' : Mem}
def strN (i j : Nat) : Nat := (strB i j).toNatClampNeg
theorem str_ok : ∀ i, i < 35 → ∀ j, j < strL i → strB i j = Int32.ofNat (strN i j) ∧ strN i j < 128 := by
  have : ∀ i : Fin 35, ∀ j, j < strL i.1 → strB i.1 j = Int32.ofNat (strN i.1 j) ∧ strN i.1 j < 128 := by decide +kernel
  intro i hi; exact this ⟨i, hi⟩
theorem strL_le {i : Nat} (h : i < 35) : strL i ≤ 200 := by
  have : ∀ i : Fin 35, strL i.1 ≤ 200 := by decide +kernel
  exact this ⟨i, h⟩
theorem i8 {c : Nat} (h : c ≤ 126) : (Int32.ofNat c).toInt8.toInt32 = Int32.ofNat c := by
  have : ∀ c : Fin 127, (Int32.ofNat c.1).toInt8.toInt32 = Int32.ofNat c.1 := by decide +kernel
  exact this ⟨c, by omega⟩
theorem sg_iff {c : Nat} (h : c ≤ 126) : isSg c = true ↔ ∃ i, i < 8 ∧ strB 0 i = Int32.ofNat c := by
  have : ∀ c : Fin 127, isSg c.1 = true ↔ ∃ i : Fin 8, strB 0 i.1 = Int32.ofNat c.1 := by decide +kernel
  have := this ⟨c, by omega⟩
  rw [this]
  exact ⟨fun ⟨i, hi⟩ => ⟨i.1, i.2, hi⟩, fun ⟨i, h8, hi⟩ => ⟨⟨i, h8⟩, hi⟩⟩
theorem x00 {x : Int32} : x >>> ((0 : Int32) &&& 31) = x := by
  have e : (0 : Int32) &&& 31 = 0 := by decide
  rw [e]
  rw [← Int32.toBitVec_inj, Int32.toBitVec_shiftRight]
  show x.toBitVec.sshiftRight' _ = _
  rw [BitVec.sshiftRight_eq']
  show x.toBitVec.sshiftRight 0 = _
  simp
theorem sp17 {is : Nat} : evD (d + 2) 17 [vR 40 is (SB + is)] M = some (some (vI (Int32.ofNat (strL is))), M) := by
  simp only [e17, e18, show ((1 : Int32) = 0) = False by decide, ic_false, cIn_s, x00]
theorem sp16 {is : Nat} : evD (d + 1) 16 [vR 40 is (SB + is)] M = some (some (vI 1), M) := by
  simp only [e16, show ((1 : Int32) = 0) = False by decide, show ((0 : Int32) = 0) = True by decide, ic_false, ic_true]
theorem sp14 {c : Nat} (hc : c ≤ 126) : Hm (evD (d + 6) 14 [vR 40 0 (SB + 0), vI (Int32.ofNat c)] M) (fun r M' => ∃ v, r = some (vI v) ∧ (v < 0 ↔ isSg c = false) ∧ M' = M) := by
  have l8 : strL 0 = 8 := by decide
  have h20 : evD (d + 3) 20 [vI (Int32.ofNat c)] M = some (some (vI 1), M) := by
    rw [e20, ic_f (i_neg (by omega)), ic_f (by rw [show (255 : Int32) = Int32.ofNat 255 from rfl, i_lt (by omega) (by omega)]; omega)]
  have h23 : Hm (evD (d + 3) 23 [vR 41 (strL 0) (SV + 0), vI (Int32.ofNat c), vI 0, vI (Int32.ofNat 8)] M) (fun r M' => ∃ v, r = some (vI v) ∧ (v < 0 ↔ isSg c = false) ∧ M' = M) := by
    rw [e23, lp0_eq, i8 hc]
    refine lp_for (d := d + 2) (x := 23) (pc := 7) 8 1 0 (by omega) (fun i lv M1 => lv = [some (vR 41 (strL 0) (SV + 0)), some (vI (Int32.ofNat c)), some (vI 0), some (vI (Int32.ofNat 8)), some (vI (Int32.ofNat c)), some (vI (Int32.ofNat i))] ∧ M1 = M ∧ ∀ j, j < i → strB 0 j ≠ Int32.ofNat c) ?_ ?_ 8 0 (by omega) 20000 _ _ (by omega) ⟨rfl, rfl, fun j hj => by omega⟩
    · rintro i hi G lv M1 - ⟨rfl, rfl, hne⟩ z
      rw [e23_7, i_lt (by omega) (by omega), ic_t hi, l8, ck hi (by omega), i_nat (by omega), show SV + 0 - SV = 0 by omega]
      by_cases he : strB 0 i = Int32.ofNat c
      · rw [ic_t he]
        refine Hm_some ⟨_, rfl, ?_, rfl⟩
        have : isSg c = true := (sg_iff hc).mpr ⟨i, hi, he⟩
        rw [this]
        exact ⟨fun h => absurd h (i_neg (by omega)), fun h => absurd h (by decide)⟩
      · rw [ic_f he, i_addl]
        refine z _ _ _ (by omega) ⟨by rw [l8], rfl, fun j hj => ?_⟩
        by_cases y : j = i
        · subst y; exact he
        · exact hne j (by omega)
    · rintro G lv M1 - ⟨rfl, rfl, hne⟩
      rw [e23_7, i_lt (by omega) (by omega), ic_f (by omega)]
      refine Hm_some ⟨_, rfl, ?_, rfl⟩
      have : isSg c = false := by
        cases h : isSg c
        · rfl
        · obtain ⟨i, hi, he⟩ := (sg_iff hc).mp h
          exact absurd he (hne i hi)
      rw [this]; exact ⟨fun _ => rfl, fun _ => by decide⟩
  have h19 : Hm (evD (d + 4) 19 [vR 41 (strL 0) (SV + 0), vI (Int32.ofNat c), vI 0, vI (Int32.ofNat 8)] M) (fun r M' => ∃ v, r = some (vI v) ∧ (v < 0 ↔ isSg c = false) ∧ M' = M) := by
    have a1 : imax 0 0 = 0 := by decide
    have a2 : imin (Int32.ofNat 8) (Int32.ofNat (strL 0)) = Int32.ofNat 8 := by rw [l8]; decide
    simp only [e19, h20, sp21, sp22, cIn_s, a1, a2, show ((1 : Int32) = 0) = False by decide, show ((0 : Int32) < Int32.ofNat 8) = True by decide, ic_false, ic_true]
    refine Hm_cIn h23 (fun a M1 h => ?_)
    obtain ⟨v, rfl, h1, rfl⟩ := h
    exact ⟨v, rfl, Hm_some ⟨v, rfl, h1, rfl⟩⟩
  have h15 : Hm (evD (d + 5) 15 [vR 40 0 (SB + 0), vI (Int32.ofNat c), vI 0] M) (fun r M' => ∃ v, r = some (vI v) ∧ (v < 0 ↔ isSg c = false) ∧ M' = M) := by
    simp only [e15, sp16, sp17, cIn_s, show ((1 : Int32) = 0) = False by decide, ic_false, l8] at h19 ⊢
    refine Hm_cIn h19 (fun a M1 h => ?_)
    obtain ⟨v, rfl, h1, rfl⟩ := h
    exact ⟨v, rfl, Hm_some ⟨v, rfl, h1, rfl⟩⟩
  rw [e14]
  refine Hm_cIn h15 (fun a M1 h => ?_)
  obtain ⟨v, rfl, h1, rfl⟩ := h
  exact ⟨v, rfl, Hm_some ⟨v, rfl, h1, rfl⟩⟩
/-- the token at p is looked at -/
theorem sp11p (hs : SG tp Tn) (hT : TC Tn tp M) (hp : p ≤ Tn) (hb : ¬ (p < Tn ∧ isBl (ch tp p) = true)) (h7 : M.1 1 7 = Int32.ofNat p) {F : Nat} : Hm (lp (d + 6) 11 (F + 4) 52 [some (vR 7 0 1)] M) (fun r M' => r = none ∧ TAp tp Tn p M' ∧ Fr TW M M') := by
  have h1000 := hs.1
  have f1 : Fr TW M (sI M 1 6 (M.1 1 7)) := Fr.rf.sI (by unfold TW; omega)
  have q7 : (sI M 1 6 (M.1 1 7)).1 1 7 = Int32.ofNat p := by rw [sI_ne (by omega)]; exact h7
  have q6 : (sI M 1 6 (M.1 1 7)).1 1 6 = Int32.ofNat p := by rw [sI_eq]; exact h7
  have hT1 := hT.tw f1
  rw [e11_52, q7, hT1.1, i_lt (by omega) (by omega)]
  generalize hM1 : sI M 1 6 (M.1 1 7) = M1 at *
  by_cases hE : p < Tn
  · rw [ic_t hE, ck (show p < 1000 by omega) (by omega), i_nat (by omega), chI hs hT1 hE]
    have h126 := (hs.2 _ hE).2
    have hbl : ¬ isBl (ch tp p) = true := fun h => hb ⟨hE, h⟩
    rw [isBl_iff] at hbl
    by_cases hl : isLt (ch tp p) = true
    · have hc := isLt_iff.mp hl
      rw [ic_f (by rw [show (97 : Int32) = Int32.ofNat 97 from rfl, i_lt (by omega) (by omega)]; omega), ckn (show p < 1000 by omega) (by omega), ic_f (by rw [show (122 : Int32) = Int32.ofNat 122 from rfl, i_lt (by omega) (by omega)]; omega)]
      refine Hm_cVv (sp12 hs hT1 hE hl q6 q7) (fun M2 h2 => ?_)
      obtain ⟨r5, r6, r7, r8, f2⟩ := h2
      have es : so tp Tn p = if 8 < te tp Tn p - p then 4 else 1 := by unfold so; rw [if_pos hE, if_pos hl]
      refine Hm_some ⟨rfl, ⟨hT1.tw f2, ?_, r6, r7, fun _ => r8, fun h => ?_⟩, f1.tr f2⟩
      · rw [r5, es]; split <;> rfl
      · rw [es] at h; split at h <;> omega
    · have goto114 : Hm (lp (d + 6) 11 (F + 3) 114 [some (vR 7 0 1)] M1) (fun r M' => r = none ∧ TAp tp Tn p M' ∧ Fr TW M M') := by
        rw [e11_114, q7, ck (show p < 1000 by omega) (by omega), i_nat (by omega), chI hs hT1 hE]
        by_cases hd : isDg (ch tp p) = true
        · have hc := isDg_iff.mp hd
          rw [ic_f (by rw [show (48 : Int32) = Int32.ofNat 48 from rfl, i_lt (by omega) (by omega)]; omega), ckn (show p < 1000 by omega) (by omega), ic_f (by rw [show (57 : Int32) = Int32.ofNat 57 from rfl, i_lt (by omega) (by omega)]; omega)]
          refine Hm_cVv (sp13 hs hT1 hE hl hd q6 q7) (fun M2 h2 => ?_)
          obtain ⟨r5, r6, r7, r8, f2⟩ := h2
          have es : so tp Tn p = if 4 < te tp Tn p - p then 4 else 2 := by unfold so; rw [if_pos hE, if_neg hl, if_pos hd]
          refine Hm_some ⟨rfl, ⟨hT1.tw f2, ?_, r6, r7, fun h => ?_, fun _ => r8⟩, f1.tr f2⟩
          · rw [r5, es]; split <;> rfl
          · rw [es] at h; split at h <;> omega
        · have es : so tp Tn p = if isSg (ch tp p) = true then 3 else 4 := by unfold so; rw [if_pos hE, if_neg hl, if_neg hd]
          have et : te tp Tn p = p + 1 := by unfold te; rw [if_pos hE, if_neg hl, if_neg hd]
          have goto149 : Hm (lp (d + 6) 11 (F + 2) 149 [some (vR 7 0 1)] M1) (fun r M' => r = none ∧ TAp tp Tn p M' ∧ Fr TW M M') := by
            rw [e11_149, q7, ck (show p < 1000 by omega) (by omega), i_nat (by omega), chI hs hT1 hE]
            refine Hm_cIn (sp14 h126) (fun a M2 h2 => ?_)
            obtain ⟨v, rfl, hv, rfl⟩ := h2
            refine ⟨v, rfl, ?_⟩
            by_cases hsg : isSg (ch tp p) = true
            · rw [ic_f (fun h => by rw [hv.mp h] at hsg; exact absurd hsg (by decide)), e11_175]
              refine Hm_some ⟨rfl, ⟨hT1.tw (M' := sI (sI M2 1 5 3) 1 7 ((sI M2 1 5 3).1 1 7 + 1)) ((Fr.rf.sI (by unfold TW; omega)).sI (by unfold TW; omega)), ?_, ?_, ?_, fun h => ?_, fun h => ?_⟩, (f1.sI (by unfold TW; omega)).sI (by unfold TW; omega)⟩
              · rw [sI_ne (by omega), sI_eq, es, if_pos hsg]; rfl
              · rw [sI_ne (by omega), sI_ne (by omega)]; exact q6
              · rw [sI_eq, sI_ne (by omega), q7, et, i_addl]
              · rw [es, if_pos hsg] at h; omega
              · rw [es, if_pos hsg] at h; omega
            · rw [ic_t (hv.mpr (nf hsg)), e11_175]
              refine Hm_some ⟨rfl, ⟨hT1.tw (M' := sI (sI M2 1 5 0) 1 7 ((sI M2 1 5 0).1 1 7 + 1)) ((Fr.rf.sI (by unfold TW; omega)).sI (by unfold TW; omega)), ?_, ?_, ?_, fun h => ?_, fun h => ?_⟩, (f1.sI (by unfold TW; omega)).sI (by unfold TW; omega)⟩
              · rw [sI_ne (by omega), sI_eq, es, if_neg hsg]; rfl
              · rw [sI_ne (by omega), sI_ne (by omega)]; exact q6
              · rw [sI_eq, sI_ne (by omega), q7, et, i_addl]
              · rw [es, if_neg hsg] at h; omega
              · rw [es, if_neg hsg] at h; omega
          rw [isDg_iff] at hd
          by_cases c1 : ch tp p < 48
          · rw [ic_t (by rw [show (48 : Int32) = Int32.ofNat 48 from rfl, i_lt (by omega) (by omega)]; exact c1)]; exact goto149
          · rw [ic_f (by rw [show (48 : Int32) = Int32.ofNat 48 from rfl, i_lt (by omega) (by omega)]; exact c1), ckn (show p < 1000 by omega) (by omega), ic_t (by rw [show (57 : Int32) = Int32.ofNat 57 from rfl, i_lt (by omega) (by omega)]; omega)]; exact goto149
      have hl' := hl
      rw [isLt_iff] at hl'
      by_cases c1 : ch tp p < 97
      · rw [ic_t (by rw [show (97 : Int32) = Int32.ofNat 97 from rfl, i_lt (by omega) (by omega)]; exact c1)]; exact goto114
      · rw [ic_f (by rw [show (97 : Int32) = Int32.ofNat 97 from rfl, i_lt (by omega) (by omega)]; exact c1), ckn (show p < 1000 by omega) (by omega), ic_t (by rw [show (122 : Int32) = Int32.ofNat 122 from rfl, i_lt (by omega) (by omega)]; omega)]; exact goto114
  · rw [ic_f hE]
    have es : so tp Tn p = 0 := so_0.mpr hE
    have et : te tp Tn p = p := by unfold te; rw [if_neg hE]
    refine Hm_some ⟨rfl, ⟨hT1.tw (M' := sI M1 1 5 4) (Fr.rf.sI (by unfold TW; omega)), ?_, ?_, ?_, fun h => ?_, fun h => ?_⟩, f1.sI (by unfold TW; omega)⟩
    · rw [sI_eq, es]; rfl
    · rw [sI_ne (by omega)]; exact q6
    · rw [sI_ne (by omega), et]; exact q7
    · rw [es] at h; omega
    · rw [es] at h; omega
/-- the next token -/
theorem sp11 (hs : SG tp Tn) (hT : TC Tn tp M) (hk : k ≤ Tn) (h7 : M.1 1 7 = Int32.ofNat k) : Hm (evD (d + 7) 11 [vR 7 0 1] M) (fun r M' => r = none ∧ TAp tp Tn (skp tp Tn k) M' ∧ Fr TW M M') := by
  have h1000 := hs.1
  have hge : k ≤ skp tp Tn k := tkr_ge
  have hle : skp tp Tn k ≤ Tn := tkr_le hk
  have hend : ¬ (skp tp Tn k < Tn ∧ isBl (ch tp (skp tp Tn k)) = true) := tkr_end _ k rfl
  rw [e11, lp0_eq]
  refine lp_for (d := d + 6) (x := 11) (pc := 0) (skp tp Tn k - k) 2 4 (by omega) (fun i lv M1 => lv = [some (vR 7 0 1)] ∧ M1.1 1 7 = Int32.ofNat (k + i) ∧ Fr TW M M1) ?_ ?_ (skp tp Tn k - k) 0 (by omega) 20000 _ _ (by omega) ⟨rfl, h7, Fr.rf⟩
  · rintro i hi G lv M1 - ⟨rfl, q7, hf⟩ z
    have hin := tkr_in (tp := tp) (Tn := Tn) (P := isBl) (k := k) (i := k + i) (by omega) (by have : skp tp Tn k = tkr tp Tn isBl k := rfl; omega)
    have hT1 := hT.tw hf
    have hc := isBl_iff.mp hin.2
    have next : Hm (lp (d + 6) 11 (G + 1) 39 [some (vR 7 0 1)] M1) (fun r M' => r = none ∧ TAp tp Tn (skp tp Tn k) M' ∧ Fr TW M M') := by
      rw [e11_39]
      exact z _ _ _ (by omega) ⟨rfl, by rw [sI_eq, q7, i_addl]; rfl, hf.sI (by unfold TW; omega)⟩
    rw [e11_0, q7, hT1.1, i_lt (by omega) (by omega), ic_t hin.1, ck (show k + i < 1000 by omega) (by omega), i_nat (by omega), chI hs hT1 hin.1]
    by_cases c10 : ch tp (k + i) = 10
    · rw [ic_t (by rw [c10]; rfl)]; exact next
    · rw [ic_f (by rw [show (10 : Int32) = Int32.ofNat 10 from rfl, i_eq (by omega) (by omega)]; exact c10), ckn (show k + i < 1000 by omega) (by omega), ic_t (by rw [show (32 : Int32) = Int32.ofNat 32 from rfl, i_eq (by omega) (by omega)]; omega)]
      exact next
  · rintro G lv M1 hG ⟨rfl, q7, hf⟩
    rw [show k + (skp tp Tn k - k) = skp tp Tn k by omega] at q7
    have hT1 := hT.tw hf
    obtain ⟨G', rfl⟩ : ∃ G', G = G' + 4 := ⟨G - 4, by omega⟩
    have fin : Hm (lp (d + 6) 11 (G' + 4 + 1) 52 [some (vR 7 0 1)] M1) (fun r M' => r = none ∧ TAp tp Tn (skp tp Tn k) M' ∧ Fr TW M M') :=
      Hm_mono (sp11p (d := d) (F := G' + 1) hs hT1 hle hend q7) (fun r M2 h => ⟨h.1, h.2.1, hf.tr h.2.2⟩)
    rw [e11_0, q7, hT1.1, i_lt (by omega) (by omega)]
    by_cases hE : skp tp Tn k < Tn
    · rw [ic_t hE, ck (show skp tp Tn k < 1000 by omega) (by omega), i_nat (by omega), chI hs hT1 hE]
      have hbl : ¬ isBl (ch tp (skp tp Tn k)) = true := fun h => hend ⟨hE, h⟩
      rw [isBl_iff] at hbl
      have h126 := (hs.2 _ hE).2
      rw [ic_f (by rw [show (10 : Int32) = Int32.ofNat 10 from rfl, i_eq (by omega) (by omega)]; omega), ckn (show skp tp Tn k < 1000 by omega) (by omega), ic_f (by rw [show (32 : Int32) = Int32.ofNat 32 from rfl, i_eq (by omega) (by omega)]; omega)]
      exact fin
    · rw [ic_f hE]; exact fin
end CTOK2
