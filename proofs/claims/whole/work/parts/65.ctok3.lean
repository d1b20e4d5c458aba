/-! TOKENS of the class by their number: signs, words, names, numbers, faults -/
section CTOK3
variable {tp : Nat → Int32} {Tn d n : Nat} {M M' : Mem}
def kS (tp : Nat → Int32) (Tn n : Nat) : Nat := so tp Tn (tP tp Tn n)
def kW (tp : Nat → Int32) (Tn n : Nat) : List Nat := wd tp Tn (tP tp Tn n)
def kV (tp : Nat → Int32) (Tn n : Nat) : Nat := nbv tp Tn (tP tp Tn n)
def kC (tp : Nat → Int32) (Tn n : Nat) : Nat := ch tp (tP tp Tn n)
def stW (i : Nat) : List Nat := (List.range (strL i)).map (fun j => strN i j - 96)
def isWN (tp : Nat → Int32) (Tn n : Nat) (w : List Nat) : Bool := decide (kS tp Tn n = 1 ∧ kW tp Tn n = w)
def isSN (tp : Nat → Int32) (Tn n c : Nat) : Bool := decide (kS tp Tn n = 3 ∧ kC tp Tn n = c)
/-- the words in the reference's order: which String of the class each is -/
def kwi : List Nat := [1, 3, 4, 7, 8, 13, 14, 15, 16, 17, 18, 19, 20, 29, 30, 31, 32, 33, 34, 6, 5, 9, 10, 11, 12, 21, 27, 28, 22, 24, 25, 23, 26]
def kwd (w : Nat) : List Nat := stW (kwi.getD w 0)
noncomputable def isNN (tp : Nat → Int32) (Tn n : Nat) : Bool := @decide (kS tp Tn n = 1 ∧ ∀ w, w < 28 → kW tp Tn n ≠ kwd w) (Classical.propDecidable _)
theorem isNN_t (h : kS tp Tn n = 1 ∧ ∀ w, w < 28 → kW tp Tn n ≠ kwd w) : isNN tp Tn n = true := @decide_eq_true _ (Classical.propDecidable _) h
theorem isNN_f (h : ¬ (kS tp Tn n = 1 ∧ ∀ w, w < 28 → kW tp Tn n ≠ kwd w)) : isNN tp Tn n = false := @decide_eq_false _ (Classical.propDecidable _) h
theorem isNN_o (h : isNN tp Tn n = true) : kS tp Tn n = 1 ∧ ∀ w, w < 28 → kW tp Tn n ≠ kwd w := @of_decide_eq_true _ (Classical.propDecidable _) h
def flt (tp : Nat → Int32) (Tn e n : Nat) : Nat := e + 16 * tP tp Tn n
def TA (tp : Nat → Int32) (Tn n : Nat) (M : Mem) : Prop := TAp tp Tn (tP tp Tn n) M
def TV (c j : Nat) : Prop := c = 1 ∧ 1 ≤ j
theorem TW_TV (h : Fr TW M M') : Fr TV M M' := h.up (fun c j h => by unfold TW at h; unfold TV; omega)
theorem TA.fr {W : Nat → Nat → Prop} (h : TA tp Tn n M) (hf : Fr W M M') (hw : ∀ c j, (c = 1 ∧ j ≠ 1 ∧ j ≠ 3) ∨ c = 2 → ¬ W c j) : TA tp Tn n M' := by
  obtain ⟨h1, h2, h3, h4, h5, h6⟩ := h
  have hi : ∀ j, j ≠ 1 → j ≠ 3 → M'.1 1 j = M.1 1 j := fun j a b => hf.i (hw 1 j (by omega))
  refine ⟨⟨(hi 0 (by omega) (by omega)).trans h1.1, fun i hi' => (hf.i (hw 2 i (by omega))).trans (h1.2 i hi')⟩, (hi 5 (by omega) (by omega)).trans h2, (hi 6 (by omega) (by omega)).trans h3, (hi 7 (by omega) (by omega)).trans h4, fun h => (hf.j (hw 1 8 (by omega))).trans (h5 h), fun h => (hi 2 (by omega) (by omega)).trans (h6 h)⟩
theorem sp11n (hs : SG tp Tn) (h : TA tp Tn n M) : Hm (evD (d + 7) 11 [vR 7 0 1] M) (fun r M' => r = none ∧ TA tp Tn (n + 1) M' ∧ Fr TV M M') :=
  Hm_mono (sp11 hs h.1 (te_le (tP_le n)) h.2.2.2.1) (fun r M' z => ⟨z.1, z.2.1, TW_TV z.2.2⟩)
theorem sp10 (hs : SG tp Tn) (hT : TC Tn tp M) : Hm (evD (d + 8) 10 [vR 7 0 1] M) (fun r M' => r = none ∧ TA tp Tn 0 M' ∧ Fr TV M M') := by
  rw [e10]
  have f1 : Fr TW M (sI M 1 7 0) := Fr.rf.sI (by unfold TW; omega)
  refine Hm_cVv (sp11 (k := 0) hs (hT.tw f1) (by omega) (by rw [sI_eq]; rfl)) (fun M1 h1 => ?_)
  exact Hm_some ⟨rfl, h1.1, TW_TV (f1.tr h1.2)⟩
theorem kd_eq {s : Nat} (h : s ≤ 4) : kd s ≤ 4 ∧ (kd s = 1 ↔ s = 1) ∧ (kd s = 2 ↔ s = 2) ∧ (kd s = 3 ↔ s = 3) ∧ (kd s = 4 ↔ s = 0) := by
  unfold kd; split
  · omega
  · split <;> omega
theorem TA.k (h : TA tp Tn n M) : (M.1 1 5 = 1) = (kS tp Tn n = 1) ∧ (M.1 1 5 = 2) = (kS tp Tn n = 2) ∧ (M.1 1 5 = 3) = (kS tp Tn n = 3) ∧ (M.1 1 5 = 4) = (kS tp Tn n = 0) := by
  have := kd_eq (s := kS tp Tn n) so_le
  rw [h.2.1]
  show (Int32.ofNat (kd (kS tp Tn n)) = 1) = _ ∧ (Int32.ofNat (kd (kS tp Tn n)) = 2) = _ ∧ (Int32.ofNat (kd (kS tp Tn n)) = 3) = _ ∧ (Int32.ofNat (kd (kS tp Tn n)) = 4) = _
  refine ⟨?_, ?_, ?_, ?_⟩
  · rw [show (1 : Int32) = Int32.ofNat 1 from rfl, i_eq (by omega) (by omega)]; exact propext this.2.1
  · rw [show (2 : Int32) = Int32.ofNat 2 from rfl, i_eq (by omega) (by omega)]; exact propext this.2.2.1
  · rw [show (3 : Int32) = Int32.ofNat 3 from rfl, i_eq (by omega) (by omega)]; exact propext this.2.2.2.1
  · rw [show (4 : Int32) = Int32.ofNat 4 from rfl, i_eq (by omega) (by omega)]; exact propext this.2.2.2.2
theorem sp33 (h : TA tp Tn n M) : evD (d + 1) 33 [vR 7 0 1] M = some (some (vI (b2 (decide (kS tp Tn n = 0)))), M) := by
  rw [e33, h.k.2.2.2, ic_b2]
theorem sp67 (h : TA tp Tn n M) : evD (d + 1) 67 [vR 7 0 1] M = some (some (vI (b2 (decide (kS tp Tn n = 2)))), M) := by
  rw [e67, h.k.2.1, ic_b2]
theorem sp45 {e : Nat} (h : TA tp Tn n M) : evD (d + 1) 45 [vR 7 0 1, vI (Int32.ofNat e)] M = some (some (vI 0), sI M 1 1 (Int32.ofNat (flt tp Tn e n))) := by
  rw [e45, h.2.2.1, i_mulr, i_add]; rfl
theorem kS_lt (h : kS tp Tn n ≠ 0) : tP tp Tn n < Tn := by
  by_cases z : tP tp Tn n < Tn
  · exact z
  · exact absurd (so_0.mpr z) h
theorem sp55 {c : Nat} (hs : SG tp Tn) (hc : c < 1000) (h : TA tp Tn n M) : evD (d + 1) 55 [vR 7 0 1, vI (Int32.ofNat c)] M = some (some (vI (b2 (isSN tp Tn n c))), M) := by
  have h1000 := hs.1
  rw [e55, h.k.2.2.1]
  by_cases h3 : kS tp Tn n = 3
  · have hp : tP tp Tn n < Tn := kS_lt (by omega)
    have h126 := (hs.2 _ hp).2
    rw [ic_t h3, h.2.2.1, h.1.1, i_lt (by omega) (by omega), ic_t hp, ck (show tP tp Tn n < 1000 by omega) (by omega), i_nat (by omega), chI hs h.1 hp, i_eq (by omega) (by omega), ic_b2]
    unfold isSN kC
    simp only [h3, true_and]
  · rw [ic_f h3]
    unfold isSN
    simp [h3, b2]
/-- a character of a String -/
theorem sp36 {is j : Nat} (hi : is < 35) (hj : j < strL is) : evD (d + 4) 36 [vR 40 is (SB + is), vI (Int32.ofNat j)] M = some (some (vI (Int32.ofNat (strN is j))), M) := by
  obtain ⟨e, hlt⟩ := str_ok is hi j hj
  have hL := strL_le hi
  have cc : ∀ x : Fin 128, (((Int32.ofNat x.1) &&& 255).toUInt32 % 65536).toInt32 = Int32.ofNat x.1 ∧ vp_nar .char (Int32.ofNat x.1) = Int32.ofNat x.1 := by decide +kernel
  have cc := cc ⟨strN is j, hlt⟩
  have h38 : evD (d + 2) 38 [vI (Int32.ofNat j), vI (Int32.ofNat (strL is))] M = some (none, M) := by
    rw [e38, e39, ic_f (i_neg (by omega)), i_lt (by omega) (by omega), ic_t hj, cIn_s]
  have h37 : evD (d + 3) 37 [vR 41 (strL is) (SV + is), vI (Int32.ofNat j)] M = some (some (vI (Int32.ofNat (strN is j))), M) := by
    rw [e37, h38, cVd_s, ck hj (by omega), i_nat (by omega), show SV + is - SV = is by omega, e, cc.1, ic_t cc.2]
  rw [e36, sp16, cIn_s, ic_f (by decide), h37, cIn_s, ic_t cc.2]
theorem stW_len {i : Nat} : (stW i).length = strL i := by unfold stW; simp
/-- a String of letters -/
theorem str_lt : ∀ i, i < 35 → i ≠ 0 → i ≠ 2 → ∀ j, j < strL i → 97 ≤ strN i j ∧ strN i j ≤ 122 := by
  have : ∀ i : Fin 35, i.1 ≠ 0 → i.1 ≠ 2 → ∀ j, j < strL i.1 → 97 ≤ strN i.1 j ∧ strN i.1 j ≤ 122 := by decide +kernel
  intro i hi; exact this ⟨i, hi⟩
theorem kW_get (h : kS tp Tn n = 1) : (kW tp Tn n).length = te tp Tn (tP tp Tn n) - tP tp Tn n ∧ ∀ j, j < te tp Tn (tP tp Tn n) - tP tp Tn n → (kW tp Tn n).getD j 0 = ch tp (tP tp Tn n + j) - 96 ∧ isLt (ch tp (tP tp Tn n + j)) = true ∧ tP tp Tn n + j < Tn := by
  have hp : tP tp Tn n < Tn := kS_lt (by omega)
  have hl : isLt (ch tp (tP tp Tn n)) = true := by
    have h : so tp Tn (tP tp Tn n) = 1 := h
    by_cases hl : isLt (ch tp (tP tp Tn n)) = true
    · exact hl
    · exfalso
      unfold so at h
      rw [if_pos hp, if_neg hl] at h
      split at h
      · split at h <;> omega
      · split at h <;> omega
  have ht : te tp Tn (tP tp Tn n) = tkr tp Tn isLt (tP tp Tn n) := by unfold te; rw [if_pos hp, if_pos hl]
  refine ⟨lts_len, fun j hj => ?_⟩
  have hin := tkr_in (tp := tp) (Tn := Tn) (P := isLt) (k := tP tp Tn n) (i := tP tp Tn n + j) (by omega) (by omega)
  refine ⟨?_, hin.2, hin.1⟩
  unfold kW wd lts
  rw [List.getD_eq_getElem?_getD, List.getElem?_map, List.getElem?_range hj]
  rfl
theorem sp35 {is : Nat} (hs : SG tp Tn) (hi : is < 35) (h0 : is ≠ 0) (h2 : is ≠ 2) (h : TA tp Tn n M) : evD (d + 5) 35 [vR 7 0 1, vR 40 is (SB + is)] M = some (some (vI (b2 (isWN tp Tn n (stW is)))), M) := by
  have h1000 := hs.1
  have hL := strL_le hi
  rw [e35, sp17, cIn_s, h.k.1]
  by_cases h1 : kS tp Tn n = 1
  · have hp : tP tp Tn n < Tn := kS_lt (by omega)
    have hge := te_gt (tp := tp) hp
    have hle := te_le (tp := tp) (Tn := Tn) (p := tP tp Tn n) (by omega)
    obtain ⟨hwl, hwg⟩ := kW_get h1
    rw [ic_t h1, h.2.2.1, h.2.2.2.1, i_sub (by omega), i_eq (by omega) (by omega)]
    by_cases hl : te tp Tn (tP tp Tn n) - tP tp Tn n = strL is
    · rw [ic_t hl, h.1.1, i_lt (by omega) (by omega), ic_f (by omega), lp0_eq]
      have key : Hm (lp (d + 4) 35 20000 41 [some (vR 7 0 1), some (vR 40 is (SB + is)), some (vI (Int32.ofNat (strL is))), some (vI 0)] M) (fun r M' => r = some (vI (b2 (isWN tp Tn n (stW is)))) ∧ M' = M) := by
        refine lp_for (d := d + 4) (x := 35) (pc := 41) (strL is) 1 0 (by omega) (fun i lv M1 => lv = [some (vR 7 0 1), some (vR 40 is (SB + is)), some (vI (Int32.ofNat (strL is))), some (vI (Int32.ofNat i))] ∧ M1 = M ∧ ∀ j, j < i → (kW tp Tn n).getD j 0 = (stW is).getD j 0) ?_ ?_ (strL is) 0 (by omega) 20000 _ _ (by omega) ⟨rfl, rfl, fun j hj => by omega⟩
        · rintro i hi' G lv M1 - ⟨rfl, rfl, hq⟩ z
          obtain ⟨w1, w2, w3⟩ := hwg i (by omega)
          have hc := isLt_iff.mp w2
          have hst := str_lt is hi h0 h2 i hi'
          have e2 : (stW is).getD i 0 = strN is i - 96 := by
            unfold stW
            rw [List.getD_eq_getElem?_getD, List.getElem?_map, List.getElem?_range hi']; rfl
          rw [e35_41, i_lt (by omega) (by omega), ic_t hi', h.2.2.1, i_add, ck (show tP tp Tn n + i < 1000 by omega) (by omega), i_nat (by omega), sp36 hi hi', cIn_s, chI hs h.1 w3, i_eq (by omega) (by omega)]
          by_cases he : ch tp (tP tp Tn n + i) = strN is i
          · rw [ic_t he, i_addl]
            refine z _ _ _ (by omega) ⟨rfl, rfl, fun j hj => ?_⟩
            by_cases y : j = i
            · subst y; rw [w1, e2, he]
            · exact hq j (by omega)
          · rw [ic_f he]
            refine Hm_some ⟨?_, rfl⟩
            have : isWN tp Tn n (stW is) = false := by
              unfold isWN
              refine decide_eq_false (fun z => he ?_)
              have := congrArg (fun l => l.getD i 0) z.2
              simp only [w1, e2] at this
              omega
            rw [this]; rfl
        · rintro G lv M1 - ⟨rfl, rfl, hq⟩
          rw [e35_41, i_lt (by omega) (by omega), ic_f (by omega)]
          refine Hm_some ⟨?_, rfl⟩
          have : isWN tp Tn n (stW is) = true := by
            unfold isWN
            refine decide_eq_true ⟨h1, ?_⟩
            refine List.ext_getElem? (fun j => ?_)
            by_cases hj : j < strL is
            · have := hq j hj
              rw [List.getD_eq_getElem?_getD, List.getD_eq_getElem?_getD] at this
              rw [List.getElem?_eq_getElem (by omega)] at this ⊢
              rw [List.getElem?_eq_getElem (by rw [stW_len]; exact hj)] at this ⊢
              simp at this
              rw [this]
            · rw [List.getElem?_eq_none (by omega), List.getElem?_eq_none (by rw [stW_len]; omega)]
          rw [this]; rfl
      obtain ⟨a, M1, e1, e2, rfl⟩ := key
      rw [e1, e2]
    · rw [ic_f hl]
      have : isWN tp Tn n (stW is) = false := by
        unfold isWN
        refine decide_eq_false (fun z => hl ?_)
        have := congrArg List.length z.2
        rw [hwl, stW_len] at this
        exact this
      rw [this]; rfl
  · rw [ic_f h1]
    have : isWN tp Tn n (stW is) = false := by
      unfold isWN
      exact decide_eq_false (fun z => h1 z.1)
    rw [this]; rfl
/-- the reserved words, letter by letter -/
def rsv : Nat → List Nat
  | 0 => []
  | j + 1 => if strN 2 j = 32 then [] else rsv j ++ [strN 2 j - 96]
theorem rsv_ok : ∀ j, j < strL 2 → strN 2 j ≠ 32 → 97 ≤ strN 2 j ∧ strN 2 j ≤ 122 := by decide +kernel
theorem rsv_W : ∀ j, j < strL 2 → isW (rsv j) := by
  have : ∀ j, j < strL 2 → (rsv j).length ≤ 8 ∧ ∀ l ∈ rsv j, 1 ≤ l ∧ l ≤ 26 := by decide +kernel
  exact this
theorem rsv_all : ∀ w, w < 28 → ∃ j, j < strL 2 ∧ strN 2 j = 32 ∧ rsv j = kwd w := by
  have : ∀ w : Fin 28, ∃ j : Fin 200, j.1 < strL 2 ∧ strN 2 j.1 = 32 ∧ rsv j.1 = kwd w.1 := by decide +kernel
  intro w hw
  obtain ⟨j, h⟩ := this ⟨w, hw⟩
  exact ⟨j.1, h⟩
theorem rsv_only : ∀ j, j < strL 2 → strN 2 j = 32 → ∃ w, w < 28 ∧ rsv j = kwd w := by
  have : ∀ j, j < strL 2 → strN 2 j = 32 → ∃ w : Fin 28, rsv j = kwd w.1 := by decide +kernel
  intro j h1 h2
  obtain ⟨w, h⟩ := this j h1 h2
  exact ⟨w.1, w.2, h⟩
theorem lcmp0 {a b : Int64} : (lg_cmp a b = 0) = (a = b) := by
  unfold lg_cmp
  by_cases h : a = b
  · subst h
    rw [if_neg (by intro z; exact absurd z (Int64.lt_irrefl)), if_pos rfl]; simp
  · rw [if_neg h]
    split <;> simp [h]
theorem sp47 (hs : SG tp Tn) (h : TA tp Tn n M) : evD (d + 5) 47 [vR 7 0 1] M = some (some (vI (b2 (isNN tp Tn n))), M) := by
  have hL := strL_le (i := 2) (by omega)
  rw [e47, h.k.1]
  by_cases h1 : kS tp Tn n = 1
  · have hW : isW (kW tp Tn n) := wd_isW h1
    have h8 : M.2.1 1 8 = wc 32 (kW tp Tn n) := h.2.2.2.2.1 h1
    rw [ic_t h1, lp0_eq]
    have key : Hm (lp (d + 4) 47 20000 14 [some (vR 7 0 1), some (vJ 0), none, some (vI 0), none] M) (fun r M' => r = some (vI (b2 (isNN tp Tn n))) ∧ M' = M) := by
      refine lp_for (d := d + 4) (x := 47) (pc := 14) (strL 2) 1 0 (by omega) (fun i lv M1 => (∃ o, lv = [some (vR 7 0 1), some (vJ (wc 32 (rsv i))), none, some (vI (Int32.ofNat i)), o]) ∧ M1 = M ∧ ∀ j, j < i → strN 2 j = 32 → rsv j ≠ kW tp Tn n) ?_ ?_ (strL 2) 0 (by omega) 20000 _ _ (by omega) ⟨⟨none, rfl⟩, rfl, fun j hj => by omega⟩
      · rintro i hi G lv M1 - ⟨⟨o, rfl⟩, rfl, hq⟩ z
        have h128 := (str_ok 2 (by omega) i hi).2
        rw [e47_14, sp17, cIn_s, i_lt (by omega) (by omega), ic_t hi, sp36 (by omega) hi, cIn_s, show (32 : Int32) = Int32.ofNat 32 from rfl, i_eq (by omega) (by omega)]
        by_cases hb : strN 2 i = 32
        · rw [ic_t hb, lcmp0, h8]
          by_cases he : wc 32 (rsv i) = wc 32 (kW tp Tn n)
          · rw [ic_t he]
            refine Hm_some ⟨?_, rfl⟩
            have hew := wc_inj (b := 32) (.inl rfl) (rsv_W i hi) hW he
            obtain ⟨w, hw, e⟩ := rsv_only i hi hb
            have : isNN tp Tn n = false := by
              exact isNN_f (fun z => z.2 w hw (hew.symm.trans e))
            rw [this]; rfl
          · rw [ic_f he, i_addl]
            refine z _ _ _ (by omega) ⟨⟨some (vI (Int32.ofNat (strN 2 i))), ?_⟩, rfl, fun j hj hjb => ?_⟩
            · have : rsv (i + 1) = [] := by show (if _ then _ else _) = _; rw [if_pos hb]
              rw [this]; rfl
            · by_cases y : j = i
              · subst y; intro z; exact he (by rw [z])
              · exact hq j (by omega) hjb
        · have hc := rsv_ok i hi hb
          have e2 : (Int32.ofNat (strN 2 i) - 97 + 1).toInt64 = Int64.ofNat (strN 2 i - 96) := by
            rw [show (97 : Int32) = Int32.ofNat 97 from rfl, i_sub hc.1, i_addl]
            rw [← Int64.toInt_inj, l_ti (by omega), Int32.toInt_toInt64, i_toInt (by omega)]
            omega
          rw [ic_f hb, i_addl, e2]
          refine z _ _ _ (by omega) ⟨⟨some (vI (Int32.ofNat (strN 2 i))), ?_⟩, rfl, fun j hj hjb => ?_⟩
          · have : rsv (i + 1) = rsv i ++ [strN 2 i - 96] := by show (if _ then _ else _) = _; rw [if_neg hb]
            rw [this, wc_s]
          · by_cases y : j = i
            · subst y; exact absurd hjb hb
            · exact hq j (by omega) hjb
      · rintro G lv M1 - ⟨⟨o, rfl⟩, rfl, hq⟩
        rw [e47_14, sp17, cIn_s, i_lt (by omega) (by omega), ic_f (by omega)]
        refine Hm_some ⟨?_, rfl⟩
        have : isNN tp Tn n = true := by
          refine isNN_t ⟨h1, fun w hw e => ?_⟩
          obtain ⟨j, j1, j2, j3⟩ := rsv_all w hw
          exact hq j j1 j2 (j3.trans e.symm)
        rw [this]; rfl
    obtain ⟨a, M1, e1, e2, rfl⟩ := key
    rw [e1, e2]
  · rw [ic_f h1]
    have : isNN tp Tn n = false := by
      exact isNN_f (fun z => h1 z.1)
    rw [this]; rfl
end CTOK3
