/-! LAWS: the class, one turn of its loop -/
section CLAW2
variable {tp : Nat → Int32} {Tn d n kL : Nat} {M M' : Mem} {ml : Bool} {st c : List Nat}
def CMs (tp : Nat → Int32) (Tn kL : Nat) (ml : Bool) (n : Nat) (st c : List Nat) (M : Mem) : Prop := CKs kL ml st c M ∧ TA tp Tn n M ∧ vis tp Tn n ∧ c.length + st.length + 1 ≤ n
def CFt (tp : Nat → Int32) (Tn : Nat) (ml : Bool) (X : MS) (M : Mem) : Prop := ∃ e, M.1 1 1 = Int32.ofNat e ∧ Rch tp Tn ml (.inl X) (.inr (.inr e))
theorem CMs.n1 (hs : SG tp Tn) (h : CMs tp Tn kL ml n st c M) : n ≤ 1000 := Nat.le_trans (vis_le h.2.2.1) hs.1
theorem CMs.le (hs : SG tp Tn) (h : CMs tp Tn kL ml n st c M) : c.length + st.length ≤ 1000 := by
  have := h.n1 hs
  have := h.2.2.2
  omega
/-- openings -/
theorem sp71 (hs : SG tp Tn) (hk : kLo kL) (h : CMs tp Tn kL ml n st c M) (hi : MIv 0 st c) : Hm (evD (d + 8) 71 [vR 2 0 50] M) (fun r M' => Fr (LWr kL) M M' ∧ ((r = some (vI 0) ∧ CFt tp Tn ml (0, n, st, c) M') ∨ (r = some (vI 1) ∧ ∃ n' st', CMs tp Tn kL ml n' st' c M' ∧ MIv 0 st' c ∧ Rch tp Tn ml (.inl (0, n, st, c)) (.inl (0, n', st', c)) ∧ n ≤ n' ∧ ¬ (isWN tp Tn n' (kwd 25) = true ∨ isSN tp Tn n' 40 = true)))) := by
  rw [e71, lp0_eq]
  refine lp_ms (d := d + 7) (x := 71) (pc := 2) 1 10 (fun m lv M1 => Fr (LWr kL) M M1 ∧ ∃ i o n1 st1, lv = [some (vR 2 0 50), some (vI (Int32.ofNat i)), o] ∧ i ≤ nst st1 ∧ m = 6 - nst st1 ∧ CMs tp Tn kL ml n1 st1 c M1 ∧ MIv 0 st1 c ∧ Rch tp Tn ml (.inl (0, n, st, c)) (.inl (0, n1, st1, c)) ∧ n ≤ n1) ?_ (6 - nst st) _ M 20000 (by omega) ⟨Fr.rf, 0, none, n, st, rfl, by omega, rfl, h, hi, Rch.rf, Nat.le_refl _⟩
  rintro m lv M1 F hF ⟨f1, i, o, n1, st1, rfl, hi1, rfl, h1, i1, r1, l1⟩ z
  obtain ⟨G, rfl⟩ : ∃ G, F = G + 1 := ⟨F - 1, by omega⟩
  have h5 := i1.2.1
  have h29 := (i1.1.l29 h5).1
  have hT := h1.2.1
  have s35 : ∀ d, evD (d + 5) 35 [vR 7 0 1, vR 40 21 (SB + 21)] M1 = some (some (vI (b2 (isWN tp Tn n1 (kwd 25)))), M1) := fun d => sp35 hs (by omega) (by omega) (by omega) hT
  have s55 : ∀ d, evD (d + 1) 55 [vR 7 0 1, vI 40] M1 = some (some (vI (b2 (isSN tp Tn n1 40))), M1) := fun d => sp55 (c := 40) hs (by omega) hT
  rw [e71_2, ic_f (by rw [show (5 : Int32) = Int32.ofNat 5 from rfl, i_lt (by omega) (by omega)]; omega), s35, cIn_s]
  -- what an opening does
  have go : ∀ (w : Nat) (lv : Lv), (w = 10003 ∨ w = 10011) → mst tp Tn ml (0, n1, st1, c) = .inl (0, n1 + 1, w :: st1, c) → kS tp Tn n1 ≠ 0 → nst st1 < 5 → (∃ o, lv = [some (vR 2 0 50), some (vI (Int32.ofNat i + 1)), o]) → Hm (cVd (evD (d + 7) 72 [vR 2 0 50, vI (Int32.ofNat w)] (sI M1 50 3 ((M1.1 50 3) + 1))) fun M11 => cVd (evD (d + 7) 11 [vR 7 0 1] M11) fun M12 => lp (d + 7) 71 G 2 lv M12) (fun r M' => Fr (LWr kL) M M' ∧ ((r = some (vI 0) ∧ CFt tp Tn ml (0, n, st, c) M') ∨ (r = some (vI 1) ∧ ∃ n' st', CMs tp Tn kL ml n' st' c M' ∧ MIv 0 st' c ∧ Rch tp Tn ml (.inl (0, n, st, c)) (.inl (0, n', st', c)) ∧ n ≤ n' ∧ ¬ (isWN tp Tn n' (kwd 25) = true ∨ isSN tp Tn n' 40 = true)))) := by
    intro w lv hw hm hk0 hn5 hlv
    obtain ⟨o', rfl⟩ := hlv
    have w0 : wrk w = 0 := by rcases hw with rfl | rfl <;> decide
    have en : nst (w :: st1) = nst st1 + 1 := nst_0 w0
    rw [h1.1.2.1, i_addl, sp72k (k := st1.length) (by rw [sI_ne (by omega)]; exact h1.1.1) (by omega), cVd_s]
    have hp := h1.1.push (w := w) hk
    rw [en] at hp
    have f2 : Fr (KWr kL) M1 (sI (sI (sI M1 50 3 (Int32.ofNat (nst st1 + 1))) 51 st1.length (Int32.ofNat w)) 50 2 (Int32.ofNat (st1.length + 1))) := ((Fr.rf.sI (by unfold KWr; omega)).sI (by unfold KWr; omega)).sI (by unfold KWr; omega)
    refine Hm_cVv (sp11n hs (hT.kw hk f2)) (fun M2 ⟨t2, f3⟩ => ?_)
    refine z (6 - nst (w :: st1)) _ M2 G (by omega) (by omega) ⟨(f1.tr (KW_L f2)).tr (TV_L f3), i + 1, o', n1 + 1, w :: st1, by rw [i_addl], by omega, rfl, ⟨hp.tv hk f3, t2, vis_s h1.2.2.1 hk0, ?_⟩, i1.op hw hn5, r1.tr (Rch.sp hm), by omega⟩
    have := h1.2.2.2
    show c.length + (st1.length + 1) + 1 ≤ n1 + 1; omega
  have bad : (isWN tp Tn n1 (kwd 25) = true ∨ isSN tp Tn n1 40 = true) → ¬ nst st1 < 5 → Hm (cIn (evD (d + 7) 45 [vR 7 0 1, vI 5] M1) fun v16 M15 => ic (v16 &&& 1 = v16) (some (some (vI v16), M15)) none) (fun r M' => Fr (LWr kL) M M' ∧ ((r = some (vI 0) ∧ CFt tp Tn ml (0, n, st, c) M') ∨ (r = some (vI 1) ∧ ∃ n' st', CMs tp Tn kL ml n' st' c M' ∧ MIv 0 st' c ∧ Rch tp Tn ml (.inl (0, n, st, c)) (.inl (0, n', st', c)) ∧ n ≤ n' ∧ ¬ (isWN tp Tn n' (kwd 25) = true ∨ isSN tp Tn n' 40 = true)))) := by
    intro ho hn5
    exact Hm_mono (sp45c (d := d + 6) (e := 5) rfl hT) (fun r M' ⟨a, b, cc⟩ => ⟨f1.tr (TV_L cc), .inl ⟨a, _, b, r1.tr (Rch.sp (ms_op5 ho (by omega)))⟩⟩)
  have n5 : (M1.1 50 3 < 5) = (nst st1 < 5) := by rw [h1.1.2.1]; exact i_lt (b := 5) (by omega) (by omega)
  by_cases hy : isWN tp Tn n1 (kwd 25) = true
  · rw [hy, ic_f (by decide), n5]
    by_cases hn5 : nst st1 < 5
    · rw [ic_t hn5, ic_f (by decide)]
      exact go 10003 _ (.inl rfl) (ms_not hy hn5) (isWN_k hy) hn5 ⟨_, rfl⟩
    · rw [ic_f hn5]; exact bad (.inl hy) hn5
  · rw [nf hy, ic_t (show b2 false = 0 from rfl), s55, cIn_s]
    by_cases hy' : isSN tp Tn n1 40 = true
    · rw [hy', ic_f (by decide), n5]
      by_cases hn5 : nst st1 < 5
      · rw [ic_t hn5, ic_t (show b2 false = 0 from rfl)]
        exact go 10011 _ (.inr rfl) (ms_br hy' hn5) (isSN_k hy') hn5 ⟨_, rfl⟩
      · rw [ic_f hn5]; exact bad (.inr hy') hn5
    · rw [nf hy', ic_t (show b2 false = 0 from rfl)]
      exact Hm_some ⟨f1, .inr ⟨rfl, n1, st1, h1, i1, r1, l1, fun q => q.elim hy hy'⟩⟩
/-- the fact that stands here -/
theorem sp74 (hs : SG tp Tn) (h5 : M.1 50 5 = b2 ml) (hT : TA tp Tn n M) (h2 : kS tp Tn n ≠ 2) : evD (d + 6) 74 [vR 2 0 50] M = some (some (vI (if lfw tp Tn ml n = 20000 then -1 else Int32.ofNat (lfw tp Tn ml n))), M) := by
  have s : ∀ (is w : Nat) (d : Nat), is < 35 → is ≠ 0 → is ≠ 2 → kwd w = stW is → evD (d + 5) 35 [vR 7 0 1, vR 40 is (SB + is)] M = some (some (vI (b2 (isWN tp Tn n (kwd w)))), M) := fun is w d a b c e => by rw [e]; exact sp35 hs a b c hT
  unfold lfw
  rw [if_neg h2]
  cases ml
  · have key : ∀ v : Int32, v = (if (if isWN tp Tn n (kwd 31) = true then 10000 else if isWN tp Tn n (kwd 30) = true then 10001 else if isWN tp Tn n (kwd 32) = true then 10002 else 20000) = 20000 then -1 else Int32.ofNat (if isWN tp Tn n (kwd 31) = true then 10000 else if isWN tp Tn n (kwd 30) = true then 10001 else if isWN tp Tn n (kwd 32) = true then 10002 else 20000)) → evD (d + 6) 74 [vR 2 0 50] M = some (some (vI v), M) := by
      intro v hv
      rw [e74, h5, ic_t (show b2 false = 0 from rfl), s 23 31 _ (by omega) (by omega) (by omega) rfl, cIn_s]
      by_cases a0 : isWN tp Tn n (kwd 31) = true
      · rw [ic_f (show ¬ b2 (isWN tp Tn n (kwd 31)) = 0 by rw [a0]; decide), lp0_eq, show (20000 : Nat) = 19999 + 1 from rfl, e74_24]
        rw [if_pos a0] at hv; rw [hv]; rfl
      rw [ic_t (show b2 (isWN tp Tn n (kwd 31)) = 0 by rw [nf a0]; rfl), h5, ic_t (show b2 false = 0 from rfl), s 25 30 _ (by omega) (by omega) (by omega) rfl, cIn_s]
      by_cases a1 : isWN tp Tn n (kwd 30) = true
      · rw [ic_f (show ¬ b2 (isWN tp Tn n (kwd 30)) = 0 by rw [a1]; decide), lp0_eq, show (20000 : Nat) = 19999 + 1 from rfl, e74_52]
        rw [if_neg a0, if_pos a1] at hv; rw [hv]; rfl
      rw [ic_t (show b2 (isWN tp Tn n (kwd 30)) = 0 by rw [nf a1]; rfl), h5, ic_t (show b2 false = 0 from rfl), s 26 32 _ (by omega) (by omega) (by omega) rfl, cIn_s]
      by_cases a2 : isWN tp Tn n (kwd 32) = true
      · rw [ic_f (show ¬ b2 (isWN tp Tn n (kwd 32)) = 0 by rw [a2]; decide), lp0_eq, show (20000 : Nat) = 19999 + 1 from rfl, e74_80]
        rw [if_neg a0, if_neg a1, if_pos a2] at hv; rw [hv]; rfl
      · rw [ic_t (show b2 (isWN tp Tn n (kwd 32)) = 0 by rw [nf a2]; rfl)]
        rw [if_neg a0, if_neg a1, if_neg a2, if_pos rfl] at hv; rw [hv]
    exact key _ rfl
  · have key : ∀ v : Int32, v = (if (if isWN tp Tn n (kwd 28) = true then 10000 else if isWN tp Tn n (kwd 29) = true then 10001 else if isWN tp Tn n (kwd 30) = true then 10002 else 20000) = 20000 then -1 else Int32.ofNat (if isWN tp Tn n (kwd 28) = true then 10000 else if isWN tp Tn n (kwd 29) = true then 10001 else if isWN tp Tn n (kwd 30) = true then 10002 else 20000)) → evD (d + 6) 74 [vR 2 0 50] M = some (some (vI v), M) := by
      intro v hv
      rw [e74, h5, ic_f (show ¬ b2 true = 0 by decide), s 22 28 _ (by omega) (by omega) (by omega) rfl, cIn_s]
      by_cases a0 : isWN tp Tn n (kwd 28) = true
      · rw [ic_f (show ¬ b2 (isWN tp Tn n (kwd 28)) = 0 by rw [a0]; decide), lp0_eq, show (20000 : Nat) = 19999 + 1 from rfl, e74_24]
        rw [if_pos a0] at hv; rw [hv]; rfl
      rw [ic_t (show b2 (isWN tp Tn n (kwd 28)) = 0 by rw [nf a0]; rfl), h5, ic_f (show ¬ b2 true = 0 by decide), s 24 29 _ (by omega) (by omega) (by omega) rfl, cIn_s]
      by_cases a1 : isWN tp Tn n (kwd 29) = true
      · rw [ic_f (show ¬ b2 (isWN tp Tn n (kwd 29)) = 0 by rw [a1]; decide), lp0_eq, show (20000 : Nat) = 19999 + 1 from rfl, e74_52]
        rw [if_neg a0, if_pos a1] at hv; rw [hv]; rfl
      rw [ic_t (show b2 (isWN tp Tn n (kwd 29)) = 0 by rw [nf a1]; rfl), h5, ic_f (show ¬ b2 true = 0 by decide), s 25 30 _ (by omega) (by omega) (by omega) rfl, cIn_s]
      by_cases a2 : isWN tp Tn n (kwd 30) = true
      · rw [ic_f (show ¬ b2 (isWN tp Tn n (kwd 30)) = 0 by rw [a2]; decide), lp0_eq, show (20000 : Nat) = 19999 + 1 from rfl, e74_80]
        rw [if_neg a0, if_neg a1, if_pos a2] at hv; rw [hv]; rfl
      · rw [ic_t (show b2 (isWN tp Tn n (kwd 30)) = 0 by rw [nf a2]; rfl)]
        rw [if_neg a0, if_neg a1, if_neg a2, if_pos rfl] at hv; rw [hv]
    exact key _ rfl
/-- a leaf -/
theorem sp73 (hs : SG tp Tn) (hk : kLo kL) (h : CMs tp Tn kL ml n st c M) (hi : MIv 0 st c) (ho : ¬ (isWN tp Tn n (kwd 25) = true ∨ isSN tp Tn n 40 = true)) : Hm (evD (d + 8) 73 [vR 2 0 50] M) (fun r M' => Fr (LWr kL) M M' ∧ ((r = some (vI 0) ∧ CFt tp Tn ml (0, n, st, c) M') ∨ (r = some (vI 1) ∧ ∃ st' c', CMs tp Tn kL ml (n + 1) st' c' M' ∧ MIv 1 st' c' ∧ Rch tp Tn ml (.inl (0, n, st, c)) (.inl (2, n + 1, st', c'))))) := by
  have hT := h.2.1
  have hn := h.2.2.2
  have h5 := hi.2.1
  have n5 : (M.1 50 3 < 5) = (nst st < 5) := by rw [h.1.2.1]; exact i_lt (b := 5) (by omega) (by omega)
  have bad : ∀ (e : Nat) (E : Int32), E = Int32.ofNat e → mst tp Tn ml (0, n, st, c) = .inr (.inr (flt tp Tn e n)) → Hm (cIn (evD (d + 7) 45 [vR 7 0 1, vI E] M) fun v16 M15 => ic (v16 &&& 1 = v16) (some (some (vI v16), M15)) none) (fun r M' => Fr (LWr kL) M M' ∧ ((r = some (vI 0) ∧ CFt tp Tn ml (0, n, st, c) M') ∨ (r = some (vI 1) ∧ ∃ st' c', CMs tp Tn kL ml (n + 1) st' c' M' ∧ MIv 1 st' c' ∧ Rch tp Tn ml (.inl (0, n, st, c)) (.inl (2, n + 1, st', c'))))) := by
    intro e E hE hm
    exact Hm_mono (sp45c (d := d + 6) (e := e) hE hT) (fun r M' ⟨a, b, cc⟩ => ⟨TV_L cc, .inl ⟨a, _, b, Rch.sp hm⟩⟩)
  have go : lfw tp Tn ml n ≠ 20000 → nst st < 5 → Hm (cVd (evD (d + 7) 4 [vR 1 0 (M.2.2 50 4), vI (Int32.ofNat (lfw tp Tn ml n))] M) fun M5 => cVd (evD (d + 7) 11 [vR 7 0 1] M5) fun M6 => cVd (evD (d + 7) 75 [vR 2 0 50] M6) fun M7 => some (some (vI 1), M7)) (fun r M' => Fr (LWr kL) M M' ∧ ((r = some (vI 0) ∧ CFt tp Tn ml (0, n, st, c) M') ∨ (r = some (vI 1) ∧ ∃ st' c', CMs tp Tn kL ml (n + 1) st' c' M' ∧ MIv 1 st' c' ∧ Rch tp Tn ml (.inl (0, n, st, c)) (.inl (2, n + 1, st', c'))))) := by
    intro hl hn5
    obtain ⟨l1, l2⟩ := lfw_lt hl
    have hv := vis_s h.2.2.1 l2
    have h1000 : n + 1 ≤ 1000 := Nat.le_trans (vis_le hv) hs.1
    rw [h.1.2.2.2.1, sp4k h.1.2.2.2.2.2.1 (by omega), cVd_s]
    have ha := h.1.add (w := lfw tp Tn ml n) hk
    have f2 : Fr (KWr kL) M (sI (sI M (kL + 1) c.length (Int32.ofNat (lfw tp Tn ml n))) kL 2 (Int32.ofNat (c.length + 1))) := (Fr.rf.sI (by unfold KWr; omega)).sI (by unfold KWr; omega)
    have hl2 : (c ++ [lfw tp Tn ml n]).length = c.length + 1 := by rw [List.length_append]; rfl
    refine Hm_cVv (sp11n hs (hT.kw hk f2)) (fun M2 ⟨t2, f3⟩ => ?_)
    refine Hm_cVv (sp75 (tp := tp) (Tn := Tn) (d := d + 5) hk (ha.tv hk f3) (hi.lf l1) (by rw [hl2]; omega)) (fun M3 ⟨f4, st', c', k4, i4, r4, l4, _⟩ => ?_)
    rw [hl2] at l4
    exact Hm_some ⟨((KW_L f2).tr (TV_L f3)).tr (KW_L f4), .inr ⟨rfl, st', c', ⟨k4, t2.kw hk f4, hv, by omega⟩, i4, (Rch.sp (ms_lf ho hl hn5)).tr (r4 (n + 1))⟩⟩
  rw [e73, sp67 hT, cIn_s]
  by_cases h2 : kS tp Tn n = 2
  · have hv := kV_lt h2
    have el : lfw tp Tn ml n = kV tp Tn n := by unfold lfw; rw [if_pos h2]
    have e12 : M.1 1 2 = Int32.ofNat (lfw tp Tn ml n) := by rw [el]; exact hT.2.2.2.2.2 h2
    have en1 : ¬ Int32.ofNat (lfw tp Tn ml n) = -1 := by
      rw [el]; intro q
      have := congrArg (fun x : Int32 => x.toInt) q
      simp only [i_toInt (show kV tp Tn n < 2147483648 by omega)] at this
      have e : (-1 : Int32).toInt = -1 := by decide
      rw [e] at this; omega
    rw [decide_eq_true h2, ic_f (by decide), e12, ic_f en1, n5]
    by_cases hn5 : nst st < 5
    · rw [ic_t hn5]; exact go (by rw [el]; omega) hn5
    · rw [ic_f hn5]; exact bad 5 5 rfl (ms_lf5 ho (by rw [el]; omega) (by omega))
  · rw [decide_eq_false h2, ic_t (show b2 false = 0 from rfl), sp74 hs h.1.2.2.2.2.1 hT h2, cIn_s]
    by_cases hl : lfw tp Tn ml n = 20000
    · rw [if_pos hl, ic_t rfl]; exact bad 1 1 rfl (ms_no ho hl)
    · have hlt := (lfw_lt hl).1
      have en1 : ¬ Int32.ofNat (lfw tp Tn ml n) = -1 := by
        intro q
        have := congrArg (fun x : Int32 => x.toInt) q
        simp only [i_toInt (show lfw tp Tn ml n < 2147483648 by omega)] at this
        have e : (-1 : Int32).toInt = -1 := by decide
        rw [e] at this; omega
      rw [if_neg hl, ic_f en1, n5]
      by_cases hn5 : nst st < 5
      · rw [ic_t hn5]; exact go hl hn5
      · rw [ic_f hn5]; exact bad 5 5 rfl (ms_lf5 ho hl (by omega))
/-- closings: the machine stands in mode 2, or is at its end already -/
def CEn (tp : Nat → Int32) (Tn : Nat) (ml : Bool) (X : MS) (n : Nat) (st c : List Nat) : Prop := (Rch tp Tn ml (.inl X) (.inl (2, n, st, c)) ∧ (isSN tp Tn n 41 = true → nst st = 0)) ∨ (st = [] ∧ isSN tp Tn n 41 = true ∧ Rch tp Tn ml (.inl X) (.inr (.inl (n, c))))
theorem sttl_0 {q : Nat} (hq : 1 ≤ q) : ∀ (st c : List Nat), nst st = 0 → q = 1 → (sttl q st c).1 = []
  | [], c, _, _ => rfl
  | w :: s, c, h, h1 => by
    have h' : nst s + (if wrk w = 0 then 1 else 0) = 0 := h
    have w0 : ¬ wrk w = 0 := fun z => by rw [if_pos z] at h'; omega
    show (if q ≤ wrk w then _ else _ : List Nat × List Nat).1 = []
    rw [if_pos (by omega)]
    exact sttl_0 hq s _ (by rw [if_neg w0] at h'; exact h') h1
theorem sp76 (hs : SG tp Tn) (hk : kLo kL) (h : CMs tp Tn kL ml n st c M) (hi : MIv 1 st c) : Hm (evD (d + 8) 76 [vR 2 0 50] M) (fun r M' => r = none ∧ Fr (LWr kL) M M' ∧ ∃ n' st' c', CMs tp Tn kL ml n' st' c' M' ∧ MIv 1 st' c' ∧ n ≤ n' ∧ CEn tp Tn ml (2, n, st, c) n' st' c') := by
  rw [e76, lp0_eq]
  refine lp_ms (d := d + 7) (x := 76) (pc := 2) 1 10 (fun m lv M1 => Fr (LWr kL) M M1 ∧ ∃ i n1 st1 c1, lv = [some (vR 2 0 50), some (vI (Int32.ofNat i))] ∧ i ≤ 5 ∧ i + nst st1 ≤ 5 ∧ m = 5 - i ∧ CMs tp Tn kL ml n1 st1 c1 M1 ∧ MIv 1 st1 c1 ∧ Rch tp Tn ml (.inl (2, n, st, c)) (.inl (2, n1, st1, c1)) ∧ n ≤ n1) ?_ 5 _ M 20000 (by omega) ⟨Fr.rf, 0, n, st, c, rfl, by omega, by have := hi.2.1; omega, rfl, h, hi, Rch.rf, Nat.le_refl _⟩
  rintro m lv M1 F hF ⟨f1, i, n1, st1, c1, rfl, i5, in5, rfl, h1, i1, r1, l1⟩ z
  obtain ⟨G, rfl⟩ : ∃ G, F = G + 1 := ⟨F - 1, by omega⟩
  have hT := h1.2.1
  rw [e76_2, show (5 : Int32) = Int32.ofNat 5 from rfl, i_lt (by omega) (by omega)]
  by_cases i5' : i < 5
  rotate_left
  · rw [ic_f i5']
    exact Hm_some ⟨rfl, f1, n1, st1, c1, h1, i1, l1, .inl ⟨r1, fun _ => by omega⟩⟩
  have s55 : ∀ d, evD (d + 1) 55 [vR 7 0 1, vI 41] M1 = some (some (vI (b2 (isSN tp Tn n1 41))), M1) := fun d => sp55 (c := 41) hs (by omega) hT
  rw [ic_t i5', s55, cIn_s]
  by_cases hy : isSN tp Tn n1 41 = true
  rotate_left
  · rw [nf hy, ic_t (show b2 false = 0 from rfl)]
    exact Hm_some ⟨rfl, f1, n1, st1, c1, h1, i1, l1, .inl ⟨r1, fun q => absurd q hy⟩⟩
  rw [hy, ic_f (by decide)]
  obtain ⟨j1, j2, j3, j4⟩ := i1.settle (q := 1) (by omega)
  have hm0 : mst tp Tn ml (2, n1, st1, c1) = mend1 (sttl 1 st1 c1) (fun c' => .inr (.inl (n1, c'))) (fun s' c' => .inl (1, n1 + 1, s', c')) := by
    simp only [mst, show ¬ (2 = 0) by omega, show ¬ (2 = 1) by omega, if_false, hy, if_true]
  have h1n := h1.2.2.2
  have h1le := h1.le hs
  refine Hm_cVv (sp77 (d := d + 5) (q := 1) (Q := 1) rfl (by omega) (by omega) hk h1.1 i1 h1le) (fun M2 ⟨f2, k2⟩ => ?_)
  generalize hp : sttl 1 st1 c1 = p at *
  obtain ⟨st2, c2⟩ := p
  simp only at j1 j2 j3 j4 k2 hm0
  rw [k2.1]
  cases st2 with
  | nil =>
    rw [ic_t (show Int32.ofNat ([] : List Nat).length = 0 from rfl)]
    refine Hm_some ⟨rfl, f1.tr (KW_L f2), n1, [], c2, ⟨k2, hT.kw hk f2, h1.2.2.1, by show c2.length + 0 + 1 ≤ n1; have j4 : c2.length + 0 = _ := j4; omega⟩, j1, l1, .inr ⟨rfl, hy, r1.tr (Rch.sp hm0)⟩⟩
  | cons w s =>
    have w0 : wrk w = 0 := by have : wrk w < 1 := j2; omega
    obtain ⟨i3, en⟩ := j1.pop w0
    have hlen : (w :: s).length = s.length + 1 := rfl
    have h29 := (j1.1.l29 j1.2.1).1
    rw [hlen] at h29 j4
    rw [hlen, ic_f (by rw [show (0 : Int32) = Int32.ofNat 0 from rfl, i_eq (by omega) (by omega)]; omega), ip1]
    have e3 : (sI M2 50 2 (Int32.ofNat s.length)).1 50 3 - 1 = Int32.ofNat (nst s) := by
      rw [sI_ne (by omega), k2.2.1, en, ip1]
    rw [e3]
    have hpp := k2.pop hk
    have f3 : Fr (KWr kL) M1 (sI (sI M2 50 2 (Int32.ofNat s.length)) 50 3 (Int32.ofNat (nst s))) := (f2.sI (by unfold KWr; omega)).sI (by unfold KWr; omega)
    refine Hm_cVv (sp11n hs (hT.kw hk f3)) (fun M4 ⟨t4, f4⟩ => ?_)
    refine Hm_cVv (sp75 (tp := tp) (Tn := Tn) (d := d + 5) hk (hpp.tv hk f4) i3 (by omega)) (fun M5 ⟨f5, st', c', k5, i5'', r5, l5, n5⟩ => ?_)
    rw [i_addl]
    refine z (5 - (i + 1)) _ M5 G (by omega) (by omega) ⟨((f1.tr (KW_L f3)).tr (TV_L f4)).tr (KW_L f5), i + 1, n1 + 1, st', c', rfl, by omega, ?_, rfl, ⟨k5, t4.kw hk f5, vis_s h1.2.2.1 (isSN_k hy), by omega⟩, i5'', (r1.tr (Rch.sp hm0)).tr (r5 (n1 + 1)), by omega⟩
    rw [en] at j3; omega
/-- the join that stands here -/
theorem sp79 (hs : SG tp Tn) (hT : TA tp Tn n M) : evD (d + 6) 79 [vR 2 0 50] M = some (some (vI (if jnw tp Tn n = 0 then -1 else Int32.ofNat (jnw tp Tn n))), M) := by
  have s : ∀ (is w : Nat) (d : Nat), is < 35 → is ≠ 0 → is ≠ 2 → kwd w = stW is → evD (d + 5) 35 [vR 7 0 1, vR 40 is (SB + is)] M = some (some (vI (b2 (isWN tp Tn n (kwd w)))), M) := fun is w d a b c e => by rw [e]; exact sp35 hs a b c hT
  have g : ∀ (k : Nat) (E : Int32) (d : Nat), E = Int32.ofNat k → k < 1000 → evD (d + 1) 55 [vR 7 0 1, vI E] M = some (some (vI (b2 (isSN tp Tn n k))), M) := fun k E d e a => by rw [e]; exact sp55 hs a hT
  rw [e79, g 42 42 _ rfl (by omega), cIn_s]
  by_cases a1 : isSN tp Tn n 42 = true
  · rw [a1, ic_f (by decide), jr4 a1]; rfl
  rw [nf a1, ic_t (show b2 false = 0 from rfl), g 43 43 _ rfl (by omega), cIn_s]
  by_cases a2 : isSN tp Tn n 43 = true
  · rw [a2, ic_f (by decide), jr3 a2]; rfl
  rw [nf a2, ic_t (show b2 false = 0 from rfl), g 45 45 _ rfl (by omega), cIn_s]
  by_cases a3 : isSN tp Tn n 45 = true
  · rw [a3, ic_f (by decide), jr3' a3]; rfl
  rw [nf a3, ic_t (show b2 false = 0 from rfl), g 60 60 _ rfl (by omega), cIn_s]
  by_cases a4 : isSN tp Tn n 60 = true
  · rw [a4, ic_f (by decide), jr2 a4]; rfl
  rw [nf a4, ic_t (show b2 false = 0 from rfl), g 61 61 _ rfl (by omega), cIn_s]
  by_cases a5 : isSN tp Tn n 61 = true
  · rw [a5, ic_f (by decide), jr2' a5]; rfl
  rw [nf a5, ic_t (show b2 false = 0 from rfl), s 27 26 _ (by omega) (by omega) (by omega) rfl, cIn_s]
  by_cases a6 : isWN tp Tn n (kwd 26) = true
  · rw [a6, ic_f (by decide), jr1 a6]; rfl
  rw [nf a6, ic_t (show b2 false = 0 from rfl), s 28 27 _ (by omega) (by omega) (by omega) rfl, cIn_s]
  by_cases a7 : isWN tp Tn n (kwd 27) = true
  · rw [a7, ic_f (by decide), jr1' a7]; rfl
  have : jnw tp Tn n = 0 := by unfold jnw; rw [if_neg a1, if_neg a2, if_neg a3, if_neg a4, if_neg a5, if_neg a6, if_neg a7]
  rw [nf a7, ic_t (show b2 false = 0 from rfl), this]; rfl
end CLAW2
