/-! LAWS: the class reads them as the machine does -/
section CLAW
variable {tp : Nat → Int32} {Tn d n kL : Nat} {M M' : Mem} {ml : Bool} {st c : List Nat}
def SKt : List Nat → Mem → Prop
  | [], _ => True
  | w :: s, M => M.1 51 s.length = Int32.ofNat w ∧ SKt s M
theorem SKt.cg : ∀ {st : List Nat}, SKt st M → (∀ j, j < st.length → M'.1 51 j = M.1 51 j) → SKt st M'
  | [], _, _ => trivial
  | w :: s, h, hf => ⟨(hf s.length (by show s.length < s.length + 1; omega)).trans h.1, SKt.cg h.2 (fun j hj => hf j (by show j < s.length + 1; omega))⟩
def KWr (kL c j : Nat) : Prop := c = 50 ∨ c = 51 ∨ c = kL ∨ c = kL + 1
def LWr (kL c j : Nat) : Prop := TV c j ∨ KWr kL c j
def CKs (kL : Nat) (ml : Bool) (st c : List Nat) (M : Mem) : Prop := M.1 50 2 = Int32.ofNat st.length ∧ M.1 50 3 = Int32.ofNat (nst st) ∧ SKt st M ∧ M.2.2 50 4 = kL ∧ M.1 50 5 = b2 ml ∧ M.1 kL 2 = Int32.ofNat c.length ∧ (∀ i, i < c.length → M.1 (kL + 1) i = cfn c i) ∧ M.1 kL 0 = 1
def kLo (kL : Nat) : Prop := kL = 43 ∨ kL = 46
theorem KW_L (h : Fr (KWr kL) M M') : Fr (LWr kL) M M' := h.up (fun c j z => .inr z)
theorem TV_L (h : Fr TV M M') : Fr (LWr kL) M M' := h.up (fun c j z => .inl z)
theorem CKs.tv (h : CKs kL ml st c M) (hk : kLo kL) (hf : Fr TV M M') : CKs kL ml st c M' := by
  have a : ∀ x j, x ≠ 1 → ¬ TV x j := fun x j hx z => by unfold TV at z; omega
  unfold kLo at hk
  obtain ⟨h1, h2, h3, h4, h5, h6, h7, h8⟩ := h
  exact ⟨(hf.i (a _ _ (by omega))).trans h1, (hf.i (a _ _ (by omega))).trans h2, h3.cg (fun j _ => hf.i (a _ _ (by omega))), (hf.r (a _ _ (by omega))).trans h4, (hf.i (a _ _ (by omega))).trans h5, (hf.i (a _ _ (by omega))).trans h6, fun i hi => (hf.i (a _ _ (by omega))).trans (h7 i hi), (hf.i (a _ _ (by omega))).trans h8⟩
theorem TA.kw (h : TA tp Tn n M) (hk : kLo kL) (hf : Fr (KWr kL) M M') : TA tp Tn n M' := h.fr hf (fun c j hc => by unfold KWr; unfold kLo at hk; omega)
theorem CKs.push {w : Nat} (h : CKs kL ml st c M) (hk : kLo kL) : CKs kL ml (w :: st) c (sI (sI (sI M 50 3 (Int32.ofNat (nst (w :: st)))) 51 st.length (Int32.ofNat w)) 50 2 (Int32.ofNat (st.length + 1))) := by
  unfold kLo at hk
  obtain ⟨h1, h2, h3, h4, h5, h6, h7, h8⟩ := h
  refine ⟨sI_eq, by rw [sI_ne (by omega), sI_ne (by omega)]; exact sI_eq, ⟨by rw [sI_ne (by omega)]; exact sI_eq, h3.cg (fun j hj => by rw [sI_ne (by omega), sI_ne (by omega), sI_ne (by omega)])⟩, h4, ?_, ?_, fun i hi => ?_, ?_⟩
  · rw [sI_ne (by omega), sI_ne (by omega), sI_ne (by omega)]; exact h5
  · rw [sI_ne (by omega), sI_ne (by omega), sI_ne (by omega)]; exact h6
  · rw [sI_ne (by omega), sI_ne (by omega), sI_ne (by omega)]; exact h7 i hi
  · rw [sI_ne (by omega), sI_ne (by omega), sI_ne (by omega)]; exact h8
theorem CKs.pop {w : Nat} (h : CKs kL ml (w :: st) c M) (hk : kLo kL) : CKs kL ml st c (sI (sI M 50 2 (Int32.ofNat st.length)) 50 3 (Int32.ofNat (nst st))) := by
  unfold kLo at hk
  obtain ⟨h1, h2, h3, h4, h5, h6, h7, h8⟩ := h
  refine ⟨by rw [sI_ne (by omega)]; exact sI_eq, sI_eq, h3.2.cg (fun j hj => by rw [sI_ne (by omega), sI_ne (by omega)]), h4, ?_, ?_, fun i hi => ?_, ?_⟩
  · rw [sI_ne (by omega), sI_ne (by omega)]; exact h5
  · rw [sI_ne (by omega), sI_ne (by omega)]; exact h6
  · rw [sI_ne (by omega), sI_ne (by omega)]; exact h7 i hi
  · rw [sI_ne (by omega), sI_ne (by omega)]; exact h8
theorem CKs.popj {w : Nat} (h : CKs kL ml (w :: st) c M) (hk : kLo kL) (hw : wrk w ≠ 0) : CKs kL ml st c (sI M 50 2 (Int32.ofNat st.length)) := by
  unfold kLo at hk
  obtain ⟨h1, h2, h3, h4, h5, h6, h7, h8⟩ := h
  have en : nst (w :: st) = nst st := by show nst st + (if _ then _ else _) = _; rw [if_neg hw]; rfl
  refine ⟨sI_eq, by rw [sI_ne (by omega), h2, en], h3.2.cg (fun j hj => by rw [sI_ne (by omega)]), h4, ?_, ?_, fun i hi => ?_, ?_⟩
  · rw [sI_ne (by omega)]; exact h5
  · rw [sI_ne (by omega)]; exact h6
  · rw [sI_ne (by omega)]; exact h7 i hi
  · rw [sI_ne (by omega)]; exact h8
theorem CKs.add {w : Nat} (h : CKs kL ml st c M) (hk : kLo kL) : CKs kL ml st (c ++ [w]) (sI (sI M (kL + 1) c.length (Int32.ofNat w)) kL 2 (Int32.ofNat (c.length + 1))) := by
  unfold kLo at hk
  obtain ⟨h1, h2, h3, h4, h5, h6, h7, h8⟩ := h
  have hl : (c ++ [w]).length = c.length + 1 := by rw [List.length_append]; rfl
  refine ⟨?_, ?_, h3.cg (fun j hj => by rw [sI_ne (by omega), sI_ne (by omega)]), h4, ?_, by rw [hl]; exact sI_eq, fun i hi => ?_, ?_⟩
  · rw [sI_ne (by omega), sI_ne (by omega)]; exact h1
  · rw [sI_ne (by omega), sI_ne (by omega)]; exact h2
  · rw [sI_ne (by omega), sI_ne (by omega)]; exact h5
  · rw [hl] at hi
    rw [sI_ne (by omega)]
    by_cases y : i = c.length
    · subst y; rw [cfn_e]; exact sI_eq
    · rw [sI_ne (by omega), cfn_l (by omega)]; exact h7 i (by omega)
  · rw [sI_ne (by omega), sI_ne (by omega)]; exact h8
theorem ip1 {k : Nat} : Int32.ofNat (k + 1) - 1 = Int32.ofNat k := by
  rw [Int32.ofNat_add]; exact Int32.add_sub_cancel _ _
theorem sp72k {k w : Nat} (h : M.1 50 2 = Int32.ofNat k) (hk : k < 48) : evD (d + 1) 72 [vR 2 0 50, vI (Int32.ofNat w)] M = some (none, sI (sI M 51 k (Int32.ofNat w)) 50 2 (Int32.ofNat (k + 1))) := by
  rw [e72, h, i_lt (by omega) (by omega), ic_t hk, ck (show k < 48 by omega) (by omega), i_nat (by omega), sI_ne (by omega), h, i_addl]
theorem sp4k {k w : Nat} (h : M.1 kL 2 = Int32.ofNat k) (hk : k < 1000) : evD (d + 1) 4 [vR 1 0 kL, vI (Int32.ofNat w)] M = some (none, sI (sI M (kL + 1) k (Int32.ofNat w)) kL 2 (Int32.ofNat (k + 1))) := by
  rw [e4, h, i_lt (by omega) (by omega), ic_t hk, ck (show k < 1000 by omega) (by omega), i_nat (by omega), sI_ne (by omega), h, i_addl]
theorem sp78 {w : Nat} (hw : w < 100000) : evD (d + 1) 78 [vI (Int32.ofNat w)] M = some (some (vI (Int32.ofNat (wrk w))), M) := by
  have e : ∀ k : Nat, k < 100000 → (Int32.ofNat w = Int32.ofNat k) = (w = k) := fun k hk => i_eq (by omega) (by omega)
  rw [e78, show Int32.ofInt 10004 = Int32.ofNat 10004 from rfl, show Int32.ofInt 10005 = Int32.ofNat 10005 from rfl, show Int32.ofInt 10006 = Int32.ofNat 10006 from rfl, show Int32.ofInt 10007 = Int32.ofNat 10007 from rfl, show Int32.ofInt 10008 = Int32.ofNat 10008 from rfl, show Int32.ofInt 10009 = Int32.ofNat 10009 from rfl, show Int32.ofInt 10010 = Int32.ofNat 10010 from rfl]
  rw [e 10004 (by omega), e 10005 (by omega), e 10006 (by omega), e 10007 (by omega), e 10008 (by omega), e 10009 (by omega), e 10010 (by omega)]
  unfold wrk
  by_cases h4 : w = 10004
  · rw [ic_t h4, if_pos h4]; rfl
  rw [ic_f h4, if_neg h4]
  by_cases h5 : w = 10005
  · rw [ic_t h5, if_pos (.inl h5)]; rfl
  rw [ic_f h5]
  by_cases h6 : w = 10006
  · rw [ic_t h6, if_pos (.inr h6)]; rfl
  rw [ic_f h6, if_neg (by omega)]
  by_cases h7 : w = 10007
  · rw [ic_t h7, if_pos (.inl h7)]; rfl
  rw [ic_f h7]
  by_cases h8 : w = 10008
  · rw [ic_t h8, if_pos (.inr h8)]; rfl
  rw [ic_f h8, if_neg (by omega)]
  by_cases h9 : w = 10009
  · rw [ic_t h9, if_pos (.inl h9)]; rfl
  rw [ic_f h9]
  by_cases h10 : w = 10010
  · rw [ic_t h10, if_pos (.inr h10)]; rfl
  · rw [ic_f h10, if_neg (by omega)]; rfl
/-- nots close -/
theorem sp75 (hk : kLo kL) (h : CKs kL ml st c M) (hi : MIv 1 st c) (hl : c.length + st.length ≤ 1000) : Hm (evD (d + 2) 75 [vR 2 0 50] M) (fun r M' => r = none ∧ Fr (KWr kL) M M' ∧ ∃ st' c', CKs kL ml st' c' M' ∧ MIv 1 st' c' ∧ (∀ n, Rch tp Tn ml (.inl (1, n, st, c)) (.inl (2, n, st', c'))) ∧ c'.length + st'.length = c.length + st.length ∧ nst st' ≤ nst st) := by
  rw [e75, lp0_eq]
  refine lp_ms (d := d + 1) (x := 75) (pc := 0) 1 10 (fun m lv M1 => lv = [some (vR 2 0 50)] ∧ Fr (KWr kL) M M1 ∧ ∃ st1 c1, m = st1.length ∧ CKs kL ml st1 c1 M1 ∧ MIv 1 st1 c1 ∧ (∀ n, Rch tp Tn ml (.inl (1, n, st, c)) (.inl (1, n, st1, c1))) ∧ c1.length + st1.length = c.length + st.length ∧ nst st1 ≤ nst st) ?_ st.length _ M 20000 (by have := (hi.1.l29 hi.2.1).1; omega) ⟨rfl, Fr.rf, st, c, rfl, h, hi, fun n => Rch.rf, rfl, Nat.le_refl _⟩
  rintro m lv M1 F hF ⟨rfl, f1, st1, c1, rfl, k1, i1, r1, l1, n1⟩ z
  obtain ⟨G, rfl⟩ : ∃ G, F = G + 1 := ⟨F - 1, by omega⟩
  rw [e75_0, k1.1]
  cases st1 with
  | nil =>
    rw [show (0 : Int32) = Int32.ofNat 0 from rfl, i_lt (by show 0 < _; omega) (by show ([] : List Nat).length < _; simp), ic_f (by simp)]
    exact Hm_some ⟨rfl, f1, [], c1, k1, i1, fun n => (r1 n).tr (Rch.sp (ms_12 (by simp))), l1, n1⟩
  | cons w s =>
    have h29 := (i1.1.l29 i1.2.1).1
    have hlen : (w :: s).length = s.length + 1 := rfl
    rw [hlen] at h29 hF ⊢
    have hw := i1.1.2.2
    rw [ic_t (show (0 : Int32) < Int32.ofNat (s.length + 1) by rw [show (0 : Int32) = Int32.ofNat 0 from rfl, i_lt (by omega) (by omega)]; omega), ip1, ck (show s.length < 48 by omega) (by omega), i_nat (by omega), k1.2.2.1.1, show (10003 : Int32) = Int32.ofNat 10003 from rfl, i_eq (by omega) (by omega)]
    by_cases y : w = 10003
    · subst y
      have hp := k1.pop hk
      have e3 : (sI M1 50 2 (Int32.ofNat s.length)).1 50 3 - 1 = Int32.ofNat (nst s) := by
        rw [sI_ne (by omega), k1.2.1, show nst (10003 :: s) = nst s + 1 from nst_0 (by decide), ip1]
      rw [ic_t rfl, e3, hp.2.2.2.1, sp4k hp.2.2.2.2.2.1 (by have : c1.length + (s.length + 1) = _ := l1; omega), cVd_s]
      have ha := hp.add (w := 10003) hk
      have hl2 : (c1 ++ [10003]).length = c1.length + 1 := by rw [List.length_append]; rfl
      refine z s.length _ _ G (by omega) (by omega) ⟨rfl, ?_, s, c1 ++ [10003], rfl, ha, i1.nt, fun n => (r1 n).tr (Rch.sp ms_cn), by rw [hl2, ← l1, hlen]; omega, ?_⟩
      · exact (((f1.sI (by unfold KWr; omega)).sI (by unfold KWr; omega)).sI (by unfold KWr; omega)).sI (by unfold KWr; omega)
      · have : nst (10003 :: s) = nst s + 1 := nst_0 (by decide)
        omega
    · rw [ic_f y]
      exact Hm_some ⟨rfl, f1, w :: s, c1, k1, i1, fun n => (r1 n).tr (Rch.sp (ms_12 (fun q => y (Option.some.inj q)))), l1, n1⟩
/-- settling -/
theorem sp77 {q : Nat} {Q : Int32} (hQ : Q = Int32.ofNat q) (hq : 1 ≤ q) (hq4 : q ≤ 4) (hk : kLo kL) (h : CKs kL ml st c M) (hi : MIv 1 st c) (hl : c.length + st.length ≤ 1000) : Hm (evD (d + 2) 77 [vR 2 0 50, vI Q] M) (fun r M' => r = none ∧ Fr (KWr kL) M M' ∧ CKs kL ml (sttl q st c).1 (sttl q st c).2 M') := by
  subst hQ
  rw [e77, lp0_eq]
  refine lp_ms (d := d + 1) (x := 77) (pc := 0) 1 10 (fun m lv M1 => lv = [some (vR 2 0 50), some (vI (Int32.ofNat q))] ∧ Fr (KWr kL) M M1 ∧ ∃ st1 c1, m = st1.length ∧ CKs kL ml st1 c1 M1 ∧ sttl q st c = sttl q st1 c1 ∧ SWf st1 ∧ nst st1 ≤ 5 ∧ c1.length + st1.length = c.length + st.length) ?_ st.length _ M 20000 (by have := (hi.1.l29 hi.2.1).1; omega) ⟨rfl, Fr.rf, st, c, rfl, h, rfl, hi.1, hi.2.1, rfl⟩
  rintro m lv M1 F hF ⟨rfl, f1, st1, c1, rfl, k1, r1, i1, i2, l1⟩ z
  obtain ⟨G, rfl⟩ : ∃ G, F = G + 1 := ⟨F - 1, by omega⟩
  rw [e77_0, k1.1]
  cases st1 with
  | nil =>
    rw [show (0 : Int32) = Int32.ofNat 0 from rfl, i_lt (by show 0 < _; omega) (by show ([] : List Nat).length < _; simp), ic_f (by simp)]
    exact Hm_some ⟨rfl, f1, by rw [r1]; exact k1⟩
  | cons w s =>
    have h29 := (i1.l29 i2).1
    have hlen : (w :: s).length = s.length + 1 := rfl
    rw [hlen] at h29 hF l1 ⊢
    have hw := i1.2.2
    have es : sttl q (w :: s) c1 = if q ≤ wrk w then sttl q s (c1 ++ [w]) else (w :: s, c1) := rfl
    have hr4 := wrk_le (w := w)
    rw [ic_t (show (0 : Int32) < Int32.ofNat (s.length + 1) by rw [show (0 : Int32) = Int32.ofNat 0 from rfl, i_lt (by omega) (by omega)]; omega), ip1, ck (show s.length < 48 by omega) (by omega), i_nat (by omega), k1.2.2.1.1, sp78 (by omega), cIn_s, i_lt (by omega) (by omega)]
    by_cases y : wrk w < q
    · rw [ic_t y]
      exact Hm_some ⟨rfl, f1, by rw [r1, es, if_neg (by omega)]; exact k1⟩
    · have hp := k1.popj hk (by omega)
      have e2 : M1.1 50 2 - 1 = Int32.ofNat s.length := by rw [k1.1, hlen, ip1]
      have e51 : (sI M1 50 2 (Int32.ofNat s.length)).1 51 s.length = Int32.ofNat w := by rw [sI_ne (by omega)]; exact k1.2.2.1.1
      rw [ic_f y, e2, sI_eq, ck (show s.length < 48 by omega) (by omega), i_nat (by omega), e51, hp.2.2.2.1, sp4k hp.2.2.2.2.2.1 (by omega), cVd_s]
      have ha := hp.add (w := w) hk
      have hl2 : (c1 ++ [w]).length = c1.length + 1 := by rw [List.length_append]; rfl
      have en : nst (w :: s) = nst s := by show nst s + (if _ then _ else _) = _; rw [if_neg (by omega)]; rfl
      refine z s.length _ _ G (by omega) (by omega) ⟨rfl, ?_, s, c1 ++ [w], rfl, ha, by rw [r1, es, if_pos (by omega)], i1.1, by rw [← en]; exact i2, by rw [hl2]; omega⟩
      exact ((f1.sI (by unfold KWr; omega)).sI (by unfold KWr; omega)).sI (by unfold KWr; omega)
end CLAW
