/-! LAWS: the class reads one whole -/
section CLAW3
variable {tp : Nat → Int32} {Tn d n kL : Nat} {M M' : Mem} {ml : Bool} {st c : List Nat} {X : MS}
def LEn (tp : Nat → Int32) (Tn : Nat) (ml : Bool) (X : MS) (e : Nat) : Prop := Rch tp Tn ml (.inl X) (.inr (.inr e)) ∨ ∃ n' c', Rch tp Tn ml (.inl X) (.inr (.inl (n', c'))) ∧ isSN tp Tn n' 59 = false ∧ e = flt tp Tn 1 n'
def LOk (tp : Nat → Int32) (Tn kL : Nat) (ml : Bool) (X : MS) (r : Option AV) (M : Mem) : Prop := (r = some (vI 0) ∧ ∃ e, M.1 1 1 = Int32.ofNat e ∧ LEn tp Tn ml X e) ∨ (r = some (vI 1) ∧ ∃ n' c', Rch tp Tn ml (.inl X) (.inr (.inl (n', c'))) ∧ isSN tp Tn n' 59 = true ∧ TA tp Tn (n' + 1) M ∧ vis tp Tn (n' + 1) ∧ CKs kL ml [] c' M ∧ COk c' 1 ∧ c'.length + 1 ≤ n')
theorem sp80 (hs : SG tp Tn) (hk : kLo kL) (h : CMs tp Tn kL ml n st c M) (hi : MIv 1 st c) (hE : CEn tp Tn ml X n st c) (hj : jnw tp Tn n = 0) : Hm (evD (d + 9) 80 [vR 2 0 50] M) (fun r M' => Fr (LWr kL) M M' ∧ LOk tp Tn kL ml X r M') := by
  have hT := h.2.1
  obtain ⟨j1, j2, j3, j4⟩ := hi.settle (q := 1) (by omega)
  have hn := h.2.2.2
  rw [e80]
  refine Hm_cVv (sp77 (d := d + 6) (q := 1) (Q := 1) rfl (by omega) (by omega) hk h.1 hi (h.le hs)) (fun M2 ⟨f2, k2⟩ => ?_)
  have hT2 := hT.kw hk f2
  have hm : CEn tp Tn ml X n st c → ((sttl 1 st c).1 = [] → Rch tp Tn ml (.inl X) (.inr (.inl (n, (sttl 1 st c).2)))) ∧ ((sttl 1 st c).1 ≠ [] → Rch tp Tn ml (.inl X) (.inr (.inr (flt tp Tn 1 n)))) := by
    intro hE
    rcases hE with ⟨r, h41⟩ | ⟨rfl, h41, r⟩
    · by_cases y : isSN tp Tn n 41 = true
      · have e0 := sttl_0 (q := 1) (by omega) st c (h41 y) rfl
        refine ⟨fun _ => r.tr (Rch.sp ?_), fun z => absurd e0 z⟩
        simp only [mst, show ¬ (2 = 0) by omega, show ¬ (2 = 1) by omega, if_false, y, if_true, mend1, e0]
      · refine ⟨fun e0 => r.tr (Rch.sp ?_), fun z => r.tr (Rch.sp ?_)⟩
        · simp only [mst, show ¬ (2 = 0) by omega, show ¬ (2 = 1) by omega, if_false, nf y, hj, if_true, mend1, e0]; rfl
        · have : ∃ w s, (sttl 1 st c).1 = w :: s := by
            cases hq : (sttl 1 st c).1 with
            | nil => exact absurd hq z
            | cons w s => exact ⟨w, s, rfl⟩
          obtain ⟨w, s, e0⟩ := this
          simp only [mst, show ¬ (2 = 0) by omega, show ¬ (2 = 1) by omega, if_false, nf y, hj, if_true, mend1, e0]; rfl
    · exact ⟨fun _ => r, fun z => absurd rfl z⟩
  obtain ⟨m1, m2⟩ := hm hE
  generalize hp : sttl 1 st c = p at *
  obtain ⟨st2, c2⟩ := p
  simp only at j1 j2 j3 j4 k2 m1 m2
  rw [k2.1]
  cases st2 with
  | cons w s =>
    have h29 := (j1.1.l29 j1.2.1).1
    rw [ic_t (show (0 : Int32) < Int32.ofNat (w :: s).length by rw [show (0 : Int32) = Int32.ofNat 0 from rfl, i_lt (by omega) (by omega)]; show 0 < s.length + 1; omega)]
    exact Hm_mono (sp45c (d := d + 7) (e := 1) rfl hT2) (fun r M' ⟨a, b, cc⟩ => ⟨(KW_L f2).tr (TV_L cc), .inl ⟨a, _, b, .inl (m2 (by simp))⟩⟩)
  | nil =>
    rw [ic_f (show ¬ (0 : Int32) < Int32.ofNat ([] : List Nat).length by decide)]
    have R := m1 rfl
    have j4 : c2.length + 0 = _ := j4
    by_cases y : isSN tp Tn n 59 = true
    · refine Hm_cIv (v := 1) (sp54y (d := d) (c := 59) rfl hs (by omega) hT2 y) (fun M3 ⟨t3, f3⟩ => ?_)
      rw [ic_t (by decide)]
      exact Hm_some ⟨(KW_L f2).tr (TV_L f3), .inr ⟨rfl, n, c2, R, y, t3, vis_s h.2.2.1 (isSN_k y), k2.tv hk f3, by have := j1.2.2; exact this, by omega⟩⟩
    · refine Hm_cIv (v := 0) (sp54n (d := d) (c := 59) rfl hs (by omega) hT2 (nf y)) (fun M3 ⟨t3, f3⟩ => ?_)
      rw [ic_t (by decide)]
      exact Hm_some ⟨(KW_L f2).tr (TV_L f3), .inl ⟨rfl, _, t3, .inr ⟨n, c2, R, nf y, rfl⟩⟩⟩
theorem sp81 (hs : SG tp Tn) (hk : kLo kL) (h : CMs tp Tn kL ml n st c M) (hi : MIv 1 st c) (hR : Rch tp Tn ml (.inl X) (.inl (2, n, st, c))) (hj : jnw tp Tn n ≠ 0) : Hm (evD (d + 8) 81 [vR 2 0 50, vI (Int32.ofNat (jnw tp Tn n))] M) (fun r M' => Fr (LWr kL) M M' ∧ ((r = some (vI 0) ∧ CFt tp Tn ml X M') ∨ (r = some (vI 1) ∧ ∃ st' c', CMs tp Tn kL ml (n + 1) st' c' M' ∧ MIv 0 st' c' ∧ Rch tp Tn ml (.inl X) (.inl (0, n + 1, st', c'))))) := by
  have hT := h.2.1
  have hn := h.2.2.2
  obtain ⟨w1, w2, w3, w4, w5⟩ := jnw_rk hj
  have hr4 := wrk_le (w := jnw tp Tn n)
  have h41 := jn41 hj
  -- the join goes onto the stack
  have fin : ∀ (M2 : Mem) (st2 c2 : List Nat) (G : Nat) (o2 o3 : Option AV), CKs kL ml st2 c2 M2 → Fr (KWr kL) M M2 → MIv 1 st2 c2 → rkt st2 < wrk (jnw tp Tn n) → c2.length + st2.length = c.length + st.length → mst tp Tn ml (2, n, st, c) = .inl (0, n + 1, jnw tp Tn n :: st2, c2) → Hm (lp (d + 7) 81 (G + 1) 74 [some (vR 2 0 50), some (vI (Int32.ofNat (jnw tp Tn n))), o2, o3] M2) (fun r M' => Fr (LWr kL) M M' ∧ ((r = some (vI 0) ∧ CFt tp Tn ml X M') ∨ (r = some (vI 1) ∧ ∃ st' c', CMs tp Tn kL ml (n + 1) st' c' M' ∧ MIv 0 st' c' ∧ Rch tp Tn ml (.inl X) (.inl (0, n + 1, st', c'))))) := by
    intro M2 st2 c2 G o2 o3 k2 f2 i2 hr hl hm
    have h29 := (i2.1.l29 i2.2.1).1
    rw [e81_74, sp72k k2.1 (by omega), cVd_s]
    have hp := k2.push (w := jnw tp Tn n) hk
    have e3 : sI M2 50 3 (Int32.ofNat (nst (jnw tp Tn n :: st2))) = M2 := by
      rw [nst_j hj, ← k2.2.1]; exact sI_id
    rw [e3] at hp
    have f3 : Fr (KWr kL) M (sI (sI M2 51 st2.length (Int32.ofNat (jnw tp Tn n))) 50 2 (Int32.ofNat (st2.length + 1))) := (f2.sI (by unfold KWr; omega)).sI (by unfold KWr; omega)
    refine Hm_cVv (sp11n hs (hT.kw hk f3)) (fun M4 ⟨t4, f4⟩ => ?_)
    exact Hm_some ⟨(KW_L f3).tr (TV_L f4), .inr ⟨rfl, jnw tp Tn n :: st2, c2, ⟨hp.tv hk f4, t4, vis_s h.2.2.1 (jn_k hj), by show c2.length + (st2.length + 1) + 1 ≤ n + 1; omega⟩, i2.jo hr (by omega) (by omega), hR.tr (Rch.sp hm)⟩⟩
  have s7 : ∀ d, evD (d + 1) 78 [vI 10007] M = some (some (vI (Int32.ofNat 2)), M) := fun d => sp78 (w := 10007) (by omega)
  rw [e81, sp78 (by omega), cIn_s, s7, cIn_s, i_eq (by omega) (by omega)]
  by_cases y : wrk (jnw tp Tn n) = 2
  · obtain ⟨j1, j2, j3, j4⟩ := hi.settle (q := 3) (by omega)
    have hm : mst tp Tn ml (2, n, st, c) = if rkt (sttl 3 st c).1 = 2 then .inr (.inr (flt tp Tn 1 n)) else .inl (0, n + 1, jnw tp Tn n :: (sttl 3 st c).1, (sttl 3 st c).2) := by
      by_cases q : rkt (sttl 3 st c).1 = 2
      · rw [if_pos q]
        simp only [mst, show ¬ (2 = 0) by omega, show ¬ (2 = 1) by omega, if_false, h41, hj, y, q, and_self, if_true]; rfl
      · rw [if_neg q]
        simp only [mst, show ¬ (2 = 0) by omega, show ¬ (2 = 1) by omega, if_false, h41, hj, y, q, and_false, if_true]; rfl
    rw [ic_t y, lp0_eq, show (20000 : Nat) = 19999 + 1 from rfl, e81_21, ic_f (by decide), i_addl]
    refine Hm_cVv (sp77 (d := d + 5) (q := 3) (by rw [y]) (by omega) (by omega) hk h.1 hi (h.le hs)) (fun M2 ⟨f2, k2⟩ => ?_)
    generalize hp : sttl 3 st c = p at *
    obtain ⟨st2, c2⟩ := p
    simp only at j1 j2 j3 j4 k2 hm
    rw [show (19999 : Nat) = 19998 + 1 from rfl, e81_36, ic_f (by decide), k2.1]
    cases st2 with
    | nil =>
      rw [ic_f (show ¬ (0 : Int32) < Int32.ofNat ([] : List Nat).length by decide)]
      exact fin M2 [] c2 19997 _ _ k2 f2 j1 (by show 0 < _; omega) j4 (by rw [hm, if_neg (by show ¬ (0 = 2); omega)])
    | cons w s =>
      have h29 := (j1.1.l29 j1.2.1).1
      have hw := j1.1.2.2
      have hwr := wrk_le (w := w)
      have hlen : (w :: s).length = s.length + 1 := rfl
      rw [hlen] at h29
      have erk : rkt (w :: s) = wrk w := rfl
      rw [erk] at hm j2
      rw [hlen, ic_t (show (0 : Int32) < Int32.ofNat (s.length + 1) by rw [show (0 : Int32) = Int32.ofNat 0 from rfl, i_lt (by omega) (by omega)]; omega), ip1, ck (show s.length < 48 by omega) (by omega), i_nat (by omega), k2.2.2.1.1, sp78 (by omega), cIn_s, i_eq (by omega) (by omega), y]
      by_cases q : wrk w = 2
      · rw [if_pos q] at hm
        rw [ic_t q]
        exact Hm_mono (sp45c (d := d + 6) (e := 1) rfl (hT.kw hk f2)) (fun r M' ⟨a, b, cc⟩ => ⟨(KW_L f2).tr (TV_L cc), .inl ⟨a, _, b, hR.tr (Rch.sp hm)⟩⟩)
      · rw [if_neg q] at hm
        rw [ic_f q]
        exact fin M2 (w :: s) c2 19997 _ _ k2 f2 j1 (by rw [erk]; omega) j4 hm
  · obtain ⟨j1, j2, j3, j4⟩ := hi.settle (q := wrk (jnw tp Tn n)) w1
    have hm : mst tp Tn ml (2, n, st, c) = .inl (0, n + 1, jnw tp Tn n :: (sttl (wrk (jnw tp Tn n)) st c).1, (sttl (wrk (jnw tp Tn n)) st c).2) := by
      simp only [mst, show ¬ (2 = 0) by omega, show ¬ (2 = 1) by omega, if_false, h41, hj, y, false_and]; rfl
    rw [ic_f y, lp0_eq, show (20000 : Nat) = 19999 + 1 from rfl, e81_21, ic_t rfl]
    refine Hm_cVv (sp77 (d := d + 5) (q := wrk (jnw tp Tn n)) rfl w1 (by omega) hk h.1 hi (h.le hs)) (fun M2 ⟨f2, k2⟩ => ?_)
    rw [show (19999 : Nat) = 19998 + 1 from rfl, e81_36, ic_t rfl]
    exact fin M2 _ _ 19997 _ _ k2 f2 j1 j2 j4 hm
theorem sp70 {p : Int32} (hs : SG tp Tn) (hk : kLo kL) (hp : p = b2 ml) (hT : TA tp Tn n M) (hv : vis tp Tn n) (hk0 : kS tp Tn n ≠ 0) (h0 : M.1 kL 0 = 0) : Hm (evD (d + 11) 70 [vR 2 0 50, vR 1 0 kL, vI p] M) (fun r M' => Fr (LWr kL) M M' ∧ LOk tp Tn kL ml (0, n + 1, [], []) r M') := by
  have hk' := hk
  unfold kLo at hk'
  subst hp
  have eb : b2 ml &&& 1 = b2 ml := by cases ml <;> decide
  rw [e70, ic_t h0, ic_t eb, e3, cVd_s]
  generalize hA : sI (sI (sI (sI (sR M 50 4 kL) 50 5 (b2 ml)) kL 2 0) kL 0 0) kL 0 1 = A
  have fA : Fr (KWr kL) M A := by
    rw [← hA]
    exact ((((Fr.rf.sR (by unfold KWr; omega)).sI (by unfold KWr; omega)).sI (by unfold KWr; omega)).sI (by unfold KWr; omega)).sI (by unfold KWr; omega)
  have a1 : A.2.2 50 4 = kL := by rw [← hA]; simp [sI, sR]
  have a2 : A.1 50 5 = b2 ml := by rw [← hA, sI_ne (by omega), sI_ne (by omega), sI_ne (by omega)]; exact sI_eq
  have a3 : A.1 kL 2 = 0 := by rw [← hA, sI_ne (by omega), sI_ne (by omega)]; exact sI_eq
  have a4 : A.1 kL 0 = 1 := by rw [← hA]; exact sI_eq
  refine Hm_cVv (sp11n (d := d + 3) hs (hT.kw hk fA)) (fun M1 ⟨t1, f1⟩ => ?_)
  have tv : ∀ x j, x ≠ 1 → ¬ TV x j := fun x j hx z => by unfold TV at z; omega
  have k1 : CKs kL ml [] [] (sI (sI M1 50 2 0) 50 3 0) := by
    refine ⟨by rw [sI_ne (by omega)]; exact sI_eq, sI_eq, trivial, (f1.r (tv _ _ (by omega))).trans a1, ?_, ?_, fun i hi => absurd hi (by simp), ?_⟩
    · rw [sI_ne (by omega), sI_ne (by omega), f1.i (tv _ _ (by omega))]; exact a2
    · rw [sI_ne (by omega), sI_ne (by omega), f1.i (tv _ _ (by omega))]; exact a3
    · rw [sI_ne (by omega), sI_ne (by omega), f1.i (tv _ _ (by omega))]; exact a4
  have f2 : Fr (LWr kL) M (sI (sI M1 50 2 0) 50 3 0) := (((KW_L fA).tr (TV_L f1)).sI (.inr (by unfold KWr; omega))).sI (.inr (by unfold KWr; omega))
  have t2 : TA tp Tn (n + 1) (sI (sI M1 50 2 0) 50 3 0) := t1.kw (kL := kL) hk ((Fr.rf.sI (by unfold KWr; omega)).sI (by unfold KWr; omega))
  have c2 : CMs tp Tn kL ml (n + 1) [] [] (sI (sI M1 50 2 0) 50 3 0) := ⟨k1, t2, vis_s hv hk0, by show 0 + 0 + 1 ≤ n + 1; omega⟩
  rw [lp0_eq]
  refine lp_ms (d := d + 10) (x := 70) (pc := 54) 1 10 (fun m lv M2 => Fr (LWr kL) M M2 ∧ ∃ i o n1 st1 c1, lv = [some (vR 2 0 50), some (vR 1 0 kL), some (vI (b2 ml)), some (vI (Int32.ofNat i)), o] ∧ i + 1 ≤ n1 ∧ m = 1001 - n1 ∧ CMs tp Tn kL ml n1 st1 c1 M2 ∧ MIv 0 st1 c1 ∧ Rch tp Tn ml (.inl (0, n + 1, [], [])) (.inl (0, n1, st1, c1))) ?_ (1001 - (n + 1)) _ _ 20000 (by omega) ⟨f2, 0, none, n + 1, [], [], rfl, by omega, rfl, c2, MIv.nil, Rch.rf⟩
  rintro m lv M2 F hF ⟨g2, i, o, n1, st1, c1, rfl, hi1, rfl, h1, i1, r1⟩ z
  obtain ⟨G, rfl⟩ : ∃ G, F = G + 1 := ⟨F - 1, by omega⟩
  have h1000 := h1.n1 hs
  rw [e70_54b, show (1000 : Int32) = Int32.ofNat 1000 from rfl, i_lt (by omega) (by omega), ic_t (by omega)]
  refine Hm_cIn (sp71 (d := d + 2) hs hk h1 i1) (fun r M3 ⟨f3, x3⟩ => ?_)
  rcases x3 with ⟨rfl, e, e1, e2⟩ | ⟨rfl, n3, st3, h3, i3, r3, l3, o3⟩
  · refine ⟨0, rfl, ?_⟩
    rw [ic_t rfl]
    exact Hm_some ⟨g2.tr f3, .inl ⟨rfl, e, e1, .inl (r1.tr e2)⟩⟩
  refine ⟨1, rfl, ?_⟩
  rw [ic_f (by decide)]
  refine Hm_cIn (sp73 (d := d + 2) hs hk h3 i3 o3) (fun r M4 ⟨f4, x4⟩ => ?_)
  rcases x4 with ⟨rfl, e, e1, e2⟩ | ⟨rfl, st4, c4, h4, i4, r4⟩
  · refine ⟨0, rfl, ?_⟩
    rw [ic_t rfl]
    exact Hm_some ⟨(g2.tr f3).tr f4, .inl ⟨rfl, e, e1, .inl ((r1.tr r3).tr e2)⟩⟩
  refine ⟨1, rfl, ?_⟩
  rw [ic_f (by decide)]
  refine Hm_cVv (sp76 (d := d + 2) hs hk h4 i4) (fun M5 ⟨f5, n5, st5, c5, h5, i5, l5, x5⟩ => ?_)
  have R := (r1.tr r3).tr r4
  have x5' : CEn tp Tn ml (0, n + 1, [], []) n5 st5 c5 := by
    rcases x5 with ⟨a, b⟩ | ⟨a, b, cc⟩
    · exact .inl ⟨R.tr a, b⟩
    · exact .inr ⟨a, b, R.tr cc⟩
  rw [sp79 (d := d + 4) hs h5.2.1, cIn_s]
  have h5000 := h5.n1 hs
  by_cases j0 : jnw tp Tn n5 = 0
  · rw [if_pos j0, ic_t rfl]
    refine Hm_cIn (sp80 (d := d + 1) hs hk h5 i5 x5' j0) (fun r M6 ⟨f6, x6⟩ => ?_)
    have fr := (((g2.tr f3).tr f4).tr f5).tr f6
    have x6' := x6
    rcases x6 with ⟨rfl, _⟩ | ⟨rfl, _⟩
    · exact ⟨0, rfl, by rw [ic_t (by decide)]; exact Hm_some ⟨fr, x6'⟩⟩
    · exact ⟨1, rfl, by rw [ic_t (by decide)]; exact Hm_some ⟨fr, x6'⟩⟩
  · have hjb := jnw_rk j0
    have en1 : ¬ Int32.ofNat (jnw tp Tn n5) = -1 := by
      intro q
      have := congrArg (fun x : Int32 => x.toInt) q
      simp only [i_toInt (show jnw tp Tn n5 < 2147483648 by omega)] at this
      have e : (-1 : Int32).toInt = -1 := by decide
      rw [e] at this; omega
    have R5 : Rch tp Tn ml (.inl (0, n + 1, [], [])) (.inl (2, n5, st5, c5)) := by
      rcases x5' with ⟨a, _⟩ | ⟨_, b, _⟩
      · exact a
      · rw [jn41 j0] at b; exact absurd b (by decide)
    rw [if_neg j0, ic_f en1]
    refine Hm_cIn (sp81 (d := d + 2) hs hk h5 i5 R5 j0) (fun r M6 ⟨f6, x6⟩ => ?_)
    have fr := (((g2.tr f3).tr f4).tr f5).tr f6
    rcases x6 with ⟨rfl, e, e1, e2⟩ | ⟨rfl, st6, c6, h6, i6, r6⟩
    · refine ⟨0, rfl, ?_⟩
      rw [ic_t rfl]
      exact Hm_some ⟨fr, .inl ⟨rfl, e, e1, .inl e2⟩⟩
    · refine ⟨1, rfl, ?_⟩
      rw [ic_f (by decide), i_addl]
      have h6000 := h6.n1 hs
      exact z (1001 - (n5 + 1)) _ M6 G (by omega) (by omega) ⟨fr, i + 1, _, n5 + 1, st6, c6, rfl, by omega, rfl, h6, i6, r6⟩
end CLAW3
