/-! YARD: the class's clash, nights, mild, laws -/
section CLINE3
variable {tp : Nat → Int32} {Tn d n : Nat} {M M' M'' M0 : Mem} {D D' : Dr}
theorem sp61c {kR m : Nat} {f : Nat → List Nat} (hs : SG tp Tn) (h : TA tp Tn n M) (hR : RL kR m f M) : Hm (evD (d + 6) 61 [vR 7 0 1, vR 4 0 kR] M) (fun r M' => Fr TV M M' ∧ opst (chk tp Tn [(namO tp Tn n m f, n)]) (TA tp Tn n M' ∧ M'.1 1 3 = Int32.ofNat (fnd f (kW tp Tn n) m)) r M') := by
  refine Hm_mono (sp61 hs h hR) (fun r M' ⟨a, b⟩ => ⟨a, ?_⟩)
  by_cases hn : namO tp Tn n m f = 0
  · rw [if_pos hn] at b; rw [chk_0 hn]; exact b
  · rw [if_neg hn] at b; exact op1 hn b.1 b.2
theorem sp63c {kR m : Nat} {f : Nat → List Nat} (hs : SG tp Tn) (h : TA tp Tn n M) (hR : RL kR m f M) : Hm (evD (d + 8) 63 [vR 7 0 1, vR 4 0 kR] M) (fun r M' => Fr TV M M' ∧ opst (chk tp Tn [(namO tp Tn n m f, n)]) (TA tp Tn (n + 1) M' ∧ M'.1 1 3 = Int32.ofNat (fnd f (kW tp Tn n) m)) r M') := by
  refine Hm_mono (sp63 hs h hR) (fun r M' ⟨a, b⟩ => ⟨a, ?_⟩)
  by_cases hn : namO tp Tn n m f = 0
  · rw [if_pos hn] at b; rw [chk_0 hn]; exact b
  · rw [if_neg hn] at b; exact op1 hn b.1 b.2
def FCl (a b c j : Nat) : Prop := TV c j ∨ (c = 41 ∧ (j = a ∨ j = b)) ∨ (c = 26 ∧ j = 12)
theorem DCl.keep {W : Nat → Nat → Prop} (h : DCl D M) (hf : Fr W M M') (hw : ∀ c j, 26 ≤ c → c ≤ 49 → ¬ W c j) : DCl D M' := by
  obtain ⟨⟨r0, r1, r2⟩, a2, a3, ⟨a4, a5, a6, a7, a8⟩, a9, a10⟩ := h
  have rl : ∀ {kR m : Nat} {f : Nat → List Nat}, 26 ≤ kR → kR ≤ 32 → RL kR m f M → RL kR m f M' := fun x y z => z.fr hf (hw _ _ (by omega) (by omega)) (fun j _ => hw _ _ (by omega) (by omega))
  refine ⟨⟨rl (by omega) (by omega) r0, rl (by omega) (by omega) r1, rl (by omega) (by omega) r2⟩, fun c q hc i hi => ?_, fun a b ha hb => ?_, ⟨(hf.i (hw _ _ (by omega) (by omega))).trans a4, (hf.i (hw _ _ (by omega) (by omega))).trans a5, fun i hi => (hf.i (hw _ _ (by omega) (by omega))).trans (a6 i hi), (hf.i (hw _ _ (by omega) (by omega))).trans a7, (hf.i (hw _ _ (by omega) (by omega))).trans a8⟩, a9.fr hf (fun j => ⟨hw _ _ (by omega) (by omega), hw _ _ (by omega) (by omega)⟩), a10.fr hf (fun j => ⟨hw _ _ (by omega) (by omega), hw _ _ (by omega) (by omega)⟩)⟩
  · have := rwq_b hc
    exact (hf.i (hw _ _ (by omega) (by omega))).trans (a2 c q hc i hi)
  · rw [hf.i (hw _ _ (by omega) (by omega))]; exact a3 a b ha hb
theorem DCl.tv (h : DCl D M) (hf : Fr TV M M') : DCl D M' := h.keep hf (fun c j h1 h2 z => by have := z.1; omega)
theorem DCl.cla {a b : Nat} (h : DCl D M) (ha : a < 6) (hb : b < 6) (hab : a ≠ b) (hf : Fr (FCl a b) M M') (h1 : M'.1 41 a = M.1 41 a ||| (1 <<< (Int32.ofNat b &&& 31))) (h2 : M'.1 41 b = M.1 41 b ||| (1 <<< (Int32.ofNat a &&& 31))) (h3 : M'.1 26 12 = Int32.ofNat (D.pr + 1)) : DCl (D.cla a b) M' := by
  obtain ⟨⟨r0, r1, r2⟩, a2, a3, ⟨a4, a5, a6, a7, a8⟩, a9, a10⟩ := h
  have hw : ∀ c j, 26 ≤ c → c ≤ 49 → c ≠ 41 → (c ≠ 26 ∨ j ≠ 12) → ¬ FCl a b c j := fun c j x1 x2 x3 x4 z => by unfold FCl TV at z; omega
  have rl : ∀ {kR m : Nat} {f : Nat → List Nat}, 27 ≤ kR → kR ≤ 32 → RL kR m f M → RL kR m f M' := fun x y z => z.fr hf (hw _ _ (by omega) (by omega) (by omega) (by omega)) (fun j _ => hw _ _ (by omega) (by omega) (by omega) (by omega))
  refine ⟨⟨rl (by omega) (by omega) r0, rl (by omega) (by omega) r1, rl (by omega) (by omega) r2⟩, fun c q hc i hi => ?_, fun x y hx hy => ?_, ⟨h3, (hf.i (hw _ _ (by omega) (by omega) (by omega) (by omega))).trans a5, fun i hi => (hf.i (hw _ _ (by omega) (by omega) (by omega) (by omega))).trans (a6 i hi), (hf.i (hw _ _ (by omega) (by omega) (by omega) (by omega))).trans a7, (hf.i (hw _ _ (by omega) (by omega) (by omega) (by omega))).trans a8⟩, a9.fr hf (fun j => ⟨hw _ _ (by omega) (by omega) (by omega) (by omega), hw _ _ (by omega) (by omega) (by omega) (by omega)⟩), a10.fr hf (fun j => ⟨hw _ _ (by omega) (by omega) (by omega) (by omega), hw _ _ (by omega) (by omega) (by omega) (by omega)⟩)⟩
  · have := rwq_b hc
    exact (hf.i (hw _ _ (by omega) (by omega) (by omega) (by omega))).trans (a2 c q hc i hi)
  · show bt (M'.1 41 x) y = (D.cl x y || (decide (x = a ∧ y = b) || decide (x = b ∧ y = a)))
    by_cases xa : x = a
    · subst xa
      rw [h1, bt_set (by omega) hy, a3 x y hx hy]
      simp [hab]
    · by_cases xb : x = b
      · subst xb
        rw [h2, bt_set (by omega) hy, a3 x y hx hy]
        simp [xa]
      · rw [hf.i (fun z => by unfold FCl TV at z; omega), a3 x y hx hy]
        simp [xa, xb]
/-- a clash -/
theorem sp62 (hs : SG tp Tn) (h : TA tp Tn n M) (hv : vis tp Tn n) (hk : kS tp Tn n ≠ 0) (hD : DCl D M) : Hm (evD (d + 10) 62 [vR 10 0 49] M) (fun r M' => Fr DWc M M' ∧ lpst tp Tn (pCla tp Tn D n) r M') := by
  rw [e62]
  refine Hm_cVv (sp11n (d := d + 2) hs h) (fun M1 ⟨t1, f1⟩ => ?_)
  have no : ∀ c j, c ≠ 1 → ¬ TV c j := fun c j hc z => hc z.1
  have R1 : RL 31 (D.cs 2) (D.nm 2) M1 := hD.1.2.2.fr f1 (no _ _ (by omega)) (fun j _ => no _ _ (by omega))
  refine Hm_mono (Q := fun r M' => Fr DWc M M' ∧ pst tp Tn (chk tp Tn [(namO tp Tn (n + 1) (D.cs 2) (D.nm 2), n + 1), (namO tp Tn (n + 2) (D.cs 2) (D.nm 2), n + 2), (if fnd (D.nm 2) (kW tp Tn (n + 2)) (D.cs 2) = fnd (D.nm 2) (kW tp Tn (n + 1)) (D.cs 2) ∨ D.cl (fnd (D.nm 2) (kW tp Tn (n + 1)) (D.cs 2)) (fnd (D.nm 2) (kW tp Tn (n + 2)) (D.cs 2)) = true then 3 else 0, n + 2), (sO tp Tn (n + 3) 59, n + 3)]) (D.cla (fnd (D.nm 2) (kW tp Tn (n + 1)) (D.cs 2)) (fnd (D.nm 2) (kW tp Tn (n + 2)) (D.cs 2))) (n + 4) r M') ?_ (fun r M' x => ⟨x.1, lpst_of x.2⟩)
  refine clp [(namO tp Tn (n + 1) (D.cs 2) (D.nm 2), n + 1)] [(namO tp Tn (n + 2) (D.cs 2) (D.nm 2), n + 2), (if fnd (D.nm 2) (kW tp Tn (n + 2)) (D.cs 2) = fnd (D.nm 2) (kW tp Tn (n + 1)) (D.cs 2) ∨ D.cl (fnd (D.nm 2) (kW tp Tn (n + 1)) (D.cs 2)) (fnd (D.nm 2) (kW tp Tn (n + 2)) (D.cs 2)) = true then 3 else 0, n + 2), (sO tp Tn (n + 3) 59, n + 3)] (sp63c (d := d + 1) hs t1 R1) TVdw (f1.up TVdw) (fun M2 f2 a2 q2 => ?_)
  obtain ⟨t2, e2⟩ := a2
  obtain ⟨o1, -⟩ := chk_no q2
  have R2 : RL 31 (D.cs 2) (D.nm 2) M2 := R1.fr f2 (no _ _ (by omega)) (fun j _ => no _ _ (by omega))
  refine clp [(namO tp Tn (n + 2) (D.cs 2) (D.nm 2), n + 2)] [(if fnd (D.nm 2) (kW tp Tn (n + 2)) (D.cs 2) = fnd (D.nm 2) (kW tp Tn (n + 1)) (D.cs 2) ∨ D.cl (fnd (D.nm 2) (kW tp Tn (n + 1)) (D.cs 2)) (fnd (D.nm 2) (kW tp Tn (n + 2)) (D.cs 2)) = true then 3 else 0, n + 2), (sO tp Tn (n + 3) 59, n + 3)] (sp61c (d := d + 3) hs t2 R2) TVdw ((f1.tr f2).up TVdw) (fun M3 f3 a3 q3 => ?_)
  obtain ⟨t3, e3⟩ := a3
  obtain ⟨o2, -⟩ := chk_no q3
  have ha := namO_f o1
  have hb := namO_f o2
  have h6 := R2.2.1
  have f03 : Fr TV M M3 := (f1.tr f2).tr f3
  generalize fnd (D.nm 2) (kW tp Tn (n + 1)) (D.cs 2) = a at *
  generalize fnd (D.nm 2) (kW tp Tn (n + 2)) (D.cs 2) = b at *
  rw [e3, e2, i_eq (by omega) (by omega)]
  by_cases ab : b = a
  · rw [ic_t ab, if_pos (.inl ab)]
    refine Hm_mono (sp45c (d := d + 8) (e := 3) rfl t3) (fun r M' ⟨x, y, z⟩ => ⟨(f03.tr z).up TVdw, ?_⟩)
    exact op1 (by omega) x y
  rw [ic_f ab, ck (show a < 6 by omega) (by omega), i_nat (by omega), sp64 (by omega), cIn_s]
  have eb : bt (M3.1 41 a) b = D.cl a b := by
    rw [f03.i (no _ _ (by omega))]; exact hD.2.2.1 a b (by omega) (by omega)
  rw [eb]
  by_cases hc : D.cl a b = true
  · rw [hc, ic_f (by decide), if_pos (.inr rfl)]
    refine Hm_mono (sp45c (d := d + 8) (e := 3) rfl t3) (fun r M' ⟨x, y, z⟩ => ⟨(f03.tr z).up TVdw, ?_⟩)
    exact op1 (by omega) x y
  · have D3 := hD.tv f03
    rw [if_neg (fun z => by rcases z with z | z; exact ab z; exact hc z), chk_0 rfl, nf hc, ic_t (by decide), e65, ck (show a < 6 by omega) (by omega), ck (show a < 6 by omega) (by omega), ck (show b < 6 by omega) (by omega), ck (show b < 6 by omega) (by omega), i_nat (by omega), i_nat (by omega), cVd_s, sI_ne (k := 26 + 15) (by omega), sI_ne (k := 26 + 15) (b := 12) (by omega), sI_ne (k := 26 + 15) (b := 12) (by omega), D3.2.2.2.1.1, i_addl]
    generalize hA : sI (sI (sI M3 (26 + 15) a (M3.1 (26 + 15) a ||| 1 <<< (Int32.ofNat b &&& 31))) (26 + 15) b (M3.1 (26 + 15) b ||| 1 <<< (Int32.ofNat a &&& 31))) 26 12 (Int32.ofNat (D.pr + 1)) = A
    have fA : Fr (FCl a b) M3 A := by rw [← hA]; exact ((Fr.rf.sI (by unfold FCl; omega)).sI (by unfold FCl; omega)).sI (by unfold FCl; omega)
    have DA : DCl (D.cla a b) A := by
      refine D3.cla (by omega) (by omega) (fun z => ab z.symm) fA ?_ ?_ ?_
      · rw [← hA, sI_ne (by omega), sI_ne (by omega)]; exact sI_eq
      · rw [← hA, sI_ne (by omega)]; exact sI_eq
      · rw [← hA]; exact sI_eq
    have tA : TA tp Tn (n + 2) A := by
      rw [← hA]
      exact t3.fr (W := fun c j => 26 ≤ c) (((Fr.rf.sI (by omega)).sI (by omega)).sI (by omega)) (fun c j hc => by omega)
    refine Hm_cVv (sp11n (d := d + 2) hs tA) (fun M4 ⟨t4, f4⟩ => ?_)
    have fw : Fr DWc M M4 := ((f03.up TVdw).tr (fA.up (fun c j z => by unfold FCl at z; rcases z with z | z | z; exact .inl z; exact .inr (by omega); exact .inr (by omega)))).tr (f4.up TVdw)
    refine cll [(sO tp Tn (n + 3) 59, n + 3)] (sp54c (d := d + 1) (c := 59) rfl hs (by omega) t4) TVdw fw (fun M5 f5 t5 q5 => ?_)
    obtain ⟨o5, -⟩ := chk_no q5
    exact ⟨t5, vis_s (vis_s (vis_s (vis_s hv hk) (namO_k o1)) (namO_k o2)) (sO_k o5), (DA.tv f4).tv f5⟩
/-- mild -/
theorem sp69 (hs : SG tp Tn) (h : TA tp Tn n M) (hv : vis tp Tn n) (hk : kS tp Tn n ≠ 0) (hD : DCl D M) : Hm (evD (d + 10) 69 [vR 10 0 49] M) (fun r M' => Fr DWc M M' ∧ lpst tp Tn (pMi tp Tn D n) r M') := by
  have h3 : M.1 49 3 = b2 D.mt := hD.2.2.2.1.2.2.2.2
  rw [e69, h3, b2_0]
  unfold pMi
  by_cases hm : D.mt = true
  · rw [ic_f (by rw [hm]; decide), if_pos hm]
    exact Hm_mono (sp45c (d := d + 8) (e := 3) rfl h) (fun r M' ⟨x, y, z⟩ => ⟨z.up TVdw, x, y⟩)
  rw [ic_t (nf hm), if_neg hm]
  refine lfin ?_
  have no : ∀ c j, c ≠ 1 → ¬ TV c j := fun c j hc z => hc z.1
  have t0 : TA tp Tn n (sI M 49 3 1) := h.fr (W := fun c j => c = 49) (Fr.rf.sI rfl) (fun c j hc => by omega)
  refine Hm_cVv (sp11n (d := d + 2) hs t0) (fun M1 ⟨t1, f1⟩ => ?_)
  have g1 : Fr (fun c j => TV c j ∨ (c = 49 ∧ j = 3) ∨ (c = 26 ∧ j = 15)) M M1 := (Fr.rf.sI (.inr (.inl ⟨rfl, rfl⟩))).tr (f1.up (fun c j z => .inl z))
  have dw : ∀ c j, (TV c j ∨ (c = 49 ∧ j = 3) ∨ (c = 26 ∧ j = 15)) → DWc c j := fun c j z => by
    rcases z with z | z | z
    · exact .inl z
    · exact .inr (by omega)
    · exact .inr (by omega)
  refine Hm_cIn (sp53 (d := d + 7) (lo := 0) (hi := 10) (by omega) (by omega) t1) (fun r M2 x2 => ?_)
  by_cases hn : numO tp Tn (n + 1) 0 10 = 0
  · rw [if_pos hn] at x2
    obtain ⟨rfl, rfl⟩ := x2
    refine ⟨1, rfl, ?_⟩
    obtain ⟨k2, -, l10⟩ := numO_k hn
    have e12 : M2.1 1 2 = Int32.ofNat (kV tp Tn (n + 1)) := t1.2.2.2.2.2 k2
    rw [ic_f (by decide), e12, chk_0 hn]
    have t2 : TA tp Tn (n + 1) (sI M2 26 15 (Int32.ofNat (kV tp Tn (n + 1)))) := t1.fr (W := fun c j => c = 26) (Fr.rf.sI rfl) (fun c j hc => by omega)
    refine Hm_cVv (sp11n (d := d + 2) hs t2) (fun M4 ⟨t4, f4⟩ => ?_)
    have g4 : Fr (fun c j => TV c j ∨ (c = 49 ∧ j = 3) ∨ (c = 26 ∧ j = 15)) M M4 := (g1.sI (.inr (.inr ⟨rfl, rfl⟩))).tr (f4.up (fun c j z => .inl z))
    refine cll [(sO tp Tn (n + 2) 59, n + 2)] (sp54c (d := d + 1) (c := 59) rfl hs (by omega) t4) TVdw (g4.up dw) (fun M5 f5 t5 q5 => ?_)
    obtain ⟨o5, -⟩ := chk_no q5
    have g5 : Fr (fun c j => TV c j ∨ (c = 49 ∧ j = 3) ∨ (c = 26 ∧ j = 15)) M M5 := g4.tr (f5.up (fun c j z => .inl z))
    have kp : ∀ c j, 26 ≤ c → c ≤ 49 → (c ≠ 49 ∨ j ≠ 3) → (c ≠ 26 ∨ j ≠ 15) → ¬ (TV c j ∨ (c = 49 ∧ j = 3) ∨ (c = 26 ∧ j = 15)) := fun c j x1 x2 x3 x4 z => by unfold TV at z; omega
    refine ⟨t5, vis_s (vis_s (vis_s hv hk) (by omega)) (sO_k o5), ?_⟩
    obtain ⟨⟨r0, r1, r2⟩, a2, a3, ⟨a4, a5, a6, a7, a8⟩, a9, a10⟩ := hD
    have rl : ∀ {kR m : Nat} {f : Nat → List Nat}, 27 ≤ kR → kR ≤ 32 → RL kR m f M → RL kR m f M5 := fun x y z => z.fr g5 (kp _ _ (by omega) (by omega) (by omega) (by omega)) (fun j _ => kp _ _ (by omega) (by omega) (by omega) (by omega))
    refine ⟨⟨rl (by omega) (by omega) r0, rl (by omega) (by omega) r1, rl (by omega) (by omega) r2⟩, fun c q hc i hi => ?_, fun a b ha hb => ?_, ⟨(g5.i (kp _ _ (by omega) (by omega) (by omega) (by omega))).trans a4, (g5.i (kp _ _ (by omega) (by omega) (by omega) (by omega))).trans a5, fun i hi => (g5.i (kp _ _ (by omega) (by omega) (by omega) (by omega))).trans (a6 i hi), ?_, ?_⟩, a9.fr g5 (fun j => ⟨kp _ _ (by omega) (by omega) (by omega) (by omega), kp _ _ (by omega) (by omega) (by omega) (by omega)⟩), a10.fr g5 (fun j => ⟨kp _ _ (by omega) (by omega) (by omega) (by omega), kp _ _ (by omega) (by omega) (by omega) (by omega)⟩)⟩
    · have := rwq_b hc
      exact (g5.i (kp _ _ (by omega) (by omega) (by omega) (by omega))).trans (a2 c q hc i hi)
    · rw [g5.i (kp _ _ (by omega) (by omega) (by omega) (by omega))]; exact a3 a b ha hb
    · rw [f5.i (no _ _ (by omega)), f4.i (no _ _ (by omega))]; exact sI_eq
    · rw [f5.i (no _ _ (by omega)), f4.i (no _ _ (by omega)), sI_ne (by omega), f1.i (no _ _ (by omega))]; exact sI_eq
  · rw [if_neg hn] at x2
    obtain ⟨rfl, a, b⟩ := x2
    refine ⟨0, rfl, ?_⟩
    rw [ic_t rfl]
    exact Hm_some ⟨(g1.up dw).tr (b.up TVdw), op1 hn rfl a⟩
/-- nights -/
theorem pNts_s {f k : Nat} : pNts tp Tn (f + 1) n k = if k ≠ 0 ∧ kS tp Tn (n + k) ≠ 2 then .inl k else if numO tp Tn (n + k) 0 9 ≠ 0 then .inr (flt tp Tn (numO tp Tn (n + k) 0 9) (n + k)) else if k = 14 then .inr (flt tp Tn 5 (n + k)) else pNts tp Tn f n (k + 1) := rfl
def FNi (c j : Nat) : Prop := TV c j ∨ (c = 26 ∧ j = 14) ∨ c = 42
theorem FNi.dw : ∀ c j, FNi c j → DWc c j := fun c j z => by
  rcases z with z | z | z
  · exact .inl z
  · exact .inr (by omega)
  · exact .inr (by omega)
theorem sp68k {k : Nat} {v : Int32} (h : M.1 26 14 = Int32.ofNat k) (hk : k < 14) : evD (d + 1) 68 [vR 9 0 26, vI v] M = some (none, sI (sI M 42 k v) 26 14 (Int32.ofNat (k + 1))) := by
  rw [e68, h, i_lt (by omega) (by omega), ic_t hk, ck hk (by omega), i_nat (by omega), sI_ne (by omega), h, i_addl]
theorem sp66 (hs : SG tp Tn) (h : TA tp Tn n M) (hv : vis tp Tn n) (hk : kS tp Tn n ≠ 0) (hD : DCl D M) (h14 : D.nw ≤ 14) : Hm (evD (d + 10) 66 [vR 10 0 49] M) (fun r M' => Fr DWc M M' ∧ lpst tp Tn (pNi tp Tn D n) r M') := by
  have h3 : M.1 26 14 = Int32.ofNat D.nw := hD.2.2.2.1.2.1
  rw [e66, h3, show (0 : Int32) = Int32.ofNat 0 from rfl, i_lt (by omega) (by omega)]
  by_cases hm : D.nw = 0
  rotate_left
  · rw [ic_t (by omega)]
    unfold pNi
    rw [if_pos hm]
    exact Hm_mono (sp45c (d := d + 8) (e := 3) rfl h) (fun r M' ⟨x, y, z⟩ => ⟨z.up TVdw, x, y⟩)
  rw [ic_f (by omega)]
  have no : ∀ c j, c ≠ 1 → ¬ TV c j := fun c j hc z => hc z.1
  refine Hm_cVv (sp11n (d := d + 2) hs h) (fun M1 ⟨t1, f1⟩ => ?_)
  generalize hP : pNi tp Tn D n = P
  have ep0 : P = pNi2 tp Tn D n (pNts tp Tn 16 (n + 1) 0) := by rw [← hP]; unfold pNi; rw [if_neg (by omega)]
  rw [lp0_eq]
  refine lp_ms (d := d + 9) (x := 66) (pc := 28) 1 10 (fun m lv M2 => ∃ i, lv = [some (vR 10 0 49), some (vI (Int32.ofNat i))] ∧ m = 15 - i ∧ i ≤ 14 ∧ Fr FNi M M2 ∧ TA tp Tn (n + 1 + i) M2 ∧ vis tp Tn (n + 1 + i) ∧ M2.1 26 14 = Int32.ofNat i ∧ (∀ j, j < i → M2.1 42 j = Int32.ofNat (kV tp Tn (n + 1 + j))) ∧ P = pNi2 tp Tn D n (pNts tp Tn (16 - i) (n + 1) i)) ?_ 15 _ _ 20000 (by omega) ⟨0, rfl, rfl, by omega, f1.up (fun c j z => .inl z), t1, vis_s hv hk, by rw [f1.i (no _ _ (by omega)), h3, hm], fun j hj => by omega, ep0⟩
  rintro m lv M2 F hF ⟨i, rfl, rfl, hi, g2, t2, v2, c2, w2, ep⟩ z
  obtain ⟨G, rfl⟩ : ∃ G, F = G + 1 := ⟨F - 1, by omega⟩
  rw [show 16 - i = (15 - i) + 1 by omega, pNts_s] at ep
  -- the sign behind them
  have fin : kS tp Tn (n + 1 + i) ≠ 2 → i ≠ 0 → Hm (cIn (evD (d + 9) 54 [vR 7 0 1, vI 59] M2) fun v2 M1 => ic (v2 &&& 1 = v2) (some (some (vI v2), M1)) none) (fun r M' => Fr DWc M M' ∧ lpst tp Tn P r M') := by
    intro y1 y2
    rw [if_pos ⟨y2, y1⟩] at ep
    rw [ep]
    refine Hm_mono (Q := fun r M' => Fr DWc M M' ∧ pst tp Tn (chk tp Tn [(sO tp Tn (n + 1 + i) 59, n + 1 + i)]) (D.cs, D.nm, fun c i' => if c = 42 then kV tp Tn (n + 1 + i') else D.g c i', D.cl, D.pr, i, D.2.2.2.2.2.2) (n + 2 + i) r M') ?_ (fun r M' x => ⟨x.1, lpst_of x.2⟩)
    refine cll [(sO tp Tn (n + 1 + i) 59, n + 1 + i)] (sp54c (d := d + 1) (c := 59) rfl hs (by omega) t2) TVdw (g2.up FNi.dw) (fun M5 f5 t5 q5 => ?_)
    obtain ⟨o5, -⟩ := chk_no q5
    have g5 : Fr FNi M M5 := g2.tr (f5.up (fun c j z => .inl z))
    have kp : ∀ c j, 26 ≤ c → c ≤ 49 → c ≠ 42 → (c ≠ 26 ∨ j ≠ 14) → ¬ FNi c j := fun c j x1 x2 x3 x4 z => by unfold FNi TV at z; omega
    refine ⟨by rw [show n + 2 + i = n + 1 + i + 1 by omega]; exact t5, by rw [show n + 2 + i = n + 1 + i + 1 by omega]; exact vis_s v2 (sO_k o5), ?_⟩
    obtain ⟨⟨r0, r1, r2⟩, a2, a3, ⟨a4, a5, a6, a7, a8⟩, a9, a10⟩ := hD
    have rl : ∀ {kR m : Nat} {f : Nat → List Nat}, 27 ≤ kR → kR ≤ 32 → RL kR m f M → RL kR m f M5 := fun x y z => z.fr g5 (kp _ _ (by omega) (by omega) (by omega) (by omega)) (fun j _ => kp _ _ (by omega) (by omega) (by omega) (by omega))
    refine ⟨⟨rl (by omega) (by omega) r0, rl (by omega) (by omega) r1, rl (by omega) (by omega) r2⟩, fun c q hc j hj => ?_, fun a b ha hb => ?_, ⟨(g5.i (kp _ _ (by omega) (by omega) (by omega) (by omega))).trans a4, (f5.i (no _ _ (by omega))).trans c2, fun j hj => ?_, (g5.i (kp _ _ (by omega) (by omega) (by omega) (by omega))).trans a7, (g5.i (kp _ _ (by omega) (by omega) (by omega) (by omega))).trans a8⟩, a9.fr g5 (fun j => ⟨kp _ _ (by omega) (by omega) (by omega) (by omega), kp _ _ (by omega) (by omega) (by omega) (by omega)⟩), a10.fr g5 (fun j => ⟨kp _ _ (by omega) (by omega) (by omega) (by omega), kp _ _ (by omega) (by omega) (by omega) (by omega)⟩)⟩
    · have hb := rwq_b hc
      show M5.1 c j = Int32.ofNat (if c = 42 then kV tp Tn (n + 1 + j) else D.g c j)
      rw [if_neg (by omega)]
      exact (g5.i (kp _ _ (by omega) (by omega) (by omega) (by omega))).trans (a2 c q hc j hj)
    · rw [g5.i (kp _ _ (by omega) (by omega) (by omega) (by omega))]; exact a3 a b ha hb
    · show M5.1 42 j = Int32.ofNat (if 42 = 42 then kV tp Tn (n + 1 + j) else D.g 42 j)
      rw [if_pos rfl, f5.i (no _ _ (by omega))]
      exact w2 j hj
  -- one number more
  have one : ¬ (i ≠ 0 ∧ kS tp Tn (n + 1 + i) ≠ 2) → Hm (cIn (evD (d + 9) 53 [vR 7 0 1, vI 0, vI 9] M2) fun v4 M3 => ic (v4 = 0) (some (some (vI 0), M3)) (ic (Int32.ofNat i = 14) (cIn (evD (d + 9) 45 [vR 7 0 1, vI 5] M3) fun v8 M7 => ic (v8 &&& 1 = v8) (some (some (vI v8), M7)) none) (cVd (evD (d + 9) 68 [vR 9 0 26, vI (M3.1 1 2)] M3) fun M5 => cVd (evD (d + 9) 11 [vR 7 0 1] M5) fun M6 => lp (d + 9) 66 G 28 [some (vR 10 0 49), some (vI (Int32.ofNat i + 1))] M6))) (fun r M' => Fr DWc M M' ∧ lpst tp Tn P r M') := by
    intro y
    rw [if_neg y] at ep
    refine Hm_cIn (sp53 (d := d + 7) (lo := 0) (hi := 9) (by omega) (by omega) t2) (fun r M3 x3 => ?_)
    by_cases hn : numO tp Tn (n + 1 + i) 0 9 = 0
    · rw [if_pos hn] at x3
      obtain ⟨rfl, rfl⟩ := x3
      refine ⟨1, rfl, ?_⟩
      rw [if_neg (by omega)] at ep
      obtain ⟨k2, -, l9⟩ := numO_k hn
      have e12 : M3.1 1 2 = Int32.ofNat (kV tp Tn (n + 1 + i)) := t2.2.2.2.2.2 k2
      rw [ic_f (by decide), show (14 : Int32) = Int32.ofNat 14 from rfl, i_eq (by omega) (by omega)]
      by_cases i14 : i = 14
      · rw [if_pos i14] at ep
        rw [ic_t i14, ep]
        exact Hm_mono (sp45c (d := d + 8) (e := 5) rfl t2) (fun r M' ⟨x, y, z⟩ => ⟨(g2.up FNi.dw).tr (z.up TVdw), x, y⟩)
      · rw [if_neg i14] at ep
        rw [ic_f i14, e12, sp68k (d := d + 8) c2 (by omega), cVd_s, i_addl]
        have tA : TA tp Tn (n + 1 + i) (sI (sI M3 42 i (Int32.ofNat (kV tp Tn (n + 1 + i)))) 26 14 (Int32.ofNat (i + 1))) := t2.fr (W := fun c j => 26 ≤ c) ((Fr.rf.sI (by omega)).sI (by omega)) (fun c j hc => by omega)
        refine Hm_cVv (sp11n (d := d + 2) hs tA) (fun M6 ⟨t6, f6⟩ => ?_)
        refine z (15 - (i + 1)) _ _ G (by omega) (by omega) ⟨i + 1, rfl, rfl, by omega, ((g2.sI (.inr (.inr rfl))).sI (.inr (.inl ⟨rfl, rfl⟩))).tr (f6.up (fun c j z => .inl z)), t6, vis_s v2 (show kS tp Tn (n + 1 + i) ≠ 0 by omega), ?_, fun j hj => ?_, by rw [show 16 - (i + 1) = 15 - i by omega]; exact ep⟩
        · rw [f6.i (no _ _ (by omega))]; exact sI_eq
        · rw [f6.i (no _ _ (by omega)), sI_ne (by omega)]
          by_cases ji : j = i
          · subst ji; exact sI_eq
          · rw [sI_ne (by omega)]; exact w2 j (by omega)
    · rw [if_neg hn] at x3
      obtain ⟨rfl, a, b⟩ := x3
      refine ⟨0, rfl, ?_⟩
      rw [if_pos hn] at ep
      rw [ic_t rfl, ep]
      exact Hm_some ⟨(g2.up FNi.dw).tr (b.up TVdw), rfl, a⟩
  have n14 : ¬ (14 : Int32) < Int32.ofNat i := by
    rw [show (14 : Int32) = Int32.ofNat 14 from rfl, i_lt (by omega) (by omega)]; omega
  rw [e66_28, ic_f n14]
  by_cases i0 : i = 0
  · rw [ic_t (by rw [i0]; rfl)]
    exact one (fun y => y.1 i0)
  · rw [ic_f (by rw [show (0 : Int32) = Int32.ofNat 0 from rfl, i_eq (by omega) (by omega)]; exact i0), sp67 (d := d + 8) t2, cIn_s]
    by_cases k2 : kS tp Tn (n + 1 + i) = 2
    · rw [show decide (kS tp Tn (n + 1 + i) = 2) = true from decide_eq_true k2, ic_f (by decide)]
      exact one (fun y => y.2 k2)
    · rw [show decide (kS tp Tn (n + 1 + i) = 2) = false from decide_eq_false k2, ic_t (by decide)]
      exact fin k2 i0
end CLINE3
