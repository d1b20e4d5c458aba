/-! SESSION: the reference -/
section RSESS
variable {tp : Nat → Int32} {Tn d n sz : Nat} {M M' : Mem} {c : Nat → Nat} {nm : Nat → Nat → List Nat} {g : Nat → Nat → Nat}
def LDr (o sz : Nat) (g : Nat → Nat → Nat) (M : Mem) : Prop := ∀ i, i < sz → M.1 266 (o + 3 * i) = Int32.ofNat (g 0 i) ∧ (g 0 i ≠ 4 → M.1 266 (o + 1 + 3 * i) = Int32.ofNat (g 1 i)) ∧ (g 0 i < 2 → M.1 266 (o + 2 + 3 * i) = Int32.ofNat (g 2 i))
def ZW (c j : Nat) : Prop := CW c j ∨ (c = 253 ∧ j = 0) ∨ c = 266
def ZL (c j : Nat) : Prop := R78 c j ∨ (c = 266 ∧ 125 ≤ j)
theorem ZL_ZW (h : Fr ZL M M') : Fr ZW M M' := h.up (fun c j z => by unfold ZL R78 at z; unfold ZW CW; omega)
theorem LDr.fr {o : Nat} {W : Nat → Nat → Prop} (h : LDr o sz g M) (hf : Fr W M M') (hw : ∀ j, o ≤ j → j < o + 3 * sz → ¬ W 266 j) : LDr o sz g M' := fun i hi => by
  rw [hf.i (hw _ (by omega) (by omega)), hf.i (hw _ (by omega) (by omega)), hf.i (hw _ (by omega) (by omega))]; exact h i hi
def SQ (M : Mem) (P : OS) (r : Option AV) (M' : Mem) : Prop := Fr ZW M M' ∧ M'.1 253 2 = 0 ∧ match P with | .inl (sz, g) => r = some (vI 0) ∧ M'.1 266 0 = Int32.ofNat sz ∧ LDr 1 sz g M' | .inr e => r = some (vI (Int32.ofNat e)) ∧ ∀ j, j < 125 → M'.1 266 j = M.1 266 j
/-- behind the names of a line -/
def pSg (tp : Nat → Int32) (Tn : Nat) (o : O3) : O3 := match o with
  | .inr e => .inr e
  | .inl (m, a, b) => if isSN tp Tn m 59 then .inl (m + 1, a, b) else .inr (flt tp Tn 1 m)
def pSn (o : O3) (k : Nat → Nat → Nat → OS) : OS := match o with
  | .inr e => .inr e
  | .inl (m, a, b) => k m a b
theorem pSL_g (d5 : ¬ dd tp Tn n = 5) (h : ¬ 40 ≤ sz) : pSL tp Tn c nm n sz = pSg tp Tn (pNm tp Tn c nm (dd tp Tn n) (n + 1)) := by
  unfold pSL pSg
  rw [if_neg d5, if_neg h]
  cases pNm tp Tn c nm (dd tp Tn n) (n + 1) <;> rfl
theorem pS_s {f : Nat} (k0 : ¬ kS tp Tn n = 0) : pS tp Tn c nm (f + 1) n sz g = pSn (pSL tp Tn c nm n sz) (fun m a b => pS tp Tn c nm f m (sz + 1) (gad g sz (dd tp Tn n) a b)) := by
  show (if kS tp Tn n = 0 then _ else _) = _
  rw [if_neg k0]
  cases pSL tp Tn c nm n sz <;> rfl
theorem pS_e {f : Nat} (k0 : kS tp Tn n = 0) : pS tp Tn c nm (f + 1) n sz g = .inl (sz, g) := by
  show (if kS tp Tn n = 0 then _ else _) = _
  rw [if_pos k0]
theorem sp235 {kn : Nat} (hs : SG tp Tn) (hN : NOk c nm) (hT : NTp 0 c nm kn M) (hW : WT33 M) (hR : TRr Tn tp M) : Hm (evD (d + 8) 235 [vR 12 0 253] M) (SQ M (pS tp Tn c nm 42 0 0 (fun _ _ => 0))) := by
  have f0 : Fr ZW M (sI M 253 0 0) := Fr.rf.sI (by unfold ZW; omega)
  rw [e235]
  refine Hm_cVv (sp200 (d := d + 4) hs (M := sI M 253 0 0) ⟨by rw [sI_ne (by omega)]; exact hR.1, fun i hi => by rw [sI_ne (by omega)]; exact hR.2 i hi⟩) (fun M1 h1 => ?_)
  obtain ⟨b1, z1, fc⟩ := h1
  have f1 : Fr ZW M M1 := f0.tr (fc.up (fun c j z => .inl z))
  have r1 : ∀ j, j < 125 → M1.1 266 j = M.1 266 j := fun j _ => (fc.i (by unfold CW; omega)).trans (by rw [sI_ne (by omega)])
  -- what lies still
  have st : ∀ {A : Mem}, Fr ZL M1 A → Fr ZW M A ∧ NTp 0 c nm kn A ∧ WT33 A ∧ A.1 253 2 = 0 ∧ ∀ j, j < 125 → A.1 266 j = M.1 266 j := fun {A} hA => by
    have hM := f1.tr (ZL_ZW hA)
    refine ⟨hM, hT.fr hM (fun c j hc => by unfold ZW CW; omega), fun i hi => (hM.j (by unfold ZW CW; omega)).trans (hW i hi), (hA.i (by unfold ZL R78; omega)).trans z1, fun j hj => (hA.i (by unfold ZL R78; omega)).trans (r1 j hj)⟩
  generalize hP : pS tp Tn c nm 42 0 0 (fun _ _ => 0) = P
  -- a fault ends it
  have bad : ∀ (e k : Nat) (A : Mem) (l1 : Nat) (o : Option AV), P = .inr e → TFa e A → Fr ZL M1 A → Hm (lp (d + 7) 235 (k + 3) 161 [some (vR 12 0 253), some (vI (Int32.ofNat l1)), o] A) (SQ M P) := by
    intro e k A l1 o hPe hF hA
    obtain ⟨q1, q2, q3, q4, q5⟩ := st hA
    rw [show k + 3 = (k + 2) + 1 from rfl, e235_161, sp234f hF, cVd_s, show k + 2 = (k + 1) + 1 from rfl, e235_11, ic_f hF.ne.1, e235_170, ic_t hF.ne.2, hF.1, hPe]
    exact Hm_some ⟨q1, q4, rfl, q5⟩
  rw [lp0_eq]
  refine lp_ms (d := d + 7) (x := 235) (pc := 11) 6 200 (fun m lv M2 => ∃ sz n g o, lv = [some (vR 12 0 253), some (vI (Int32.ofNat sz)), o] ∧ m = 42 - sz ∧ sz ≤ 40 ∧ Fr ZL M1 M2 ∧ TB tp Tn n M2 ∧ LDr 125 sz g M2 ∧ P = pS tp Tn c nm (42 - sz) n sz g) ?_ 42 _ _ 20000 (by omega) ⟨0, 0, _, none, rfl, rfl, by omega, Fr.rf, b1, fun i hi => by omega, hP.symm⟩
  rintro m lv M2 F hFu ⟨sz, n, g, o, rfl, hm, h40, fz, b2', hl, ep⟩ z
  obtain ⟨s1, s2, s3, s4, s5⟩ := st fz
  obtain ⟨G, rfl⟩ : ∃ G, F = G + 5 := ⟨F - 5, by omega⟩
  obtain ⟨f, hf⟩ : ∃ f, 42 - sz = f + 1 := ⟨41 - sz, by omega⟩
  rw [hf] at ep
  have hn := b2'.le hs
  rw [show G + 5 = (G + 4) + 1 from rfl, e235_11, ic_t b2'.2.2.2, b2'.2.2.1, ck (show n < 1002 by omega) (by omega), i_nat (by omega), (b2'.1 n b2'.2.1).1, (i_s1 (a := kS tp Tn n) so_le).2.2.2]
  by_cases k0 : kS tp Tn n = 0
  · -- the end
    rw [pS_e k0] at ep
    rw [ic_t k0, show G + 4 = (G + 3) + 1 from rfl, e235_170, b2'.2.2.2, ic_f n0, ep]
    refine lp_for (d := d + 7) (x := 235) (pc := 191) (3 * sz) 1 0 (by omega) (fun i lv M3 => lv = [some (vR 12 0 253), some (vI (Int32.ofNat sz)), some (vI (Int32.ofNat i))] ∧ M3.1 266 0 = Int32.ofNat sz ∧ (∀ j, j < i → M3.1 266 (1 + j) = M2.1 266 (125 + j)) ∧ Fr (fun c j => c = 266 ∧ j < 125) M2 M3) ?_ ?_ (3 * sz) 0 (by omega) (G + 3) _ _ (by omega) ⟨rfl, sI_eq, fun j hj => by omega, Fr.rf.sI (by omega)⟩
    · rintro i hi G1 lv M3 - ⟨rfl, q0, qc, qf⟩ z1
      rw [e235_191, i_mulr, i_lt (by omega) (by omega), ic_t hi, i_addr, ck (show 125 + i < 250 by omega) (by omega), i_addr, ck (show 1 + i < 250 by omega) (by omega), i_nat (by omega), i_nat (by omega), i_addl, qf.i (by omega)]
      refine z1 _ _ _ (by omega) ⟨rfl, by rw [sI_ne (by omega)]; exact q0, fun j hj => ?_, qf.sI (by omega)⟩
      by_cases y : j = i
      · subst y; exact sI_eq
      · rw [sI_ne (by omega)]; exact qc j (by omega)
    · rintro G1 lv M3 - ⟨rfl, q0, qc, qf⟩
      rw [e235_191, i_mulr, i_lt (by omega) (by omega), ic_f (by omega)]
      refine Hm_some ⟨s1.tr (qf.up (fun c j z => by unfold ZW; omega)), (qf.i (by omega)).trans s4, rfl, q0, fun i hi => ?_⟩
      have e1 := qc (3 * i) (by omega)
      have e2 := qc (1 + 3 * i) (by omega)
      have e3 := qc (2 + 3 * i) (by omega)
      have h3 := hl i hi
      rw [e1, show 1 + 1 + 3 * i = 1 + (1 + 3 * i) by omega, e2, show 1 + 2 + 3 * i = 1 + (2 + 3 * i) by omega, e3]
      rw [show 125 + 1 + 3 * i = 125 + (1 + 3 * i) by omega, show 125 + 2 + 3 * i = 125 + (2 + 3 * i) by omega] at h3
      exact h3
  · rw [pS_s k0] at ep
    have hdl := dd_le (tp := tp) (Tn := Tn) (n := n)
    rw [ic_f k0, sp211 (f := 14) (m := 5) (E := 14) (E' := 5) rfl rfl hs (by omega) s3 b2', cIn_s, whr_dd]
    by_cases d5 : dd tp Tn n = 5
    · have e5 : pSL tp Tn c nm n sz = .inr (flt tp Tn 1 n) := by unfold pSL; rw [if_pos d5]
      rw [e5] at ep
      rw [if_pos d5, ic_t (by decide), sp208 (e := 1) (E := 1) rfl hs b2', cVd_s]
      exact bad _ (G + 1) _ sz _ ep (TB.f hs (by omega) (by omega)) (fz.sI (by unfold ZL R78; omega))
    rw [if_neg d5, ic_f (i_neg (by omega)), show (40 : Int32) = Int32.ofNat 40 from rfl, i_eq (by omega) (by omega)]
    by_cases hz40 : sz = 40
    · have e5 : pSL tp Tn c nm n sz = .inr (flt tp Tn 5 n) := by unfold pSL; rw [if_neg d5, if_pos (by omega)]
      rw [e5] at ep
      rw [ic_t hz40, sp208 (e := 5) (E := 5) rfl hs b2', cVd_s]
      exact bad _ (G + 1) _ sz _ ep (TB.f hs (by omega) (by omega)) (fz.sI (by unfold ZL R78; omega))
    rw [pSL_g d5 (by omega)] at ep
    rw [ic_f hz40, i_mulr, i_addr, ck (show 125 + 3 * sz < 250 by omega) (by omega), i_nat (by omega), i_addr, b2'.2.2.1, i_addl]
    -- behind both names: the sign
    have fin : ∀ (k a b' : Nat) (A : Mem), pNm tp Tn c nm (dd tp Tn n) (n + 1) = .inl (k, a, b') → TB tp Tn k A → Fr ZL M1 A → LDr 125 (sz + 1) (gad g sz (dd tp Tn n) a b') A → Hm (lp (d + 7) 235 (G + 3) 158 [some (vR 12 0 253), some (vI (Int32.ofNat sz)), some (vI (Int32.ofNat (dd tp Tn n)))] A) (SQ M P) := by
      intro k a b' A hpn hbA hfA hlA
      rw [hpn] at ep
      rw [show G + 3 = (G + 2) + 1 from rfl, e235_158, i_addl, show G + 2 = (G + 1) + 1 from rfl, e235_161]
      by_cases hy : isSN tp Tn k 59 = true
      · have ep : P = pS tp Tn c nm f (k + 1) (sz + 1) (gad g sz (dd tp Tn n) a b') := by rw [ep]; unfold pSg; simp only [hy, if_true]; rfl
        rw [sp234y (k := 59) (E := 59) rfl hs (by omega) hbA hy, cVd_s]
        exact z (42 - (sz + 1)) _ _ (G + 1) (by omega) (by omega) ⟨sz + 1, k + 1, _, _, rfl, rfl, by omega, hfA.sI (by unfold ZL R78; omega), hbA.s (isSN_k hy), hlA.fr (W := R78) (Fr.rf.sI (by unfold R78; omega)) (fun j a b => by unfold R78; omega), by rw [ep, show 42 - (sz + 1) = f by omega]⟩
      · have ep : P = .inr (flt tp Tn 1 k) := by rw [ep]; unfold pSg; simp only [nf hy]; rfl
        rw [sp234n (k := 59) (E := 59) rfl hs (by omega) hbA (nf hy), cVd_s]
        have hF := TB.f (M := A) (n := k) (tp := tp) hs (e := 1) (by omega) (by omega)
        obtain ⟨q1, q2, q3, q4, q5⟩ := st (A := sI A 253 8 (Int32.ofNat (flt tp Tn 1 k))) (hfA.sI (by unfold ZL R78; omega))
        rw [e235_11, ic_f hF.ne.1]
        cases G with
        | zero => omega
        | succ G' =>
          rw [e235_170, ic_t hF.ne.2, hF.1, ep]
          exact Hm_some ⟨q1, q4, rfl, q5⟩
    have badf : ∀ (e : Nat) (A : Mem), pNm tp Tn c nm (dd tp Tn n) (n + 1) = .inr e → TFa e A → Fr ZL M1 A → Hm (lp (d + 7) 235 (G + 3) 158 [some (vR 12 0 253), some (vI (Int32.ofNat sz)), some (vI (Int32.ofNat (dd tp Tn n)))] A) (SQ M P) := by
      intro e A hpn hFA hfA
      have ep : P = .inr e := by rw [ep, hpn]; rfl
      rw [show G + 3 = (G + 2) + 1 from rfl, e235_158, i_addl]
      cases G with
      | zero => omega
      | succ G' => exact bad e G' A (sz + 1) _ ep hFA hfA
    generalize hA0 : sI (sI M2 253 7 (Int32.ofNat (n + 1))) 266 (125 + 3 * sz) (Int32.ofNat (dd tp Tn n)) = A0
    have fA0 : Fr ZL M1 A0 := by rw [← hA0]; exact (fz.sI (by unfold ZL R78; omega)).sI (by unfold ZL; omega)
    have bA0 : TB tp Tn (n + 1) A0 := by
      rw [← hA0]
      exact (b2'.s k0).fr (W := fun c j => c = 266) (Fr.rf.sI (by omega)) (fun c i hc => by omega)
    have lA0 : LDr 125 sz g A0 ∧ A0.1 266 (125 + 3 * sz) = Int32.ofNat (dd tp Tn n) := by
      rw [← hA0]
      exact ⟨(hl.fr (W := R78) (Fr.rf.sI (by unfold R78; omega)) (fun j a b => by unfold R78; omega)).fr (W := fun c j => c = 266 ∧ j = 125 + 3 * sz) (Fr.rf.sI (by omega)) (fun j a b => by omega), sI_eq⟩
    -- the lines with one more
    have more : ∀ {A : Mem} {a b' : Nat}, Fr (fun c j => R78 c j ∨ (c = 266 ∧ (j = 126 + 3 * sz ∨ j = 127 + 3 * sz))) A0 A → (dd tp Tn n ≠ 4 → A.1 266 (126 + 3 * sz) = Int32.ofNat a) → (dd tp Tn n < 2 → A.1 266 (127 + 3 * sz) = Int32.ofNat b') → LDr 125 (sz + 1) (gad g sz (dd tp Tn n) a b') A := by
      intro A a b' hA ha hb i hi
      by_cases y : i = sz
      · subst y
        rw [gad_0.1, gad_0.2.1, gad_0.2.2]
        exact ⟨(hA.i (by unfold R78; omega)).trans lA0.2, ha, hb⟩
      · rw [gad_n y, gad_n y, gad_n y, hA.i (by unfold R78; omega), hA.i (by unfold R78; omega), hA.i (by unfold R78; omega)]
        exact lA0.1 i (by omega)
    by_cases x4 : dd tp Tn n = 4
    · rw [ic_t (by rw [x4]; rfl), ck (show 126 + 3 * sz < 250 by omega) (by omega), i_nat (by omega), show G + 4 = (G + 3) + 1 from rfl, e235_123, ic_t (by rw [x4]; decide), i_mulr, i_addr, ck (show 127 + 3 * sz < 250 by omega) (by omega), i_nat (by omega)]
      refine fin (n + 1) 0 0 (sI (sI A0 266 (126 + 3 * sz) 0) 266 (127 + 3 * sz) 0) (by unfold pNm; rw [if_pos x4]) ((bA0.fr (W := fun c j => c = 266) (Fr.rf.sI (by omega)) (fun c i hc => by omega)).fr (W := fun c j => c = 266) (Fr.rf.sI (by omega)) (fun c i hc => by omega)) ((fA0.sI (by unfold ZL; omega)).sI (by unfold ZL; omega)) (more ((Fr.rf.sI (.inr (by omega))).sI (.inr (by omega))) (fun h => absurd x4 h) (fun h => by omega))
    have n4 : ¬ Int32.ofNat (dd tp Tn n) = 4 := by rw [show (4 : Int32) = Int32.ofNat 4 from rfl, i_eq (by omega) (by omega)]; exact x4
    rw [ic_f n4]
    -- the first name
    have fst : ∀ (E : Int32), E = Int32.ofNat (20 * rq1 (dd tp Tn n)) → Hm (cIn (evD (d + 7) 220 [vR 12 0 253, vI 0, vI E] A0) fun v6 M5 => ic (Int32.ofNat (126 + 3 * sz) < 0 ∨ 250 ≤ (Int32.ofNat (126 + 3 * sz)).toNatClampNeg) none (lp (d + 7) 235 (G + 4) 123 [some (vR 12 0 253), some (vI (Int32.ofNat sz)), some (vI (Int32.ofNat (dd tp Tn n)))] (sI M5 266 ((Int32.ofNat (126 + 3 * sz)).toNatClampNeg) v6))) (SQ M P) := by
      intro E hE
      have hq : rq1 (dd tp Tn n) < 3 := by unfold rq1; split <;> omega
      have hq2 : rq2 (dd tp Tn n) < 3 := by unfold rq2; split <;> omega
      obtain ⟨q1, q2, q3, q4, q5⟩ := st fA0
      have s220 := sp220 (d := d + 2) hE hq hs hN q2 q3 bA0
      by_cases o1 : namO tp Tn (n + 1) (c (rq1 (dd tp Tn n))) (nm (rq1 (dd tp Tn n))) = 0
      · refine Hm_cIv (v := Int32.ofNat (fnd (nm (rq1 (dd tp Tn n))) (kW tp Tn (n + 1)) (c (rq1 (dd tp Tn n))))) (P := fun M' => Fr R78 A0 M' ∧ TB tp Tn (n + 1 + 1) M') (Hm_mono s220 (fun r M' z => by rw [if_pos o1] at z; exact ⟨z.2.1, z.1, z.2.2⟩)) (fun M5 h5 => ?_)
        rw [ck (show 126 + 3 * sz < 250 by omega) (by omega), i_nat (by omega)]
        generalize hA1 : sI M5 266 (126 + 3 * sz) (Int32.ofNat (fnd (nm (rq1 (dd tp Tn n))) (kW tp Tn (n + 1)) (c (rq1 (dd tp Tn n))))) = A1
        have fA1 : Fr (fun c j => R78 c j ∨ (c = 266 ∧ (j = 126 + 3 * sz ∨ j = 127 + 3 * sz))) A0 A1 := by rw [← hA1]; exact (h5.1.up (fun c j z => .inl z)).sI (.inr (by omega))
        have FA1 : Fr ZL M1 A1 := fA0.tr (fA1.up (fun c j z => by unfold ZL; rcases z with z | z; exact .inl z; exact .inr (by omega)))
        have bA1 : TB tp Tn (n + 1 + 1) A1 := by rw [← hA1]; exact h5.2.fr (W := fun c j => c = 266) (Fr.rf.sI (by omega)) (fun c i hc => by omega)
        have e126 : A1.1 266 (126 + 3 * sz) = Int32.ofNat (fnd (nm (rq1 (dd tp Tn n))) (kW tp Tn (n + 1)) (c (rq1 (dd tp Tn n)))) := by rw [← hA1]; exact sI_eq
        rw [show G + 4 = (G + 3) + 1 from rfl, e235_123, i_mulr, i_addr, show (1 : Int32) = Int32.ofNat 1 from rfl, i_lt (by omega) (by omega)]
        by_cases x2 : 1 < dd tp Tn n
        · rw [ic_t x2, ck (show 127 + 3 * sz < 250 by omega) (by omega), i_nat (by omega)]
          refine fin (n + 1 + 1) _ 0 (sI A1 266 (127 + 3 * sz) 0) (by unfold pNm; rw [if_neg x4, if_pos o1, if_pos (by omega)]) (bA1.fr (W := fun c j => c = 266) (Fr.rf.sI (by omega)) (fun c i hc => by omega)) (FA1.sI (by unfold ZL; omega)) (more (fA1.sI (.inr (by omega))) (fun _ => by rw [sI_ne (by omega)]; exact e126) (fun h => by omega))
        · rw [ic_f x2]
          -- the second name
          have snd : ∀ (E2 : Int32), E2 = Int32.ofNat (20 * rq2 (dd tp Tn n)) → Hm (cIn (evD (d + 7) 220 [vR 12 0 253, vI 0, vI E2] A1) fun v4 M3 => ic (Int32.ofNat (127 + 3 * sz) < 0 ∨ 250 ≤ (Int32.ofNat (127 + 3 * sz)).toNatClampNeg) none (lp (d + 7) 235 (G + 3) 158 [some (vR 12 0 253), some (vI (Int32.ofNat sz)), some (vI (Int32.ofNat (dd tp Tn n)))] (sI M3 266 ((Int32.ofNat (127 + 3 * sz)).toNatClampNeg) v4))) (SQ M P) := by
            intro E2 hE2
            obtain ⟨w1, w2, w3, w4, w5⟩ := st FA1
            have s221 := sp220 (d := d + 2) hE2 hq2 hs hN w2 w3 bA1
            by_cases o2 : namO tp Tn (n + 1 + 1) (c (rq2 (dd tp Tn n))) (nm (rq2 (dd tp Tn n))) = 0
            · refine Hm_cIv (v := Int32.ofNat (fnd (nm (rq2 (dd tp Tn n))) (kW tp Tn (n + 1 + 1)) (c (rq2 (dd tp Tn n))))) (P := fun M' => Fr R78 A1 M' ∧ TB tp Tn (n + 1 + 1 + 1) M') (Hm_mono s221 (fun r M' z => by rw [if_pos o2] at z; exact ⟨z.2.1, z.1, z.2.2⟩)) (fun M6 h6 => ?_)
              rw [ck (show 127 + 3 * sz < 250 by omega) (by omega), i_nat (by omega)]
              refine fin (n + 1 + 1 + 1) _ _ _ (by unfold pNm; rw [if_neg x4, if_pos o1, if_neg (by omega), if_pos o2]) (h6.2.fr (W := fun c j => c = 266) (Fr.rf.sI (by omega)) (fun c i hc => by omega)) ((FA1.tr (h6.1.up (fun c j z => .inl z))).sI (by unfold ZL; omega)) (more ((fA1.tr (h6.1.up (fun c j z => .inl z))).sI (.inr (by omega))) (fun _ => ?_) (fun _ => sI_eq))
              rw [sI_ne (by omega), h6.1.i (by unfold R78; omega)]; exact e126
            · refine Hm_cIv (v := 0) (P := fun M' => Fr R78 A1 M' ∧ TFa (flt tp Tn (namO tp Tn (n + 1 + 1) (c (rq2 (dd tp Tn n))) (nm (rq2 (dd tp Tn n)))) (n + 1 + 1)) M') (Hm_mono s221 (fun r M' z => by rw [if_neg o2] at z; exact ⟨z.2.1, z.1, z.2.2⟩)) (fun M6 h6 => ?_)
              rw [ck (show 127 + 3 * sz < 250 by omega) (by omega), i_nat (by omega)]
              exact badf _ (sI M6 266 (127 + 3 * sz) 0) (by unfold pNm; rw [if_neg x4, if_pos o1, if_neg (by omega), if_neg o2]) ⟨by rw [sI_ne (by omega)]; exact h6.2.1, h6.2.2⟩ ((FA1.tr (h6.1.up (fun c j z => .inl z))).sI (by unfold ZL; omega))
          by_cases x0 : dd tp Tn n = 0
          · rw [ic_t (by rw [x0]; rfl)]
            exact snd 0 (by unfold rq2; rw [if_neg (by omega)]; rfl)
          · rw [ic_f (by rw [show (0 : Int32) = Int32.ofNat 0 from rfl, i_eq (by omega) (by omega)]; exact x0)]
            exact snd 40 (by unfold rq2; rw [if_pos (by omega)]; rfl)
      · refine Hm_cIv (v := 0) (P := fun M' => Fr R78 A0 M' ∧ TFa (flt tp Tn (namO tp Tn (n + 1) (c (rq1 (dd tp Tn n))) (nm (rq1 (dd tp Tn n)))) (n + 1)) M') (Hm_mono s220 (fun r M' z => by rw [if_neg o1] at z; exact ⟨z.2.1, z.1, z.2.2⟩)) (fun M5 h5 => ?_)
        rw [ck (show 126 + 3 * sz < 250 by omega) (by omega), i_nat (by omega)]
        have epn : pNm tp Tn c nm (dd tp Tn n) (n + 1) = .inr (flt tp Tn (namO tp Tn (n + 1) (c (rq1 (dd tp Tn n))) (nm (rq1 (dd tp Tn n)))) (n + 1)) := by unfold pNm; rw [if_neg x4, if_neg o1]
        generalize hA1 : sI M5 266 (126 + 3 * sz) 0 = A1
        have FA1 : Fr ZL M1 A1 := by rw [← hA1]; exact (fA0.tr (h5.1.up (fun c j z => .inl z))).sI (by unfold ZL; omega)
        have hF1 : TFa (flt tp Tn (namO tp Tn (n + 1) (c (rq1 (dd tp Tn n))) (nm (rq1 (dd tp Tn n)))) (n + 1)) A1 := by rw [← hA1]; exact ⟨by rw [sI_ne (by omega)]; exact h5.2.1, h5.2.2⟩
        rw [show G + 4 = (G + 3) + 1 from rfl, e235_123, i_mulr, i_addr, show (1 : Int32) = Int32.ofNat 1 from rfl, i_lt (by omega) (by omega)]
        by_cases x2 : 1 < dd tp Tn n
        · rw [ic_t x2, ck (show 127 + 3 * sz < 250 by omega) (by omega), i_nat (by omega)]
          exact badf _ (sI A1 266 (127 + 3 * sz) 0) epn ⟨by rw [sI_ne (by omega)]; exact hF1.1, hF1.2⟩ (FA1.sI (by unfold ZL; omega))
        · rw [ic_f x2, sp220f hF1, cIn_s, sp220f hF1, cIn_s, ck (show 127 + 3 * sz < 250 by omega) (by omega), i_nat (by omega), ic_same]
          exact badf _ (sI A1 266 (127 + 3 * sz) 0) epn ⟨by rw [sI_ne (by omega)]; exact hF1.1, hF1.2⟩ (FA1.sI (by unfold ZL; omega))
    by_cases x1 : dd tp Tn n = 1
    · rw [ic_t (by rw [x1]; rfl)]
      exact fst 20 (by unfold rq1; rw [if_pos x1]; rfl)
    · rw [ic_f (by rw [show (1 : Int32) = Int32.ofNat 1 from rfl, i_eq (by omega) (by omega)]; exact x1)]
      exact fst 40 (by unfold rq1; rw [if_neg x1]; rfl)
end RSESS
