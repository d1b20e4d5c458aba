/-! YARD: the reference's nights, mild, laws; a line -/
section RONCE
variable {tp : Nat → Int32} {Tn d n cd : Nat} {M M' M'' M0 : Mem} {D D' : Dr} {l : List (Nat × Nat)}
def FNr (c j : Nat) : Prop := R78 c j ∨ (c = 259 ∧ (j = 114 ∨ (202 ≤ j ∧ j ≤ 215)))
def NTo (tp : Nat → Int32) (Tn : Nat) (o : Nat ⊕ Nat) (n : Nat) (M : Mem) : Prop := match o with | .inl k => TB tp Tn (n + k) M ∧ M.1 259 114 = Int32.ofNat k ∧ ∀ i, i < k → M.1 259 (202 + i) = Int32.ofNat (kV tp Tn (n + i)) | .inr e => TFa e M
theorem sp225b {F e : Nat} {x : Int32} {o : Option AV} (h : TFa e M) : lp d 225 (F + 3) 86 [some (vR 12 0 253), some (vI x), o] M = some (none, sI M 259 114 x) := by
  rw [e225_86, e225_2, ic_f h.ne.1, e225_89]
theorem sp225 (hs : SG tp Tn) (h : TB tp Tn n M) : Hm (evD (d + 3) 225 [vR 12 0 253] M) (fun r M' => r = none ∧ Fr FNr M M' ∧ NTo tp Tn (pNts tp Tn 16 n 0) n M') := by
  generalize hP : pNts tp Tn 16 n 0 = P
  rw [e225, lp0_eq]
  refine lp_ms (d := d + 2) (x := 225) (pc := 2) 4 20 (fun m lv M2 => ∃ i o, lv = [some (vR 12 0 253), some (vI (Int32.ofNat i)), o] ∧ m = 15 - i ∧ i ≤ 14 ∧ Fr FNr M M2 ∧ TB tp Tn (n + i) M2 ∧ (∀ j, j < i → M2.1 259 (202 + j) = Int32.ofNat (kV tp Tn (n + j))) ∧ P = pNts tp Tn (16 - i) n i) ?_ 15 _ _ 20000 (by omega) ⟨0, none, rfl, rfl, by omega, Fr.rf, h, fun j hj => by omega, hP.symm⟩
  rintro m lv M2 F hF ⟨i, o, rfl, rfl, hi, g2, t2, w2, ep⟩ z
  obtain ⟨G, rfl⟩ : ∃ G, F = G + 20 := ⟨F - 20, by omega⟩
  rw [show 16 - i = (15 - i) + 1 by omega, pNts_s] at ep
  have hn := t2.le hs
  have one : ¬ (i ≠ 0 ∧ kS tp Tn (n + i) ≠ 2) → Hm (lp (d + 2) 225 (G + 18 + 1) 26 [some (vR 12 0 253), some (vI (Int32.ofNat i)), o] M2) (fun r M' => r = none ∧ Fr FNr M M' ∧ NTo tp Tn P n M') := by
    intro y
    rw [if_neg y] at ep
    rw [e225_26]
    by_cases hn0 : numO tp Tn (n + i) 0 9 = 0
    · rw [if_neg (by omega)] at ep
      have k2 := (numO_k hn0).1
      rw [sp216o (lo := 0) (hi := 9) (L := 0) (H := 9) (d := d) rfl rfl hs (by omega) (by omega) t2 hn0, cIn_s, ic_t (by rw [sI_ne (by omega)]; exact t2.2.2.2), show (14 : Int32) = Int32.ofNat 14 from rfl, i_eq (by omega) (by omega)]
      have t3 := t2.s (show kS tp Tn (n + i) ≠ 0 by omega)
      by_cases i14 : i = 14
      · rw [if_pos i14] at ep
        have tB : TB tp Tn (n + i) (sI (sI M2 253 7 (Int32.ofNat (n + i + 1))) 253 7 (Int32.ofNat (n + i))) := ⟨t2.1.fr (W := R78) ((R78i (.inl rfl)).tr (R78i (.inl rfl))) (fun c i hc z => by unfold R78 at z; omega), t2.2.1, sI_eq, by rw [sI_ne (by omega), sI_ne (by omega)]; exact t2.2.2.2⟩
        have hF := TB.f (M := sI (sI M2 253 7 (Int32.ofNat (n + i + 1))) 253 7 (Int32.ofNat (n + i))) (n := n + i) (tp := tp) hs (e := 5) (by omega) (by omega)
        rw [ic_t i14, sI_eq, ip1, sp208 (d := d + 1) (e := 5) (E := 5) rfl hs tB, cVd_s, show G + 18 = (G + 15) + 3 from rfl, sp225b hF, ep]
        refine Hm_some ⟨rfl, ((g2.tr (((R78i (.inl rfl)).tr (R78i (.inl rfl))).up (fun c j z => .inl z))).sI (.inl (by unfold R78; omega))).sI (.inr (by omega)), ?_⟩
        exact ⟨by rw [sI_ne (by omega)]; exact hF.1, hF.2⟩
      · rw [if_neg i14] at ep
        rw [ic_f i14, show G + 18 = (G + 17) + 1 from rfl, e225_65, ic_t (by rw [sI_ne (by omega)]; exact t2.2.2.2), i_addr, ck (show 202 + i < 220 by omega) (by omega), i_nat (by omega), i_addl, show G + 17 = (G + 16) + 1 from rfl, e225_86]
        refine z (15 - (i + 1)) _ _ (G + 16) (by omega) (by omega) ⟨i + 1, _, rfl, rfl, by omega, (g2.sI (.inl (by unfold R78; omega))).sI (.inr (by omega)), ?_, fun j hj => ?_, by rw [show 16 - (i + 1) = 15 - i by omega]; exact ep⟩
        · exact t3.fr (W := fun c j => c = 259) (Fr.rf.sI (by omega)) (fun c i hc z => by omega)
        · by_cases ji : j = i
          · subst ji; exact sI_eq
          · rw [sI_ne (by omega), sI_ne (by omega)]; exact w2 j (by omega)
    · rw [if_pos hn0] at ep
      have hF := TB.f (M := M2) (n := n + i) (tp := tp) hs (e := numO tp Tn (n + i) 0 9) (by omega) numO_le
      rw [sp216n (lo := 0) (hi := 9) (L := 0) (H := 9) (d := d) rfl rfl hs (by omega) (by omega) t2 hn0, cIn_s, ic_f hF.ne.1, show G + 18 = (G + 17) + 1 from rfl, e225_65, ic_f hF.ne.1, show G + 17 = (G + 14) + 3 from rfl, sp225b hF, ep]
      refine Hm_some ⟨rfl, (g2.sI (.inl (by unfold R78; omega))).sI (.inr (by omega)), ?_⟩
      exact ⟨by rw [sI_ne (by omega)]; exact hF.1, hF.2⟩
  rw [show G + 20 = (G + 19) + 1 from rfl, e225_2, ic_t t2.2.2.2]
  by_cases i0 : i = 0
  · rw [ic_t (by rw [i0]; rfl)]
    exact one (fun y => y.1 i0)
  · rw [ic_f (by rw [show (0 : Int32) = Int32.ofNat 0 from rfl, i_eq (by omega) (by omega)]; exact i0), t2.2.2.1, ck (show n + i < 1002 by omega) (by omega), i_nat (by omega), (t2.1 _ t2.2.1).1, (i_s1 (a := kS tp Tn (n + i)) so_le).2.1]
    by_cases k2 : kS tp Tn (n + i) = 2
    · rw [ic_t k2]
      exact one (fun y => y.2 k2)
    · rw [if_pos ⟨i0, k2⟩] at ep
      rw [ic_f k2, show G + 19 = (G + 18) + 1 from rfl, e225_89, ep]
      refine Hm_some ⟨rfl, g2.sI (.inr (by omega)), t2.fr (W := fun c j => c = 259) (Fr.rf.sI (by omega)) (fun c i hc z => by omega), sI_eq, fun j hj => ?_⟩
      rw [sI_ne (by omega)]; exact w2 j hj
/-- what a line and the sign behind it come to -/
def RLS (tp : Nat → Int32) (Tn : Nat) (o : OD) (M : Mem) : Prop := match o with | .inl (D', n') => TB tp Tn n' M ∧ ∃ cd', cd' ≤ n' ∧ DRf D' cd' M | .inr e => TFa e M
def LSp (tp : Nat → Int32) (Tn : Nat) (o : OD) (M M1 : Mem) : Prop := ∀ d, Hm (evD (d + 2) 234 [vR 12 0 253, vI 59] M1) (fun r M2 => r = none ∧ Fr QWr M M2 ∧ RLS tp Tn o M2)
theorem LSp_c {M1 : Mem} {n1 : Nat} (hs : SG tp Tn) (f1 : Fr QWr M M1) (h : RLo tp Tn (chk tp Tn l) D' cd n1 M1) (hcd : cd ≤ n1) : LSp tp Tn (fin1 (chk tp Tn (l ++ [(sO tp Tn n1 59, n1)])) D' (n1 + 1)) M M1 := by
  intro d
  refine Hm_mono (op234 (d := d) (k := 59) rfl hs (by omega) h.1) (fun r M2 ⟨e1, f2, r2⟩ => ⟨e1, f1.tr (f2.up R78.q), ?_⟩)
  cases hc : chk tp Tn (l ++ [(sO tp Tn n1 59, n1)]) with
  | none =>
    rw [hc] at r2
    exact ⟨r2, cd, by omega, (h.2 (chk_pre hc)).r f2⟩
  | some e =>
    rw [hc] at r2
    exact r2
theorem LSp_f {M1 : Mem} {e : Nat} (f1 : Fr QWr M M1) (h : TFa e M1) : LSp tp Tn (.inr e) M M1 := fun d => Hm_eq (sp234f h) ⟨rfl, f1, h⟩
def OWr (c j : Nat) : Prop := (c = 253 ∧ (j = 7 ∨ j = 8 ∨ j = 13 ∨ j = 20 ∨ j = 21)) ∨ (c = 259 ∧ ((114 ≤ j ∧ j ≤ 117) ∨ (202 ≤ j ∧ j ≤ 215))) ∨ (c = 260 ∧ 1100 ≤ j) ∨ (c = 261 ∧ 1100 ≤ j)
theorem OWr.q : ∀ c j, OWr c j → QWr c j := fun c j z => by unfold OWr at z; unfold QWr; omega
theorem DRf.onc {cd' : Nat} (h : DRf D cd M) (hO : DO1 D) (hcs : D'.cs = D.cs) (hnm : D'.nm = D.nm) (hcl : D'.cl = D.cl) (hpr : D'.pr = D.pr) (hg : ∀ c q, rwq c q → ∀ i, D'.g c i = D.g c i) (hf : Fr OWr M M') (hm : M'.1 259 115 = Int32.ofNat D'.mv) (hn : DRn D' M') (ho : ∀ k, k < 4 → bt (M'.1 253 20) k = oncb D' k) (hl : LRd true D'.lm cd' M' ∧ LRd false D'.lk cd' M') (hc : M'.1 253 13 = Int32.ofNat cd') : DRf D' cd' M' := by
  obtain ⟨⟨a1, a2, a3⟩, a4, a5, a6, a7, a8, a10, a11⟩ := h
  have e : ∀ j, j < 114 ∨ (118 ≤ j ∧ j < 202) → M'.1 259 j = M.1 259 j := fun j hj => hf.i (fun z => by unfold OWr at z; omega)
  unfold DRf
  rw [hcs, hnm, hcl, hpr]
  refine ⟨⟨fun q hq => (e _ (by omega)).trans (a1 q hq), (e _ (by omega)).trans a2, hm⟩, fun c q hq i hi => ?_, fun a b ha hb => (e _ (by omega)).trans (a5 a b ha hb), hn, ho, hl, hc, a11.fr hf (fun c j hc z => by unfold OWr at z; omega)⟩
  have hp := rpos_x hq i
  have hq3 : q < 3 := by unfold rwq at hq; omega
  have hq6 := hO.1.1 q hq3
  rw [hg c q hq i]
  exact (e _ (by omega)).trans (a4 c q hq i hi)
theorem LRd.mono {ml : Bool} {o : Option (List Nat)} {cd' : Nat} (h : LRd ml o cd M) (hc : cd ≤ cd') : LRd ml o cd' M := by
  cases o with
  | none => exact h
  | some c =>
    obtain ⟨f, a1, a2, a3, a4⟩ := h
    exact ⟨f, a1, by omega, a3, a4⟩
theorem bt_on {x : Int32} {k0 k : Nat} (h0 : k0 < 4) (hk : k < 4) : bt (x ||| 1 <<< (Int32.ofNat k0 &&& 31)) k = (bt x k || decide (k = k0)) := bt_set (by omega) (by omega)
/-- the word of a line that stands once -/
theorem sp224 (hs : SG tp Tn) (hW : WT33 M) (h : TB tp Tn n M) (hk : kS tp Tn n ≠ 0) (hD : DRf D cd M) (hO : DO1 D) (hcd : cd ≤ n) : Hm (evD (d + 34) 224 [vR 12 0 253] M) (fun r M1 => r = none ∧ LSp tp Tn (if isWN tp Tn n (kwd 10) then pNi tp Tn D n else if isWN tp Tn n (kwd 11) then pMi tp Tn D n else if isWN tp Tn n (kwd 12) then pLw tp Tn D true n else if isWN tp Tn n (kwd 13) then pLw tp Tn D false n else .inr (flt tp Tn 1 n)) M M1) := by
  have bad : ∀ (e : Nat) (x : Int32) (M1 : Mem), TFa e M1 → Hm (lp0 (d + 33) 224 37 [some (vR 12 0 253), some (vI x)] M1) (fun r M' => r = none ∧ M' = M1) := fun e x M1 hF => by
    rw [lp0_eq, show (20000 : Nat) = 19999 + 1 from rfl, e224_37, ic_t hF.ne.2]; exact Hm_some ⟨rfl, rfl⟩
  have f3 := TB.f (M := M) (n := n) (tp := tp) hs (e := 3) (by omega) (by omega)
  have f1 := TB.f (M := M) (n := n) (tp := tp) hs (e := 1) (by omega) (by omega)
  have q3 : Fr QWr M (sI M 253 8 (Int32.ofNat (flt tp Tn 3 n))) := (R78i (.inr rfl)).up R78.q
  rw [e224, sp211 (f := 10) (m := 4) (E := 10) (E' := 4) rfl rfl hs (by omega) hW h, cIn_s]
  have told : ∀ (k : Nat) (V : Int32) (K : Res), V = Int32.ofNat k → k < 4 → bt (M.1 253 20) k = true → ∀ o, o = Sum.inr (flt tp Tn 3 n) → Hm (ic (V < 0) (cVd (evD (d + 33) 208 [vR 12 0 253, vI 1] M) fun M4 => lp0 (d + 33) 224 37 [some (vR 12 0 253), some (vI V)] M4) (ic ((M.1 253 20) >>> (V &&& 31) &&& 1 = 1) (cVd (evD (d + 33) 208 [vR 12 0 253, vI 3] M) fun M3 => lp0 (d + 33) 224 37 [some (vR 12 0 253), some (vI V)] M3) K)) (fun r M1 => r = none ∧ LSp tp Tn o M M1) := by
    intro k V K hV hk4 hb o ho
    rw [hV, ic_f (i_neg (by omega)), ic_t ((bt_has (by omega)).mpr hb), sp208 (e := 3) (E := 3) rfl hs h, cVd_s]
    refine Hm_mono (bad _ _ _ f3) (fun r M1 ⟨x, y⟩ => ⟨x, ?_⟩)
    rw [ho, y]; exact LSp_f q3 f3
  have fresh : ∀ (k : Nat) (V : Int32) (A : Res) (B : Mem → Res) (Q : Option AV → Mem → Prop), V = Int32.ofNat k → k < 4 → bt (M.1 253 20) k = false → Hm (lp (d + 33) 224 20000 37 [some (vR 12 0 253), some (vI V)] M) Q → Hm (ic (V < 0) A (ic ((M.1 253 20) >>> (V &&& 31) &&& 1 = 1) (cVd (evD (d + 33) 208 [vR 12 0 253, vI 3] M) B) (lp0 (d + 33) 224 37 [some (vR 12 0 253), some (vI V)] M))) Q := by
    intro k V A B Q hV hk4 hb hq
    subst hV
    rw [ic_f (i_neg (by omega)), ic_f (fun z => by rw [(bt_has (by omega)).mp z] at hb; exact absurd hb (by decide)), lp0_eq]
    exact hq
  have hb := hD.2.2.2.2.1
  -- the memory behind the word
  have pre : ∀ k0, k0 < 4 → ∃ A, A = sI (sI M 253 20 ((M.1 253 20) ||| (1 <<< (Int32.ofNat k0 &&& 31)))) 253 7 (Int32.ofNat (n + 1)) ∧ Fr OWr M A ∧ TB tp Tn (n + 1) A ∧ (∀ k, k < 4 → bt (A.1 253 20) k = (oncb D k || decide (k = k0))) ∧ WT33 A := by
    intro k0 h0
    refine ⟨_, rfl, (Fr.rf.sI (by unfold OWr; omega)).sI (by unfold OWr; omega), ?_, fun k hk4 => ?_, ?_⟩
    · exact TB.s (M := sI M 253 20 ((M.1 253 20) ||| (1 <<< (Int32.ofNat k0 &&& 31)))) (h.fr (W := fun c j => c = 253 ∧ j = 20) (Fr.rf.sI (by omega)) (fun c i hc z => by omega)) hk
    · rw [sI_ne (by omega), sI_eq, bt_on h0 hk4, hb k hk4]
    · exact hW.fr (W := OWr) ((Fr.rf.sI (by unfold OWr; omega)).sI (by unfold OWr; omega)) (fun j z => by unfold OWr at z; omega)
  by_cases c10 : isWN tp Tn n (kwd 10) = true
  · rw [if_pos c10, whr_y (f := 10) (i := 0) c10 4 (by omega) (by omega)]
    by_cases hw : D.nw = 0
    rotate_left
    · exact told 0 _ _ rfl (by omega) (by rw [hb 0 (by omega)]; exact decide_eq_true hw) _ (by unfold pNi; rw [if_pos hw])
    refine fresh 0 _ _ _ _ rfl (by omega) (by rw [hb 0 (by omega)]; exact decide_eq_false (fun z => z hw)) ?_
    obtain ⟨A, hA, fA, tA, bA, wA⟩ := pre 0 (by omega)
    rw [show (20000 : Nat) = 19999 + 1 from rfl, e224_37, h.2.2.2, ic_f n0, ic_t (show Int32.ofNat 0 = 0 from rfl), sI_ne (j := 20) (by omega), h.2.2.1, i_addl, ← hA]
    refine Hm_cVv (sp225 (d := d + 30) hs tA) (fun M1 ⟨f1', x1⟩ => ?_)
    have g1 : Fr OWr M M1 := fA.tr (f1'.up (fun c j z => by unfold FNr R78 at z; unfold OWr; omega))
    unfold pNi
    rw [if_neg (by omega)]
    cases hp : pNts tp Tn 16 (n + 1) 0 with
    | inr e =>
      rw [hp] at x1
      exact Hm_some ⟨rfl, LSp_f (g1.up OWr.q) x1⟩
    | inl k =>
      rw [hp] at x1
      obtain ⟨y1, y2, y3⟩ := x1
      have ok := pNts_ok 16 0 k hp (fun i hi => by omega) (by omega)
      have no : ∀ c j, (c ≠ 259 ∨ (j ≠ 114 ∧ (j < 202 ∨ 215 < j))) → (c ≠ 253 ∨ (j ≠ 7 ∧ j ≠ 8)) → ¬ FNr c j := fun c j a b z => by unfold FNr R78 at z; omega
      have e1 : ∀ c j, (c ≠ 259 ∨ (j ≠ 114 ∧ (j < 202 ∨ 215 < j))) → (c ≠ 253 ∨ (j ≠ 7 ∧ j ≠ 8 ∧ j ≠ 20)) → M1.1 c j = M.1 c j := fun c j a b => by
        rw [f1'.i (no c j a (by omega)), hA, sI_ne (by omega), sI_ne (by omega)]
      have r := LSp_c (M := M) (l := []) (D' := (D.cs, D.nm, fun c i => if c = 42 then kV tp Tn (n + 1 + i) else D.g c i, D.cl, D.pr, k, D.2.2.2.2.2.2)) (cd := cd) hs (g1.up OWr.q) (n1 := n + 1 + k) ⟨y1, fun _ => ?_⟩ (by omega)
      · rw [show n + 1 + k + 1 = n + 2 + k by omega] at r
        exact Hm_some ⟨rfl, r⟩
      · obtain ⟨⟨a1, a2, a3⟩, a4, a5, a6, a7, ⟨a8, a9⟩, a10, a11⟩ := hD
        refine DRf.onc ⟨⟨a1, a2, a3⟩, a4, a5, a6, a7, ⟨a8, a9⟩, a10, a11⟩ hO rfl rfl rfl rfl (fun c q hc i => ?_) g1 ((e1 _ _ (by omega) (by omega)).trans a3) ⟨fun z => ?_, fun z => ⟨y2, fun i hi => ?_⟩⟩ (fun k' hk' => ?_) ⟨?_, ?_⟩ ((e1 _ _ (by omega) (by omega)).trans a10)
        · have := rwq_b hc
          show (if c = 42 then kV tp Tn (n + 1 + i) else D.g c i) = D.g c i
          rw [if_neg (by omega)]
        · have z : k = 0 := z
          omega
        · show M1.1 259 (202 + i) = Int32.ofNat (if 42 = 42 then kV tp Tn (n + 1 + i) else D.g 42 i)
          rw [if_pos rfl]; exact y3 i hi
        · rw [f1'.i (no _ _ (by omega) (by omega)), bA k' hk']
          have : k' = 0 ∨ k' = 1 ∨ k' = 2 ∨ k' = 3 := by omega
          rcases this with rfl | rfl | rfl | rfl
          · show (_ || true) = decide (k ≠ 0)
            rw [Bool.or_true, decide_eq_true (show k ≠ 0 by omega)]
          · show (D.mt || false) = D.mt; rw [Bool.or_false]
          · show (D.lm.isSome || false) = D.lm.isSome; rw [Bool.or_false]
          · show (D.lk.isSome || false) = D.lk.isSome; rw [Bool.or_false]
        · refine a8.fr (W := fun c j => (c = 253) ∨ (c = 259 ∧ (j = 114 ∨ 202 ≤ j))) ?_ (fun z => by simp at z) (fun j hj => ⟨fun z => by omega, fun z => by omega⟩)
          rw [hA] at f1'
          exact ((Fr.rf.sI (.inl rfl)).sI (.inl rfl)).tr (f1'.up (fun c j z => by unfold FNr R78 at z; omega))
        · refine a9.fr (W := fun c j => (c = 253) ∨ (c = 259 ∧ (j = 114 ∨ 202 ≤ j))) ?_ (fun z => by simp at z) (fun j hj => ⟨fun z => by omega, fun z => by omega⟩)
          rw [hA] at f1'
          exact ((Fr.rf.sI (.inl rfl)).sI (.inl rfl)).tr (f1'.up (fun c j z => by unfold FNr R78 at z; omega))
  rw [if_neg c10]
  by_cases c11 : isWN tp Tn n (kwd 11) = true
  · rw [if_pos c11, whr_y (f := 10) (i := 1) c11 4 (by omega) (by omega)]
    by_cases hm : D.mt = true
    · exact told 1 _ _ rfl (by omega) (by rw [hb 1 (by omega)]; exact hm) _ (by unfold pMi; rw [if_pos hm])
    refine fresh 1 _ _ _ _ rfl (by omega) (by rw [hb 1 (by omega)]; exact nf hm) ?_
    obtain ⟨A, hA, fA, tA, bA, wA⟩ := pre 1 (by omega)
    rw [show (20000 : Nat) = 19999 + 1 from rfl, e224_37, h.2.2.2, ic_f n0, ic_f (by decide), ic_t (show Int32.ofNat 1 = 1 from rfl), sI_ne (j := 20) (by omega), h.2.2.1, i_addl, ← hA]
    refine Hm_cIn (op216 (d := d + 31) (lo := 0) (hi := 10) (l := []) rfl rfl hs (by omega) (by omega) tA) (fun r M1 ⟨f1', r1, v, hr, hv⟩ => ⟨v, hr, ?_⟩)
    have g1 : Fr OWr M (sI M1 259 115 v) := (fA.tr (f1'.up (fun c j z => by unfold R78 at z; unfold OWr; omega))).sI (by unfold OWr; omega)
    unfold pMi
    rw [if_neg hm]
    refine Hm_some ⟨rfl, LSp_c (l := [(numO tp Tn (n + 1) 0 10, n + 1)]) (cd := cd) hs (g1.up OWr.q) (n1 := n + 2) ⟨r1.w, fun z => ?_⟩ (by omega)⟩
    have e1 : ∀ c j, (c ≠ 259 ∨ j ≠ 115) → (c ≠ 253 ∨ (j ≠ 7 ∧ j ≠ 8 ∧ j ≠ 20)) → (sI M1 259 115 v).1 c j = M.1 c j := fun c j a b => by
      rw [sI_ne (by omega), f1'.i (fun z => by unfold R78 at z; omega), hA, sI_ne (by omega), sI_ne (by omega)]
    obtain ⟨⟨a1, a2, a3⟩, a4, a5, a6, a7, ⟨a8, a9⟩, a10, a11⟩ := hD
    have fL : Fr (fun c j => (c = 253) ∨ (c = 259 ∧ j = 115)) M (sI M1 259 115 v) := by
      rw [hA] at f1'
      exact (((Fr.rf.sI (.inl rfl)).sI (.inl rfl)).tr (f1'.up (fun c j z => by unfold R78 at z; omega))).sI (.inr ⟨rfl, rfl⟩)
    refine DRf.onc ⟨⟨a1, a2, a3⟩, a4, a5, a6, a7, ⟨a8, a9⟩, a10, a11⟩ hO rfl rfl rfl rfl (fun c q hc i => rfl) g1 (by rw [sI_eq]; exact hv z) ⟨fun y => ?_, fun y => ⟨?_, fun i hi => ?_⟩⟩ (fun k' hk' => ?_) ⟨a8.fr fL (fun z => by simp at z) (fun j hj => ⟨fun z => by omega, fun z => by omega⟩), a9.fr fL (fun z => by simp at z) (fun j hj => ⟨fun z => by omega, fun z => by omega⟩)⟩ ((e1 _ _ (by omega) (by omega)).trans a10)
    · rw [e1 _ _ (by omega) (by omega), e1 _ _ (by omega) (by omega)]; exact a6.1 y
    · rw [e1 _ _ (by omega) (by omega)]; exact (a6.2 y).1
    · rw [e1 _ _ (by omega) (by omega)]; exact (a6.2 y).2 i hi
    · rw [sI_ne (by omega), f1'.i (fun z => by unfold R78 at z; omega), bA k' hk']
      have : k' = 0 ∨ k' = 1 ∨ k' = 2 ∨ k' = 3 := by omega
      rcases this with rfl | rfl | rfl | rfl
      · show (decide (D.nw ≠ 0) || false) = decide (D.nw ≠ 0); rw [Bool.or_false]
      · show (_ || true) = true; rw [Bool.or_true]
      · show (D.lm.isSome || false) = D.lm.isSome; rw [Bool.or_false]
      · show (D.lk.isSome || false) = D.lk.isSome; rw [Bool.or_false]
  rw [if_neg c11]
  -- laws
  have law : ∀ (ml : Bool) (k0 z0 : Nat) (fh : Int32) (G : Nat), k0 = (if ml then 2 else 3) → z0 = (if ml then 116 else 117) → fh = (if ml then 7 else 28) → (if ml then D.lm else D.lk).isSome = false → ∀ A, A = sI (sI (sI (sI M 253 20 ((M.1 253 20) ||| (1 <<< (Int32.ofNat k0 &&& 31)))) 253 7 (Int32.ofNat (n + 1))) 259 z0 (Int32.ofNat cd)) 253 21 fh → Hm (lp (d + 33) 224 (G + 1) 131 [some (vR 12 0 253), some (vI (Int32.ofNat k0))] A) (fun r M1 => r = none ∧ LSp tp Tn (pLw tp Tn D ml n) M M1) := by
    intro ml k0 z0 fh G hk0 hz0 hfh hno A hA
    have hk4 : k0 < 4 := by rw [hk0]; split <;> omega
    have hz : z0 = 116 ∨ z0 = 117 := by rw [hz0]; split <;> omega
    obtain ⟨B, hB, fB, tB, bB, wB⟩ := pre k0 hk4
    rw [← hB] at hA
    have fA : Fr (fun c j => (c = 259 ∧ j = z0) ∨ (c = 253 ∧ j = 21)) B A := by rw [hA]; exact (Fr.rf.sI (.inl ⟨rfl, rfl⟩)).sI (.inr ⟨rfl, rfl⟩)
    have tA : TB tp Tn (n + 1) A := tB.fr fA (fun c i hc z => by omega)
    have wA : WT33 A := wB.fr fA (fun j z => by omega)
    have bm : BAm ml A := ⟨wA, by rw [hA, sI_eq]; exact hfh⟩
    have a13 : A.1 253 13 = Int32.ofNat cd := by rw [fA.i (by omega), hB, sI_ne (by omega), sI_ne (by omega)]; exact hD.2.2.2.2.2.2.1
    refine Hm_mono (sp224_131 (d := d) (f := cd) (n := n + 1) hs bm tA a13 (by omega)) (fun r M1 ⟨e1, f2, x⟩ => ⟨e1, ?_⟩)
    have g1 : Fr OWr M M1 := (fB.tr (fA.up (fun c j z => by unfold OWr; omega))).tr (f2.up (fun c j z => by unfold XWr at z; unfold OWr; omega))
    have ep : pLw tp Tn D ml n = pLw2 D ml (lwS tp Tn (lwO tp Tn ml (n + 1))) := by unfold pLw; rw [hno]; rfl
    rw [ep]
    rcases x with ⟨e, n', k', y1, y2, -⟩ | ⟨n', c, y1, y2, y3, y4, y5, y6, y7⟩
    · rw [lwO_eq y1]; exact LSp_f (g1.up OWr.q) y2
    · have e259 : ∀ j, j ≠ z0 → M1.1 259 j = M.1 259 j := fun j hj => by
        rw [f2.i (fun z => by unfold XWr at z; omega), fA.i (by omega), hB, sI_ne (by omega), sI_ne (by omega)]
      have fall : Fr (fun c j => c = 253 ∨ (c = 259 ∧ j = z0) ∨ (c = 260 ∧ 1100 + cd ≤ j) ∨ (c = 261 ∧ 1100 + cd ≤ j)) M M1 := by
        have q1 : Fr (fun c j => c = 253 ∨ (c = 259 ∧ j = z0) ∨ (c = 260 ∧ 1100 + cd ≤ j) ∨ (c = 261 ∧ 1100 + cd ≤ j)) M B := by rw [hB]; exact (Fr.rf.sI (.inl rfl)).sI (.inl rfl)
        exact (q1.tr (fA.up (fun c j z => by omega))).tr (f2.up (fun c j z => by unfold XWr at z; omega))
      have newl : LRd ml (some c) (cd + c.length + 1) M1 := by
        refine ⟨cd, ?_, by omega, y6, fun i hi => ?_⟩
        · rw [← hz0, f2.i (fun z => by unfold XWr at z; omega), hA, sI_ne (by omega), sI_eq]
        · have := y4.2 i hi
          unfold CEt at *
          rw [sI_ne (by omega), sI_ne (by omega)] at this
          exact this
      have newD : DRf (if ml then (D.cs, D.nm, D.g, D.cl, D.pr, D.nw, D.mt, D.mv, some c, D.lk) else (D.cs, D.nm, D.g, D.cl, D.pr, D.nw, D.mt, D.mv, D.lm, some c)) (cd + c.length + 1) M1 := by
        obtain ⟨⟨a1, a2, a3⟩, a4, a5, a6, a7, ⟨a8, a9⟩, a10, a11⟩ := hD
        have b20 : ∀ k, k < 4 → bt (M1.1 253 20) k = (oncb D k || decide (k = k0)) := fun k hk' => by
          rw [f2.i (fun z => by unfold XWr at z; omega), fA.i (by omega)]; exact bB k hk'
        have nn : ∀ D2 : Dr, D2.nw = D.nw → D2.g = D.g → DRn D2 M1 := fun D2 x y => by
          unfold DRn
          rw [x, y]
          refine ⟨fun z => ?_, fun z => ⟨?_, fun i hi => ?_⟩⟩
          · rw [e259 _ (by omega), e259 _ (by omega)]; exact a6.1 z
          · rw [e259 _ (by omega)]; exact (a6.2 z).1
          · rw [e259 _ (by omega)]; exact (a6.2 z).2 i hi
        cases ml with
        | true =>
          have z0e : z0 = 116 := hz0
          have k0e : k0 = 2 := hk0
          refine DRf.onc ⟨⟨a1, a2, a3⟩, a4, a5, a6, a7, ⟨a8, a9⟩, a10, a11⟩ hO rfl rfl rfl rfl (fun c q hc i => rfl) g1 ((e259 _ (by omega)).trans a3) (nn _ rfl rfl) (fun k' hk' => ?_) ⟨newl, ((a9.fr fall (fun z => by simp at z; omega) (fun j hj => ⟨fun z => by omega, fun z => by omega⟩))).mono (by omega)⟩ y5
          rw [b20 k' hk', k0e]
          have : k' = 0 ∨ k' = 1 ∨ k' = 2 ∨ k' = 3 := by omega
          rcases this with rfl | rfl | rfl | rfl
          · show (decide (D.nw ≠ 0) || false) = decide (D.nw ≠ 0); rw [Bool.or_false]
          · show (D.mt || false) = D.mt; rw [Bool.or_false]
          · show (_ || true) = true; rw [Bool.or_true]
          · show (D.lk.isSome || false) = D.lk.isSome; rw [Bool.or_false]
        | false =>
          have z0e : z0 = 117 := hz0
          have k0e : k0 = 3 := hk0
          refine DRf.onc ⟨⟨a1, a2, a3⟩, a4, a5, a6, a7, ⟨a8, a9⟩, a10, a11⟩ hO rfl rfl rfl rfl (fun c q hc i => rfl) g1 ((e259 _ (by omega)).trans a3) (nn _ rfl rfl) (fun k' hk' => ?_) ⟨((a8.fr fall (fun z => by simp at z; omega) (fun j hj => ⟨fun z => by omega, fun z => by omega⟩))).mono (by omega), newl⟩ y5
          rw [b20 k' hk', k0e]
          have : k' = 0 ∨ k' = 1 ∨ k' = 2 ∨ k' = 3 := by omega
          rcases this with rfl | rfl | rfl | rfl
          · show (decide (D.nw ≠ 0) || false) = decide (D.nw ≠ 0); rw [Bool.or_false]
          · show (D.mt || false) = D.mt; rw [Bool.or_false]
          · show (D.lm.isSome || false) = D.lm.isSome; rw [Bool.or_false]
          · show (_ || true) = true; rw [Bool.or_true]
      intro d
      refine Hm_mono (op234 (d := d) (k := 59) (l := []) rfl hs (by omega) y1) (fun r M2 ⟨e1, f2', r2⟩ => ⟨e1, (g1.up OWr.q).tr (f2'.up R78.q), ?_⟩)
      by_cases hy : isSN tp Tn n' 59 = true
      · have el : lwS tp Tn (lwO tp Tn ml (n + 1)) = .inl (n' + 1, c) := by
          rcases y7 with y7 | ⟨y7, -⟩
          · rw [lwO_eq y7]
            show (if isSN tp Tn n' 59 then _ else _) = _
            rw [if_pos hy]
          · rw [y7] at hy; exact absurd hy (by decide)
        have r2 : RS tp Tn (chk tp Tn [(sO tp Tn n' 59, n')]) (n' + 1) M2 := r2
        rw [chk_0 (sO_0 hy)] at r2
        rw [el]
        exact ⟨r2, _, by omega, newD.r f2'⟩
      · have el : lwS tp Tn (lwO tp Tn ml (n + 1)) = .inr (flt tp Tn 1 n') := by
          rcases y7 with y7 | ⟨-, y7⟩
          · rw [lwO_eq y7]
            show (if isSN tp Tn n' 59 then _ else _) = _
            rw [if_neg hy]
          · rw [lwO_eq y7]; rfl
        have r2 : RS tp Tn (chk tp Tn [(sO tp Tn n' 59, n')]) (n' + 1) M2 := r2
        rw [sO_1 hy, chk_1 (by omega)] at r2
        rw [el]
        exact r2
  by_cases c12 : isWN tp Tn n (kwd 12) = true
  · rw [if_pos c12, whr_y (f := 10) (i := 2) c12 4 (by omega) (by omega)]
    by_cases hm : D.lm.isSome = true
    · exact told 2 _ _ rfl (by omega) (by rw [hb 2 (by omega)]; exact hm) _ (by unfold pLw; exact if_pos hm)
    refine fresh 2 _ _ _ _ rfl (by omega) (by rw [hb 2 (by omega)]; exact nf hm) ?_
    rw [show (20000 : Nat) = 19998 + 1 + 1 from rfl, e224_37, h.2.2.2, ic_f n0, ic_f (by decide), ic_f (by decide), show (116 + Int32.ofNat 2) - 2 = Int32.ofNat 116 from by decide, ck (show 116 < 220 by omega) (by omega), ic_t (show Int32.ofNat 2 = 2 from rfl), i_nat (by omega), sI_ne (j := 20) (by omega), h.2.2.1, i_addl, sI_ne (j := 7) (by omega), sI_ne (j := 20) (by omega), hD.2.2.2.2.2.2.1]
    exact law true 2 116 7 19998 rfl rfl rfl (nf hm) _ rfl
  rw [if_neg c12]
  by_cases c13 : isWN tp Tn n (kwd 13) = true
  · rw [if_pos c13, whr_y (f := 10) (i := 3) c13 4 (by omega) (by omega)]
    by_cases hm : D.lk.isSome = true
    · exact told 3 _ _ rfl (by omega) (by rw [hb 3 (by omega)]; exact hm) _ (by unfold pLw; exact if_pos hm)
    refine fresh 3 _ _ _ _ rfl (by omega) (by rw [hb 3 (by omega)]; exact nf hm) ?_
    rw [show (20000 : Nat) = 19998 + 1 + 1 from rfl, e224_37, h.2.2.2, ic_f n0, ic_f (by decide), ic_f (by decide), show (116 + Int32.ofNat 3) - 2 = Int32.ofNat 117 from by decide, ck (show 117 < 220 by omega) (by omega), ic_f (by decide), i_nat (by omega), sI_ne (j := 20) (by omega), h.2.2.1, i_addl, sI_ne (j := 7) (by omega), sI_ne (j := 20) (by omega), hD.2.2.2.2.2.2.1]
    exact law false 3 117 28 19998 rfl rfl rfl (nf hm) _ rfl
  rw [if_neg c13]
  have hno : whr tp Tn n 10 4 = -1 := whr_no 4 (fun k hk4 => by
    rcases k with _ | _ | _ | _ | k
    · exact nf c10
    · exact nf c11
    · exact nf c12
    · exact nf c13
    · omega)
  rw [hno, ic_t (by decide), sp208 (e := 1) (E := 1) rfl hs h, cVd_s]
  refine Hm_mono (bad _ _ _ f1) (fun r M1 ⟨x, y⟩ => ⟨x, ?_⟩)
  rw [y]; exact LSp_f ((R78i (.inr rfl)).up R78.q) f1
/-- a line and the sign behind it -/
theorem sp205 (hs : SG tp Tn) (hW : WT33 M) (h : TB tp Tn n M) (hk : kS tp Tn n ≠ 0) (hD : DRf D cd M) (hO : DO1 D) (hcd : cd ≤ n) : Hm (evD (d + 35) 205 [vR 12 0 253] M) (fun r M1 => r = none ∧ LSp tp Tn (pLn tp Tn D n) M M1) := by
  have w : ∀ w : Nat, w < 33 → ∀ d, evD (d + 1) 206 [vR 12 0 253, vI (Int32.ofNat w)] M = some (some (vI (b2 (isWN tp Tn n (kwd w)))), M) := fun w hw d => sp206 hs hw hW h
  unfold pLn
  rw [e205, show evD (d + 34) 206 [vR 12 0 253, vI 0] M = _ from w 0 (by omega) (d + 33), cIn_s]
  by_cases c0 : isWN tp Tn n (kwd 0) = true
  · rw [c0, ic_f (by decide), if_pos rfl]
    refine Hm_cVv (sp207 (d := d + 29) hs hW h hk hD hO) (fun M1 ⟨f1, x1⟩ => Hm_some ⟨rfl, ?_⟩)
    exact LSp_c (l := [(fullO D 0, n), (newO tp Tn D (n + 1), n + 1), (wO tp Tn (n + 2) 1, n + 2), (numO tp Tn (n + 3) 0 9, n + 3)]) hs f1 x1 (by omega)
  rw [nf c0, ic_t (by decide), if_neg (by decide), show evD (d + 34) 206 [vR 12 0 253, vI 2] M = _ from w 2 (by omega) (d + 33), cIn_s]
  by_cases c2 : isWN tp Tn n (kwd 2) = true
  · rw [c2, ic_f (by decide), if_pos rfl]
    refine Hm_cVv (sp217 (d := d + 29) hs hW h hk hD hO) (fun M1 ⟨f1, x1⟩ => Hm_some ⟨rfl, ?_⟩)
    exact LSp_c (l := [(fullO D 1, n), (newO tp Tn D (n + 1), n + 1), (if sdO tp Tn (n + 2) = 2 then 1 else 0, n + 2), (wO tp Tn (n + 3) 3, n + 3), (numO tp Tn (n + 4) 0 9, n + 4)]) hs f1 x1 (by omega)
  rw [nf c2, ic_t (by decide), if_neg (by decide), show evD (d + 34) 206 [vR 12 0 253, vI 4] M = _ from w 4 (by omega) (d + 33), cIn_s]
  by_cases c4 : isWN tp Tn n (kwd 4) = true
  · rw [c4, ic_f (by decide), if_pos rfl]
    refine Hm_cVv (sp219 (d := d + 28) hs hW h hk hD hO) (fun M1 ⟨f1, x1⟩ => Hm_some ⟨rfl, ?_⟩)
    exact LSp_c (l := [(fullO D 2, n), (newO tp Tn D (n + 1), n + 1), (if kdO tp Tn (n + 2) = 4 then 1 else 0, n + 2), (wO tp Tn (n + 3) 5, n + 3), (numO tp Tn (n + 4) 1 20, n + 4), (wO tp Tn (n + 5) 6, n + 5), (numO tp Tn (n + 6) 1 99, n + 6), (wO tp Tn (n + 7) 7, n + 7), (numO tp Tn (n + 8) 0 99, n + 8), (wO tp Tn (n + 9) 8, n + 9), (namO tp Tn (n + 10) (D.cs 1) (D.nm 1), n + 10)]) hs f1 x1 (by omega)
  rw [nf c4, ic_t (by decide), if_neg (by decide), show evD (d + 34) 206 [vR 12 0 253, vI 9] M = _ from w 9 (by omega) (d + 33), cIn_s]
  by_cases c9 : isWN tp Tn n (kwd 9) = true
  · rw [c9, ic_f (by decide), if_pos rfl]
    refine Hm_cVv (sp223 (d := d + 28) hs hW h hk hD hO) (fun M1 ⟨f1, x1⟩ => Hm_some ⟨rfl, ?_⟩)
    exact LSp_c (l := [(namO tp Tn (n + 1) (D.cs 2) (D.nm 2), n + 1), (namO tp Tn (n + 2) (D.cs 2) (D.nm 2), n + 2), (if fnd (D.nm 2) (kW tp Tn (n + 2)) (D.cs 2) = fnd (D.nm 2) (kW tp Tn (n + 1)) (D.cs 2) ∨ D.cl (fnd (D.nm 2) (kW tp Tn (n + 1)) (D.cs 2)) (fnd (D.nm 2) (kW tp Tn (n + 2)) (D.cs 2)) = true then 3 else 0, n + 2)]) hs f1 x1 (by omega)
  rw [nf c9, ic_t (by decide), if_neg (by decide)]
  exact Hm_cVv (sp224 (d := d) hs hW h hk hD hO hcd) (fun M1 x1 => Hm_some ⟨rfl, x1⟩)
end RONCE
