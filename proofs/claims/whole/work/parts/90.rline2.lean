/-! YARD: the reference's acts and clashes -/
section RLINE2
variable {tp : Nat → Int32} {Tn d n cd : Nat} {M M' M'' : Mem} {D : Dr} {l : List (Nat × Nat)}
theorem NTp_new {kn q : Nat} {w : List Nat} {val : Nat → Nat} (h : NTp 1 D.cs D.nm kn M) (hq : q < 3) (hkn : kn < 18) (h19 : M'.1 253 19 = Int32.ofNat (kn + 1)) (h1 : M'.1 265 kn = Int32.ofNat (20 * q + D.cs q)) (h2 : M'.2.1 263 kn = wc 37 w) (hk : ∀ k, k < kn → M'.1 265 k = M.1 265 k ∧ M'.2.1 263 k = M.2.1 263 k) : NTp 1 (D.new q w val).cs (D.new q w val).nm (kn + 1) M' := by
  have hb : NTb 263 265 D.cs D.nm kn M := by
    rcases h.2 with ⟨z, -⟩ | ⟨-, -, z⟩
    · exact absurd z (by decide)
    · exact z
  exact ⟨by omega, .inr ⟨by decide, h19, NTb_new hb hq h1 h2 hk⟩⟩
theorem new_nm1 {w : List Nat} {val : Nat → Nat} : (D.new 2 w val).cs 1 = D.cs 1 ∧ (D.new 2 w val).nm 1 = D.nm 1 := by
  refine ⟨rfl, funext fun i => ?_⟩
  rw [new_nm, if_neg (by omega)]
theorem sp219 (hs : SG tp Tn) (hW : WT33 M) (h : TB tp Tn n M) (hk : kS tp Tn n ≠ 0) (hD : DRf D cd M) (hO : DO1 D) : Hm (evD (d + 6) 219 [vR 12 0 253] M) (fun r M' => r = none ∧ Fr QWr M M' ∧ RLo tp Tn (chk tp Tn [(fullO D 2, n), (newO tp Tn D (n + 1), n + 1), (if kdO tp Tn (n + 2) = 4 then 1 else 0, n + 2), (wO tp Tn (n + 3) 5, n + 3), (numO tp Tn (n + 4) 1 20, n + 4), (wO tp Tn (n + 5) 6, n + 5), (numO tp Tn (n + 6) 1 99, n + 6), (wO tp Tn (n + 7) 7, n + 7), (numO tp Tn (n + 8) 0 99, n + 8), (wO tp Tn (n + 9) 8, n + 9), (namO tp Tn (n + 10) (D.cs 1) (D.nm 1), n + 10)]) (D.new 2 (kW tp Tn (n + 1)) (fun c => if c = 36 then kdO tp Tn (n + 2) else if c = 37 then kV tp Tn (n + 4) else if c = 38 then kV tp Tn (n + 6) else if c = 39 then kV tp Tn (n + 8) else fnd (D.nm 1) (kW tp Tn (n + 10)) (D.cs 1))) cd (n + 11) M') := by
  have e0 : M.1 259 112 = Int32.ofNat (D.cs 2) := hD.1.1 2 (by omega)
  have c6 := hO.1.1 2 (by omega)
  have c60 := hO.1.1 0 (by omega)
  have c61 := hO.1.1 1 (by omega)
  rw [e219, e0, show (6 : Int32) = Int32.ofNat 6 from rfl, i_eq (by omega) (by omega)]
  by_cases hf : D.cs 2 = 6
  · rw [ic_t hf, sp208 (e := 5) (E := 5) rfl hs h, cVd_s, fullO_5 hf, chk_1 (by omega)]
    exact Hm_some ⟨rfl, (R78i (.inr rfl)).up R78.q, TB.f hs (by omega) (by omega), fun z => absurd z (by simp)⟩
  have i6 : D.cs 2 < 6 := by omega
  rw [ic_f hf, chk_0 (fullO_0 i6)]
  simp only [i_mulr, i_addr, i_addl]
  generalize hP : 136 + 5 * D.cs 2 = P
  have hPl : P ≤ 161 := by omega
  have hP1 : 136 ≤ P := by omega
  refine Hm_cVv (sp209 (d := d + 1) hs hO.1 hD.2.2.2.2.2.2.2 (by omega) hW h hk) (fun M1 ⟨f1, r1, nn⟩ => ?_)
  have W1 : WT33 M1 := hW.fr f1 (fun j z => by unfold NWr at z; omega)
  refine Hm_cIn (op218 (d := d + 2) (f := 21) (m := 4) (x := kdO tp Tn (n + 2)) rfl rfl hs (by omega) W1 whr_kd kdO_le (fun z => (kdO_k z).1) r1) (fun r M2 ⟨f2, r2, v2, hr2, hv2⟩ => ⟨v2, hr2, ?_⟩)
  rw [ck (show P < 220 by omega) (by omega), i_nat (by omega)]
  have W2 : WT33 (sI M2 259 P v2) := (W1.r f2).w
  refine Hm_cIn (op213 (d := d + 1) (w := 5) (lo := 1) (hi := 20) rfl rfl rfl hs (by omega) W2 (by omega) (by omega) r2.w) (fun r M3 ⟨f3, r3, v3, hr3, hv3⟩ => ⟨v3, hr3, ?_⟩)
  rw [ck (show P + 1 < 220 by omega) (by omega), i_nat (by omega)]
  have W3 : WT33 (sI M3 259 (P + 1) v3) := (W2.r f3).w
  refine Hm_cIn (op213 (d := d + 1) (w := 6) (lo := 1) (hi := 99) rfl rfl rfl hs (by omega) W3 (by omega) (by omega) r3.w) (fun r M4 ⟨f4, r4, v4, hr4, hv4⟩ => ⟨v4, hr4, ?_⟩)
  rw [ck (show P + 2 < 220 by omega) (by omega), i_nat (by omega)]
  have W4 : WT33 (sI M4 259 (P + 2) v4) := (W3.r f4).w
  refine Hm_cIn (op213 (d := d + 1) (w := 7) (lo := 0) (hi := 99) rfl rfl rfl hs (by omega) W4 (by omega) (by omega) r4.w) (fun r M5 ⟨f5, r5, v5, hr5, hv5⟩ => ⟨v5, hr5, ?_⟩)
  rw [ck (show P + 3 < 220 by omega) (by omega), i_nat (by omega)]
  have W5 : WT33 (sI M5 259 (P + 3) v5) := (W4.r f5).w
  refine Hm_cVv (op214 (d := d + 2) (w := 8) rfl hs (by omega) W5 r5.w) (fun M6 ⟨f6, r6⟩ => ?_)
  have W6 : WT33 M6 := W5.r f6
  have lk : ∀ (c j : Nat), c ≠ 253 → c ≠ 259 → M6.1 c j = M1.1 c j ∧ M6.2.1 c j = M1.2.1 c j := fun c j x y => by
    refine ⟨?_, ?_⟩
    · rw [f6.i (r253 x), sI_ne (.inl y), f5.i (r253 x), sI_ne (.inl y), f4.i (r253 x), sI_ne (.inl y), f3.i (r253 x), sI_ne (.inl y), f2.i (r253 x)]
    · rw [f6.j (r253 x)]
      show M5.2.1 c j = _
      rw [f5.j (r253 x)]
      show M4.2.1 c j = _
      rw [f4.j (r253 x)]
      show M3.2.1 c j = _
      rw [f3.j (r253 x)]
      show M2.2.1 c j = _
      rw [f2.j (r253 x)]
  have l19 : M6.1 253 19 = M1.1 253 19 := by
    have n19 : ¬ R78 253 19 := fun z => by unfold R78 at z; omega
    rw [f6.i n19, sI_ne (by omega), f5.i n19, sI_ne (by omega), f4.i n19, sI_ne (by omega), f3.i n19, sI_ne (by omega), f2.i n19]
  have hN2 : newO tp Tn D (n + 1) = 0 → NOk (D.new 2 (kW tp Tn (n + 1)) (fun _ => 0)).cs (D.new 2 (kW tp Tn (n + 1)) (fun _ => 0)).nm := fun z => NOk_new hO.1 i6 (wd_isW (newO_k z)) (newO_o z).2
  have h220 : Hm (evD (d + 5) 220 [vR 12 0 253, vI 1, vI (Int32.ofNat 20)] M6) (fun r M' => Fr R78 M6 M' ∧ RS tp Tn (chk tp Tn ([(newO tp Tn D (n + 1), n + 1)] ++ [(if kdO tp Tn (n + 2) = 4 then 1 else 0, n + 2)] ++ [(wO tp Tn (n + 3) 5, n + 3)] ++ [(numO tp Tn (n + 4) 1 20, n + 4)] ++ [(wO tp Tn (n + 5) 6, n + 5)] ++ [(numO tp Tn (n + 6) 1 99, n + 6)] ++ [(wO tp Tn (n + 7) 7, n + 7)] ++ [(numO tp Tn (n + 8) 0 99, n + 8)] ++ [(wO tp Tn (n + 9) 8, n + 9)] ++ [(namO tp Tn (n + 10) (D.cs 1) (D.nm 1), n + 10)])) (n + 11) M' ∧ ∃ v, r = some (vI v) ∧ (chk tp Tn ([(newO tp Tn D (n + 1), n + 1)] ++ [(if kdO tp Tn (n + 2) = 4 then 1 else 0, n + 2)] ++ [(wO tp Tn (n + 3) 5, n + 3)] ++ [(numO tp Tn (n + 4) 1 20, n + 4)] ++ [(wO tp Tn (n + 5) 6, n + 5)] ++ [(numO tp Tn (n + 6) 1 99, n + 6)] ++ [(wO tp Tn (n + 7) 7, n + 7)] ++ [(numO tp Tn (n + 8) 0 99, n + 8)] ++ [(wO tp Tn (n + 9) 8, n + 9)] ++ [(namO tp Tn (n + 10) (D.cs 1) (D.nm 1), n + 10)]) = none → v = Int32.ofNat (fnd (D.nm 1) (kW tp Tn (n + 10)) (D.cs 1)))) := by
    by_cases z0 : newO tp Tn D (n + 1) = 0
    · obtain ⟨n1, n2, n3⟩ := nn z0
      have hT : NTp 1 (D.new 2 (kW tp Tn (n + 1)) (fun _ => 0)).cs (D.new 2 (kW tp Tn (n + 1)) (fun _ => 0)).nm (D.cs 0 + D.cs 1 + D.cs 2 + 1) M6 := by
        refine NTp_new (M := M) hD.2.2.2.2.2.2.2 (by omega) (by omega) (l19.trans n1) ?_ ?_ (fun k hk' => ?_)
        · rw [(lk 265 _ (by omega) (by omega)).1, n2]
        · rw [(lk 263 _ (by omega) (by omega)).2, n3]
        · rw [(lk 265 _ (by omega) (by omega)).1, (lk 263 _ (by omega) (by omega)).2]
          exact ⟨f1.i (fun z => by unfold NWr at z; omega), f1.j (fun z => by unfold NWr at z; omega)⟩
      have r := op220 (d := d) (q := 1) (E := Int32.ofNat 20) rfl (by omega) hs (hN2 z0) (.inl hT) W6 r6
      rw [new_nm1.1, new_nm1.2] at r
      exact r
    · have hx : ∃ e, chk tp Tn ([(newO tp Tn D (n + 1), n + 1)] ++ [(if kdO tp Tn (n + 2) = 4 then 1 else 0, n + 2)] ++ [(wO tp Tn (n + 3) 5, n + 3)] ++ [(numO tp Tn (n + 4) 1 20, n + 4)] ++ [(wO tp Tn (n + 5) 6, n + 5)] ++ [(numO tp Tn (n + 6) 1 99, n + 6)] ++ [(wO tp Tn (n + 7) 7, n + 7)] ++ [(numO tp Tn (n + 8) 0 99, n + 8)] ++ [(wO tp Tn (n + 9) 8, n + 9)]) = some e := ⟨_, chk_1 z0⟩
      exact op220 (d := d) (q := 1) (kn := 0) (E := Int32.ofNat 20) rfl (by omega) hs hO.1 (.inr hx) W6 r6
  refine Hm_cIn h220 (fun r M7 ⟨f7, r7, v7, hr7, hv7⟩ => ⟨v7, hr7, ?_⟩)
  have e2 : M7.1 259 112 = Int32.ofNat (D.cs 2) := by rw [f7.i (r253 (by omega)), f6.i (r253 (by omega)), sI_ne (by omega), f5.i (r253 (by omega)), sI_ne (by omega), f4.i (r253 (by omega)), sI_ne (by omega), f3.i (r253 (by omega)), sI_ne (by omega), f2.i (r253 (by omega)), f1.i (nwr (by omega) (by omega) (by omega))]; exact e0
  rw [ck (show P + 4 < 220 by omega) (by omega), i_nat (by omega), sI_ne (by omega), e2, i_addl]
  have ir : ∀ j, P ≤ j → j ≤ P + 4 → FRn 2 (D.cs 2) (D.cs 0 + D.cs 1 + D.cs 2) 259 j := fun j x y => .inr ⟨rfl, .inr (by unfold inrow; omega)⟩
  have up : ∀ {A B : Mem}, Fr R78 A B → Fr (FRn 2 (D.cs 2) (D.cs 0 + D.cs 1 + D.cs 2)) A B := fun z => (R78_N z).up (fun c j z => .inl z)
  have F : Fr (FRn 2 (D.cs 2) (D.cs 0 + D.cs 1 + D.cs 2)) M (sI (sI M7 259 (P + 4) v7) 259 112 (Int32.ofNat (D.cs 2 + 1))) := (((((((((((((f1.up (fun c j z => .inl z)).tr (up f2)).sI (ir _ (by omega) (by omega))).tr (up f3)).sI (ir _ (by omega) (by omega))).tr (up f4)).sI (ir _ (by omega) (by omega))).tr (up f5)).sI (ir _ (by omega) (by omega))).tr (up f6)).tr (up f7)).sI (ir _ (by omega) (by omega))).sI (.inr ⟨rfl, .inl rfl⟩))
  refine Hm_some ⟨rfl, F.up FRn.q, r7.w.w, fun z => ?_⟩
  obtain ⟨o1, -⟩ := chk_no z
  obtain ⟨n1, n2, n3⟩ := nn o1
  have g3 := hv2 (chk_pre (l2 := [(wO tp Tn (n + 3) 5, n + 3), (numO tp Tn (n + 4) 1 20, n + 4), (wO tp Tn (n + 5) 6, n + 5), (numO tp Tn (n + 6) 1 99, n + 6), (wO tp Tn (n + 7) 7, n + 7), (numO tp Tn (n + 8) 0 99, n + 8), (wO tp Tn (n + 9) 8, n + 9), (namO tp Tn (n + 10) (D.cs 1) (D.nm 1), n + 10)]) z)
  have g4 := hv3 (chk_pre (l2 := [(wO tp Tn (n + 5) 6, n + 5), (numO tp Tn (n + 6) 1 99, n + 6), (wO tp Tn (n + 7) 7, n + 7), (numO tp Tn (n + 8) 0 99, n + 8), (wO tp Tn (n + 9) 8, n + 9), (namO tp Tn (n + 10) (D.cs 1) (D.nm 1), n + 10)]) z)
  have g5 := hv4 (chk_pre (l2 := [(wO tp Tn (n + 7) 7, n + 7), (numO tp Tn (n + 8) 0 99, n + 8), (wO tp Tn (n + 9) 8, n + 9), (namO tp Tn (n + 10) (D.cs 1) (D.nm 1), n + 10)]) z)
  have g6 := hv5 (chk_pre (l2 := [(wO tp Tn (n + 9) 8, n + 9), (namO tp Tn (n + 10) (D.cs 1) (D.nm 1), n + 10)]) z)
  have g7 := hv7 z
  refine hD.new hO (by omega) i6 F sI_eq (fun c hc => ?_) ?_ ?_ ?_
  · have hcc : c = 36 ∨ c = 37 ∨ c = 38 ∨ c = 39 ∨ c = 40 := by unfold rwq at hc; omega
    have p36 : rpos 36 (D.cs 2) = P := by show 136 + 5 * D.cs 2 + 0 = P; omega
    have p37 : rpos 37 (D.cs 2) = P + 1 := by show 136 + 5 * D.cs 2 + 1 = P + 1; omega
    have p38 : rpos 38 (D.cs 2) = P + 2 := by show 136 + 5 * D.cs 2 + 2 = P + 2; omega
    have p39 : rpos 39 (D.cs 2) = P + 3 := by show 136 + 5 * D.cs 2 + 3 = P + 3; omega
    have p40 : rpos 40 (D.cs 2) = P + 4 := by show 136 + 5 * D.cs 2 + 4 = P + 4; omega
    rcases hcc with rfl | rfl | rfl | rfl | rfl
    · rw [p36, sI_ne (by omega), sI_ne (by omega), f7.i (r253 (by omega)), f6.i (r253 (by omega)), sI_ne (by omega), f5.i (r253 (by omega)), sI_ne (by omega), f4.i (r253 (by omega)), sI_ne (by omega), f3.i (r253 (by omega)), sI_eq, g3]; rfl
    · rw [p37, sI_ne (by omega), sI_ne (by omega), f7.i (r253 (by omega)), f6.i (r253 (by omega)), sI_ne (by omega), f5.i (r253 (by omega)), sI_ne (by omega), f4.i (r253 (by omega)), sI_eq, g4]; rfl
    · rw [p38, sI_ne (by omega), sI_ne (by omega), f7.i (r253 (by omega)), f6.i (r253 (by omega)), sI_ne (by omega), f5.i (r253 (by omega)), sI_eq, g5]; rfl
    · rw [p39, sI_ne (by omega), sI_ne (by omega), f7.i (r253 (by omega)), f6.i (r253 (by omega)), sI_eq, g6]; rfl
    · rw [p40, sI_ne (by omega), sI_eq, g7]; rfl
  · rw [sI_ne (by omega), sI_ne (by omega), f7.i (fun z => by unfold R78 at z; omega), l19]; exact n1
  · rw [sI_ne (by omega), sI_ne (by omega), f7.i (r253 (by omega)), (lk 265 _ (by omega) (by omega)).1, n2]
  · show M7.2.1 263 _ = _
    rw [f7.j (r253 (by omega)), (lk 263 _ (by omega) (by omega)).2]; exact n3
/-- under steps alone a draft stays -/
theorem DRf.keep {W : Nat → Nat → Prop} (h : DRf D cd M) (hf : Fr W M M') (hw : ∀ c j, (c = 259 ∨ (c = 253 ∧ (j = 13 ∨ j = 18 ∨ j = 19 ∨ j = 20)) ∨ c = 260 ∨ c = 261 ∨ (262 ≤ c ∧ c ≤ 265)) → ¬ W c j) : DRf D cd M' := by
  obtain ⟨⟨a1, a2, a3⟩, a4, a5, a6, a7, ⟨a8, a9⟩, a10, a11⟩ := h
  have e : ∀ j, M'.1 259 j = M.1 259 j := fun j => hf.i (hw 259 j (by omega))
  refine ⟨⟨fun q hq => (e _).trans (a1 q hq), (e _).trans a2, (e _).trans a3⟩, fun c q hc i hi => (e _).trans (a4 c q hc i hi), fun a b ha hb => (e _).trans (a5 a b ha hb), ⟨fun z => ?_, fun z => ⟨(e _).trans (a6.2 z).1, fun i hi => (e _).trans ((a6.2 z).2 i hi)⟩⟩, fun k hk => ?_, ⟨a8.fr hf (hw _ _ (by omega)) (fun j hj => ⟨hw _ _ (by omega), hw _ _ (by omega)⟩), a9.fr hf (hw _ _ (by omega)) (fun j hj => ⟨hw _ _ (by omega), hw _ _ (by omega)⟩)⟩, (hf.i (hw _ _ (by omega))).trans a10, a11.fr hf (fun c j hc => hw c j (by omega))⟩
  · rw [e, e]; exact a6.1 z
  · rw [hf.i (hw _ _ (by omega))]; exact a7 k hk
theorem DRf.r (h : DRf D cd M) (hf : Fr R78 M M') : DRf D cd M' := h.keep hf (fun c j hc z => by unfold R78 at z; omega)
theorem op221 {c : Nat → Nat} {nm : Nat → Nat → List Nat} {p : Int32} {kn q : Nat} {E : Int32} (hE : E = Int32.ofNat (20 * q)) (hq : q < 3) (hs : SG tp Tn) (hN : NOk c nm) (hT : NTp p c nm kn M) (hW : WT33 M) (h : RS tp Tn (chk tp Tn l) n M) : Hm (evD (d + 4) 221 [vR 12 0 253, vI p, vI E] M) (fun r M' => Fr R78 M M' ∧ RS tp Tn (chk tp Tn (l ++ [(namO tp Tn n (c q) (nm q), n)])) n M' ∧ ∃ v, r = some (vI v) ∧ (chk tp Tn (l ++ [(namO tp Tn n (c q) (nm q), n)]) = none → v = Int32.ofNat (fnd (nm q) (kW tp Tn n) (c q)))) := by
  cases hc : chk tp Tn l with
  | some e =>
    rw [hc] at h; rw [chk_ap.2 e hc]
    exact Hm_eq (sp221f h) ⟨Fr.rf, h, 0, rfl, fun z => absurd z (by simp)⟩
  | none =>
    rw [hc] at h; rw [chk_ap.1 hc]
    refine Hm_mono (sp221 hE hq hs hN hT hW h) (fun r M' b => ?_)
    by_cases hy : namO tp Tn n (c q) (nm q) = 0
    · rw [if_pos hy] at b
      rw [chk_0 hy, b.2]
      exact ⟨Fr.rf, h, _, b.1, fun _ => rfl⟩
    · rw [if_neg hy] at b
      rw [chk_1 hy, b.2]
      exact ⟨R78i (.inr rfl), TB.f hs (by omega) namO_le5, 0, b.1, fun z => absurd z (by simp)⟩
theorem sp223 (hs : SG tp Tn) (hW : WT33 M) (h : TB tp Tn n M) (hk : kS tp Tn n ≠ 0) (hD : DRf D cd M) (hO : DO1 D) : Hm (evD (d + 6) 223 [vR 12 0 253] M) (fun r M' => r = none ∧ Fr QWr M M' ∧ RLo tp Tn (chk tp Tn [(namO tp Tn (n + 1) (D.cs 2) (D.nm 2), n + 1), (namO tp Tn (n + 2) (D.cs 2) (D.nm 2), n + 2), (if fnd (D.nm 2) (kW tp Tn (n + 2)) (D.cs 2) = fnd (D.nm 2) (kW tp Tn (n + 1)) (D.cs 2) ∨ D.cl (fnd (D.nm 2) (kW tp Tn (n + 1)) (D.cs 2)) (fnd (D.nm 2) (kW tp Tn (n + 2)) (D.cs 2)) = true then 3 else 0, n + 2)]) (D.cla (fnd (D.nm 2) (kW tp Tn (n + 1)) (D.cs 2)) (fnd (D.nm 2) (kW tp Tn (n + 2)) (D.cs 2))) cd (n + 3) M') := by
  have c6 := hO.1.1 2 (by omega)
  rw [e223, h.2.2.1, i_addl]
  have f0 : Fr R78 M (sI M 253 7 (Int32.ofNat (n + 1))) := R78i (.inl rfl)
  have D1 := hD.r f0
  have h1 : RS tp Tn (chk tp Tn []) (n + 1) (sI M 253 7 (Int32.ofNat (n + 1))) := h.s hk
  refine Hm_cIn (op220 (d := d) (q := 2) (E := 40) rfl (by omega) hs hO.1 (.inl D1.2.2.2.2.2.2.2) (hW.r f0) h1) (fun r M2 ⟨f2, r2, v2, hr2, hv2⟩ => ⟨v2, hr2, ?_⟩)
  have D2 := D1.r f2
  refine Hm_cIn (op221 (d := d + 1) (q := 2) (E := 40) rfl (by omega) hs hO.1 D2.2.2.2.2.2.2.2 ((hW.r f0).r f2) r2) (fun r M3 ⟨f3, r3, v3, hr3, hv3⟩ => ⟨v3, hr3, ?_⟩)
  have D3 := D2.r f3
  have F3 : Fr R78 M M3 := (f0.tr f2).tr f3
  have hv2' : chk tp Tn ([] ++ [(namO tp Tn (n + 1) (D.cs 2) (D.nm 2), n + 1)] ++ [(namO tp Tn (n + 1 + 1) (D.cs 2) (D.nm 2), n + 1 + 1)]) = none → v2 = Int32.ofNat (fnd (D.nm 2) (kW tp Tn (n + 1)) (D.cs 2)) := fun z => hv2 (chk_pre z)
  have spl : chk tp Tn [(namO tp Tn (n + 1) (D.cs 2) (D.nm 2), n + 1), (namO tp Tn (n + 2) (D.cs 2) (D.nm 2), n + 2), (if fnd (D.nm 2) (kW tp Tn (n + 2)) (D.cs 2) = fnd (D.nm 2) (kW tp Tn (n + 1)) (D.cs 2) ∨ D.cl (fnd (D.nm 2) (kW tp Tn (n + 1)) (D.cs 2)) (fnd (D.nm 2) (kW tp Tn (n + 2)) (D.cs 2)) = true then 3 else 0, n + 2)] = chk tp Tn (([] ++ [(namO tp Tn (n + 1) (D.cs 2) (D.nm 2), n + 1)] ++ [(namO tp Tn (n + 1 + 1) (D.cs 2) (D.nm 2), n + 1 + 1)]) ++ [(if fnd (D.nm 2) (kW tp Tn (n + 2)) (D.cs 2) = fnd (D.nm 2) (kW tp Tn (n + 1)) (D.cs 2) ∨ D.cl (fnd (D.nm 2) (kW tp Tn (n + 1)) (D.cs 2)) (fnd (D.nm 2) (kW tp Tn (n + 2)) (D.cs 2)) = true then 3 else 0, n + 2)]) := rfl
  rw [spl]
  cases hc : chk tp Tn ([] ++ [(namO tp Tn (n + 1) (D.cs 2) (D.nm 2), n + 1)] ++ [(namO tp Tn (n + 1 + 1) (D.cs 2) (D.nm 2), n + 1 + 1)]) with
  | some e =>
    rw [hc] at r3
    have r3 : TFa e M3 := r3
    rw [chk_ap.2 e hc, ic_f r3.ne.1, lp0_eq, show (20000 : Nat) = 19999 + 1 from rfl, e223_62, ic_f r3.ne.1]
    exact Hm_some ⟨rfl, F3.up R78.q, r3, fun z => absurd z (by simp)⟩
  | none =>
    rw [hc] at r3
    have r3 : TB tp Tn (n + 2) M3 := r3
    have ev2 := hv2' hc
    have ev3 := hv3 hc
    obtain ⟨o1, hc'⟩ := chk_no (show chk tp Tn [(namO tp Tn (n + 1) (D.cs 2) (D.nm 2), n + 1), (namO tp Tn (n + 1 + 1) (D.cs 2) (D.nm 2), n + 1 + 1)] = none from hc)
    obtain ⟨o2, -⟩ := chk_no hc'
    have ha := namO_f o1
    have hb := namO_f o2
    have ev3 : v3 = Int32.ofNat (fnd (D.nm 2) (kW tp Tn (n + 2)) (D.cs 2)) := ev3
    have hb : fnd (D.nm 2) (kW tp Tn (n + 2)) (D.cs 2) < D.cs 2 := hb
    rw [chk_ap.1 hc, ev2, ev3, ic_t r3.2.2.2]
    clear ev2 ev3 hv2 hv3 hv2' spl
    generalize fnd (D.nm 2) (kW tp Tn (n + 1)) (D.cs 2) = a at *
    generalize fnd (D.nm 2) (kW tp Tn (n + 2)) (D.cs 2) = b at *
    have bad : ∀ (x y : Nat), Hm (lp0 (d + 5) 223 57 [some (vR 12 0 253), some (vI (Int32.ofNat x)), some (vI (Int32.ofNat y))] M3) (fun r M' => r = none ∧ Fr QWr M M' ∧ RLo tp Tn (chk tp Tn [(3, n + 2)]) (D.cla a b) cd (n + 3) M') := fun x y => by
      have hF := TB.f (M := M3) (n := n + 2) (tp := tp) hs (e := 3) (by omega) (by omega)
      rw [lp0_eq, show (20000 : Nat) = 19999 + 1 from rfl, e223_57, sp208 (e := 3) (E := 3) rfl hs r3, cVd_s, show (19999 : Nat) = 19998 + 1 from rfl, e223_62, ic_f hF.ne.1, chk_1 (by omega)]
      exact Hm_some ⟨rfl, (F3.tr (R78i (.inr rfl))).up R78.q, hF, fun z => absurd z (by simp)⟩
    rw [i_eq (by omega) (by omega)]
    by_cases ab : a = b
    · rw [ic_t ab, if_pos (.inl ab.symm)]; exact bad a b
    have e5 : M3.1 259 (166 + 6 * a + b) = b2 (D.cl a b) := D3.2.2.1 a b (by omega) (by omega)
    rw [ic_f ab, i_mulr, i_addr, i_add, ck (show 166 + 6 * a + b < 220 by omega) (by omega), i_nat (by omega), e5, b2_1]
    by_cases cl : D.cl a b = true
    · rw [ic_t cl, if_pos (.inr cl)]; exact bad a b
    · rw [ic_f cl, if_neg (fun z => by rcases z with z | z; exact ab z.symm; exact cl z), chk_0 rfl, lp0_eq, show (20000 : Nat) = 19999 + 1 from rfl, e223_62, ic_t r3.2.2.2, i_mulr, i_addr, i_add, ck (show 166 + 6 * a + b < 220 by omega) (by omega), i_mulr, i_addr, i_add, ck (show 166 + 6 * b + a < 220 by omega) (by omega), i_nat (by omega), i_nat (by omega), r3.2.2.1, i_addl, sI_ne (j := 166 + 6 * b + a) (by omega), sI_ne (j := 166 + 6 * a + b) (by omega), sI_ne (j := 7) (by omega), D3.1.2.1, i_addl]
      generalize hA : sI (sI (sI (sI M3 253 7 (Int32.ofNat (n + 2 + 1))) 259 (166 + 6 * a + b) 1) 259 (166 + 6 * b + a) 1) 259 113 (Int32.ofNat (D.pr + 1)) = A
      have fA : Fr (fun c j => R78 c j ∨ (c = 259 ∧ (j = 166 + 6 * a + b ∨ j = 166 + 6 * b + a ∨ j = 113))) M3 A := by
        rw [← hA]
        exact ((((R78i (.inl rfl)).up (fun c j z => .inl z)).sI (.inr (by omega))).sI (.inr (by omega))).sI (.inr (by omega))
      refine Hm_some ⟨rfl, (F3.up R78.q).tr (fA.up (fun c j z => by unfold R78 at z; unfold QWr; omega)), ?_, fun _ => ?_⟩
      · have := r3.s (namO_k o2)
        rw [← hA]
        exact TB.fr this (W := fun c j => c = 259) (((Fr.rf.sI (by omega)).sI (by omega)).sI (by omega)) (fun c i hc z => by omega)
      · obtain ⟨⟨a1, a2, a3⟩, a4, a5, a6, a7, ⟨a8, a9⟩, a10, a11⟩ := D3
        have no : ∀ c j, (c = 259 → j < 166 ∨ 202 ≤ j) → (c = 259 → j ≠ 113) → (c = 253 → j ≠ 7 ∧ j ≠ 8) → ¬ (R78 c j ∨ (c = 259 ∧ (j = 166 + 6 * a + b ∨ j = 166 + 6 * b + a ∨ j = 113))) := fun c j x1 x2 x3 z => by unfold R78 at z; omega
        have e : ∀ j, (j < 166 ∨ 202 ≤ j) → j ≠ 113 → A.1 259 j = M3.1 259 j := fun j hj hj' => fA.i (no _ _ (fun _ => hj) (fun _ => hj') (fun z => by omega))
        refine ⟨⟨fun q hq => (e _ (by omega) (by omega)).trans (a1 q hq), by rw [← hA]; exact sI_eq, (e _ (by omega) (by omega)).trans a3⟩, fun c q hc i hi => ?_, fun x y hx hy => ?_, ⟨fun z => ?_, fun z => ⟨(e _ (by omega) (by omega)).trans (a6.2 z).1, fun i hi => (e _ (by omega) (by omega)).trans ((a6.2 z).2 i hi)⟩⟩, fun k hk => ?_, ⟨a8.fr fA (no _ _ (fun _ => by simp) (fun _ => by simp) (fun z => by omega)) (fun j hj => ⟨no _ _ (fun z => by omega) (fun z => by omega) (fun z => by omega), no _ _ (fun z => by omega) (fun z => by omega) (fun z => by omega)⟩), a9.fr fA (no _ _ (fun _ => by simp) (fun _ => by simp) (fun z => by omega)) (fun j hj => ⟨no _ _ (fun z => by omega) (fun z => by omega) (fun z => by omega), no _ _ (fun z => by omega) (fun z => by omega) (fun z => by omega)⟩)⟩, (fA.i (no _ _ (fun z => by omega) (fun z => by omega) (fun z => by omega))).trans a10, a11.fr fA (fun c j hc => no c j (fun z => by omega) (fun z => by omega) (fun z => by omega))⟩
        · have hp := rpos_x hc i
          have hq3 : q < 3 := by unfold rwq at hc; omega
          have hq6 := hO.1.1 q hq3
          have hi' : i < D.cs q := hi
          exact (e _ (by omega) (by omega)).trans (a4 c q hc i hi)
        · show A.1 259 (166 + 6 * x + y) = b2 (D.cl x y || (decide (x = a ∧ y = b) || decide (x = b ∧ y = a)))
          by_cases xa : x = a ∧ y = b
          · rw [← hA, sI_ne (by omega), xa.1, xa.2]
            by_cases y2 : 166 + 6 * a + b = 166 + 6 * b + a
            · omega
            · rw [sI_ne (by omega), sI_eq]; simp [b2]
          · by_cases xb : x = b ∧ y = a
            · rw [← hA, sI_ne (by omega), xb.1, xb.2, sI_eq]; simp [b2]
            · have : A.1 259 (166 + 6 * x + y) = M3.1 259 (166 + 6 * x + y) := fA.i (fun z => by unfold R78 at z; omega)
              rw [this, a5 x y hx hy]
              simp [xa, xb]
        · rw [e _ (by omega) (by omega), e _ (by omega) (by omega)]; exact a6.1 z
        · rw [fA.i (no _ _ (fun z => by omega) (fun z => by omega) (fun z => by omega))]; exact a7 k hk
end RLINE2
