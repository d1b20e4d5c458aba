/-! the reference's cut -/
section RCUT
variable {tp : Nat → Int32} {Tn d n : Nat} {M M' : Mem}
theorem toI64 {c : Nat} (h : c < 2147483648) : (Int32.ofNat c).toInt64 = Int64.ofNat c := by
  rw [← Int64.toInt_inj, l_ti (by omega), Int32.toInt_toInt64, i_toInt h]
theorem TE.fr {W : Nat → Nat → Prop} {i : Nat} (h : TE tp Tn M i) (hf : Fr W M M') (hw : ∀ c, (c = 255 ∨ c = 256 ∨ c = 257) → ¬ W c i) : TE tp Tn M' i :=
  ⟨(hf.i (hw 255 (by omega))).trans h.1, (hf.i (hw 256 (by omega))).trans h.2.1, fun a b => (hf.j (hw 257 (by omega))).trans (h.2.2 a b)⟩
theorem sp200 (hs : SG tp Tn) (hT : TRr Tn tp M) : Hm (evD (d + 3) 200 [vR 12 0 253] M) (fun r M' => r = none ∧ TB tp Tn 0 M' ∧ M'.1 253 2 = 0 ∧ Fr CW M M') := by
  have h1000 := hs.1
  rw [e200, lp0_eq, hT.1]
  have fM0 : Fr CW M (sI (sI M 253 3 (Int32.ofNat Tn)) 253 2 0) := (Fr.rf.sI (by unfold CW; omega)).sI (by unfold CW; omega)
  refine lp_ms (d := d + 2) (x := 200) (pc := 17) 8 0 (fun m lv M1 => ∃ n k o3 o4 o5 o6, lv = [some (vR 12 0 253), some (vI (Int32.ofNat n)), some (vI (Int32.ofNat k)), o3, o4, o5, o6] ∧ m = Tn - k ∧ k ≤ Tn ∧ tP tp Tn n = skp tp Tn k ∧ vis tp Tn n ∧ (∀ i, i < n → TE tp Tn M1 i) ∧ M1.1 253 3 = Int32.ofNat Tn ∧ M1.1 253 2 = 0 ∧ Fr CW M M1) ?_ Tn _ _ 20000 (by omega) ⟨0, 0, none, none, none, none, rfl, by omega, by omega, rfl, fun i hi => by omega, fun i hi => by omega, by rw [sI_ne (by omega), sI_eq], sI_eq, fM0⟩
  rintro m lv M1 F hF ⟨n, k, o3, o4, o5, o6, rfl, hm, hk, htp, hv, hte, h3, h2, hf⟩ z
  have hnT := vis_le hv
  obtain ⟨G, rfl⟩ : ∃ G, F = G + 1 := ⟨F - 1, by omega⟩
  rw [e200_17, h3, i_lt (by omega) (by omega)]
  by_cases hkT : k < Tn
  · have h254 : ∀ {A : Mem}, Fr CW M A → ∀ i, i < Tn → A.1 254 i = Int32.ofNat (ch tp i) := fun hA i hi => ((hA.i (by unfold CW; omega)).trans (hT.2 i hi)).trans (hs.2 i hi).1
    have h126 := (hs.2 k hkT).2
    rw [ic_t hkT, ck (show k < 1000 by omega) (by omega), i_nat (by omega), h254 hf k hkT]
    by_cases hb : isBl (ch tp k) = true
    · have hbc := isBl_iff.mp hb
      have hsk : skp tp Tn k = skp tp Tn (k + 1) := tkr_y hkT hb
      have go : ∀ o3', Hm (lp (d + 2) 200 G 44 [some (vR 12 0 253), some (vI (Int32.ofNat n)), some (vI (Int32.ofNat k)), o3', o4, o5, o6] M1) (fun r M' => r = none ∧ TB tp Tn 0 M' ∧ M'.1 253 2 = 0 ∧ Fr CW M M') := by
        intro o3'
        obtain ⟨G', rfl⟩ : ∃ G', G = G' + 1 := ⟨G - 1, by omega⟩
        rw [e200_44, i_addl]
        exact z (Tn - (k + 1)) _ _ _ (by omega) (by omega) ⟨n, k + 1, o3', o4, o5, o6, rfl, rfl, by omega, by rw [htp, hsk], hv, hte, h3, h2, hf⟩
      by_cases c10 : ch tp k = 10
      · rw [ic_t (by rw [c10]; rfl)]; exact go _
      · rw [ic_f (by rw [show (10 : Int32) = Int32.ofNat 10 from rfl, i_eq (by omega) (by omega)]; exact c10), ic_t (by rw [show (32 : Int32) = Int32.ofNat 32 from rfl, i_eq (by omega) (by omega)]; omega)]
        exact go _
    · have hbc := hb
      rw [isBl_iff] at hbc
      have hpk : tP tp Tn n = k := by rw [htp]; exact tkr_n (fun h => hb h.2)
      have hge := te_gt (tp := tp) hkT
      have hle := te_le (tp := tp) (Tn := Tn) (p := k) (by omega)
      rw [ic_f (by rw [show (10 : Int32) = Int32.ofNat 10 from rfl, i_eq (by omega) (by omega)]; omega), ic_f (by rw [show (32 : Int32) = Int32.ofNat 32 from rfl, i_eq (by omega) (by omega)]; omega), ck (show n < 1002 by omega) (by omega), i_nat (by omega), sp201 (by omega), cIn_s]
      generalize hM2 : sI M1 256 n (Int32.ofNat k) = M2
      have f2 : Fr (fun c j => c = 256 ∧ j = n) M1 M2 := by rw [← hM2]; exact Fr.rf.sI (by omega)
      have F2 : Fr CW M M2 := hf.tr (f2.up (fun c j z => by unfold CW; omega))
      have p2 : M2.1 256 n = Int32.ofNat k := by rw [← hM2]; exact sI_eq
      have k3 : M2.1 253 3 = Int32.ofNat Tn := (f2.i (by omega)).trans h3
      have k2 : M2.1 253 2 = 0 := (f2.i (by omega)).trans h2
      have ksn : kS tp Tn n = so tp Tn k := by unfold kS; rw [hpk]
      -- the token is laid
      have lay : ∀ (s : Nat) (v : Int64) (G' : Nat) (o3 o4 : Option AV), so tp Tn k = s → (s ≠ 4 → v = kval tp Tn n) → (Tn - te tp Tn k + 1) * 8 + 1 ≤ G' → Hm (lp (d + 2) 200 G' 265 [some (vR 12 0 253), some (vI (Int32.ofNat n)), some (vI (Int32.ofNat (te tp Tn k))), o3, o4, some (vJ v), none] (sI M2 255 n (Int32.ofNat s))) (fun r M' => r = none ∧ TB tp Tn 0 M' ∧ M'.1 253 2 = 0 ∧ Fr CW M M') := by
        intro s v G' o3 o4 hso hval hG'
        obtain ⟨G'', rfl⟩ : ∃ G'', G' = G'' + 1 := ⟨G' - 1, by omega⟩
        rw [e200_265, ck (show n < 1002 by omega) (by omega), i_nat (by omega), i_addl]
        have f3 : Fr (fun c j => (c = 255 ∨ c = 257) ∧ j = n) M2 (sJ (sI M2 255 n (Int32.ofNat s)) 257 n v) := (Fr.rf.sI (by omega)).sJ (by omega)
        refine z (Tn - te tp Tn k) _ _ _ (by omega) (by omega) ⟨n + 1, te tp Tn k, o3, o4, some (vJ v), none, rfl, rfl, hle, ?_, vis_s hv ?_, fun i hi => ?_, (f3.i (by omega)).trans k3, (f3.i (by omega)).trans k2, F2.tr (f3.up (fun c j z => by unfold CW; omega))⟩
        · show skp tp Tn (te tp Tn (tP tp Tn n)) = _; rw [hpk]
        · rw [ksn]; intro z0; exact (so_0.mp z0) hkT
        · by_cases y : i = n
          · subst y
            refine ⟨?_, ?_, fun a b => ?_⟩
            · rw [sJ_1, sI_eq, ksn, hso]
            · rw [f3.i (by omega), p2, hpk]
            · rw [sJ_eq]; exact hval (by rw [ksn, hso] at b; exact b)
          · exact ((hte i (by omega)).fr f2 (fun c hc z => by omega)).fr f3 (fun c hc z => by omega)
      by_cases hl : isLt (ch tp k) = true
      · rw [hl, ic_f (by decide)]
        have ht : te tp Tn k = tkr tp Tn isLt k := by unfold te; rw [if_pos hkT, if_pos hl]
        have es : so tp Tn k = if 8 < te tp Tn k - k then 4 else 1 := by unfold so; rw [if_pos hkT, if_pos hl]
        refine lp_for (d := d + 2) (x := 200) (pc := 70) (te tp Tn k - k) 2 ((Tn - te tp Tn k + 1) * 8 + 3) (by omega) (fun j lv M3 => M3 = M2 ∧ lv = [some (vR 12 0 253), some (vI (Int32.ofNat n)), some (vI (Int32.ofNat (k + j))), some (vI (Int32.ofNat (ch tp k))), some (vI (Int32.ofNat k)), some (vJ (wc 37 (lts tp k (min (k + j) (k + 8))))), none]) ?_ ?_ (te tp Tn k - k) 0 (by omega) G _ _ (by omega) ⟨rfl, ?_⟩
        · rintro j hj G1 lv M3 - ⟨rfl, rfl⟩ z1
          have hin := tkr_in (tp := tp) (Tn := Tn) (P := isLt) (k := k) (i := k + j) (by omega) (by omega)
          have hc := isLt_iff.mp hin.2
          rw [show G1 + 2 = (G1 + 1) + 1 from rfl, e200_70, k3, i_lt (by omega) (by omega), ic_t hin.1, ck (show k + j < 1000 by omega) (by omega), i_nat (by omega), h254 F2 _ hin.1, sp201 (by omega), cIn_s, hin.2, ic_f (by decide), i_sub (show k ≤ k + j by omega), show (8 : Int32) = Int32.ofNat 8 from rfl, i_lt (by omega) (by omega)]
          by_cases h8 : k + j - k < 8
          · rw [ic_t h8, ckn (show k + j < 1000 by omega) (by omega), h254 F2 _ hin.1, sp202 hin.2, cIn_s, e200_123, i_addl, toI64 (by omega), wcm (by omega) h8 rfl]
            exact z1 _ _ _ (by omega) ⟨rfl, rfl⟩
          · rw [ic_f h8, e200_123, i_addl, wcm' h8]
            exact z1 _ _ _ (by omega) ⟨rfl, rfl⟩
        · rintro G1 lv M3 hG1 ⟨rfl, rfl⟩
          rw [show k + (te tp Tn k - k) = te tp Tn k by omega]
          have hend := tkr_end (tp := tp) (Tn := Tn) (P := isLt) _ k rfl
          rw [← ht] at hend
          obtain ⟨G2, rfl⟩ : ∃ G2, G1 = G2 + 3 := ⟨G1 - 3, by omega⟩
          have fin : Hm (lp (d + 2) 200 (G2 + 4) 129 [some (vR 12 0 253), some (vI (Int32.ofNat n)), some (vI (Int32.ofNat (te tp Tn k))), some (vI (Int32.ofNat (ch tp k))), some (vI (Int32.ofNat k)), some (vJ (wc 37 (lts tp k (min (te tp Tn k) (k + 8))))), none] M3) (fun r M' => r = none ∧ TB tp Tn 0 M' ∧ M'.1 253 2 = 0 ∧ Fr CW M M') := by
            rw [e200_129, i_sub (show k ≤ te tp Tn k by omega), show (8 : Int32) = Int32.ofNat 8 from rfl, i_lt (by omega) (by omega)]
            by_cases h8 : 8 < te tp Tn k - k
            · rw [ic_t h8, ck (show n < 1002 by omega) (by omega), i_nat (by omega), e200_149]
              exact lay 4 _ _ _ _ (by rw [es, if_pos h8]) (fun h => absurd rfl h) (by omega)
            · rw [ic_f h8, ck (show n < 1002 by omega) (by omega), i_nat (by omega), e200_149]
              refine lay 1 _ _ _ _ (by rw [es, if_neg h8]) (fun _ => ?_) (by omega)
              unfold kval
              rw [if_pos (by rw [ksn, es, if_neg h8]), show min (te tp Tn k) (k + 8) = te tp Tn k by omega]
              unfold kW wd; rw [hpk]
          rw [show G2 + 3 + 2 = (G2 + 4) + 1 from rfl, e200_70, k3, i_lt (by omega) (by omega)]
          by_cases hE : te tp Tn k < Tn
          · have hn : isLt (ch tp (te tp Tn k)) = false := nf (fun h => hend ⟨hE, h⟩)
            have := (hs.2 _ hE).2
            rw [ic_t hE, ck (show te tp Tn k < 1000 by omega) (by omega), i_nat (by omega), h254 F2 _ hE, sp201 (by omega), cIn_s, hn, ic_t (by decide)]
            exact fin
          · rw [ic_f hE]; exact fin
        · rw [Nat.add_zero, show min k (k + 8) = k by omega, lts_0]; rfl
      · rw [nf hl, ic_t (by decide), sp203 (by omega), cIn_s]
        by_cases hd : isDg (ch tp k) = true
        · rw [hd, ic_f (by decide)]
          have ht : te tp Tn k = tkr tp Tn isDg k := by unfold te; rw [if_pos hkT, if_neg hl, if_pos hd]
          have es : so tp Tn k = if 4 < te tp Tn k - k then 4 else 2 := by unfold so; rw [if_pos hkT, if_neg hl, if_pos hd]
          refine lp_for (d := d + 2) (x := 200) (pc := 159) (te tp Tn k - k) 2 ((Tn - te tp Tn k + 1) * 8 + 3) (by omega) (fun j lv M3 => M3 = M2 ∧ lv = [some (vR 12 0 253), some (vI (Int32.ofNat n)), some (vI (Int32.ofNat (k + j))), some (vI (Int32.ofNat (ch tp k))), some (vI (Int32.ofNat k)), some (vJ (Int64.ofNat (dgs tp k (min (k + j) (k + 4))))), none]) ?_ ?_ (te tp Tn k - k) 0 (by omega) G _ _ (by omega) ⟨rfl, ?_⟩
          · rintro j hj G1 lv M3 - ⟨rfl, rfl⟩ z1
            have hin := tkr_in (tp := tp) (Tn := Tn) (P := isDg) (k := k) (i := k + j) (by omega) (by omega)
            have hc := isDg_iff.mp hin.2
            rw [show G1 + 2 = (G1 + 1) + 1 from rfl, e200_159, k3, i_lt (by omega) (by omega), ic_t hin.1, ck (show k + j < 1000 by omega) (by omega), i_nat (by omega), h254 F2 _ hin.1, sp203 (by omega), cIn_s, hin.2, ic_f (by decide), i_sub (show k ≤ k + j by omega), show (4 : Int32) = Int32.ofNat 4 from rfl, i_lt (by omega) (by omega)]
            by_cases h8 : k + j - k < 4
            · rw [ic_t h8, ckn (show k + j < 1000 by omega) (by omega), h254 F2 _ hin.1, e200_212, i_addl, toI64 (by omega), dgm (by omega) h8 hc.1]
              exact z1 _ _ _ (by omega) ⟨rfl, rfl⟩
            · rw [ic_f h8, e200_212, i_addl, show min (k + j) (k + 4) = min (k + (j + 1)) (k + 4) by omega]
              exact z1 _ _ _ (by omega) ⟨rfl, rfl⟩
          · rintro G1 lv M3 hG1 ⟨rfl, rfl⟩
            rw [show k + (te tp Tn k - k) = te tp Tn k by omega]
            have hend := tkr_end (tp := tp) (Tn := Tn) (P := isDg) _ k rfl
            rw [← ht] at hend
            obtain ⟨G2, rfl⟩ : ∃ G2, G1 = G2 + 3 := ⟨G1 - 3, by omega⟩
            have fin : Hm (lp (d + 2) 200 (G2 + 4) 218 [some (vR 12 0 253), some (vI (Int32.ofNat n)), some (vI (Int32.ofNat (te tp Tn k))), some (vI (Int32.ofNat (ch tp k))), some (vI (Int32.ofNat k)), some (vJ (Int64.ofNat (dgs tp k (min (te tp Tn k) (k + 4))))), none] M3) (fun r M' => r = none ∧ TB tp Tn 0 M' ∧ M'.1 253 2 = 0 ∧ Fr CW M M') := by
              rw [e200_218, i_sub (show k ≤ te tp Tn k by omega), show (4 : Int32) = Int32.ofNat 4 from rfl, i_lt (by omega) (by omega)]
              by_cases h8 : 4 < te tp Tn k - k
              · rw [ic_t h8, ck (show n < 1002 by omega) (by omega), i_nat (by omega), e200_237]
                exact lay 4 _ _ _ _ (by rw [es, if_pos h8]) (fun h => absurd rfl h) (by omega)
              · rw [ic_f h8, ck (show n < 1002 by omega) (by omega), i_nat (by omega), e200_237]
                refine lay 2 _ _ _ _ (by rw [es, if_neg h8]) (fun _ => ?_) (by omega)
                have e2 : kS tp Tn n = 2 := by rw [ksn, es, if_neg h8]
                unfold kval
                rw [if_neg (by omega), if_pos e2, show min (te tp Tn k) (k + 4) = te tp Tn k by omega]
                unfold kV nbv; rw [hpk]
            rw [show G2 + 3 + 2 = (G2 + 4) + 1 from rfl, e200_159, k3, i_lt (by omega) (by omega)]
            by_cases hE : te tp Tn k < Tn
            · have hn : isDg (ch tp (te tp Tn k)) = false := nf (fun h => hend ⟨hE, h⟩)
              have := (hs.2 _ hE).2
              rw [ic_t hE, ck (show te tp Tn k < 1000 by omega) (by omega), i_nat (by omega), h254 F2 _ hE, sp203 (by omega), cIn_s, hn, ic_t (by decide)]
              exact fin
            · rw [ic_f hE]; exact fin
          · rw [Nat.add_zero, show min k (k + 4) = k by omega, dgs_0]; rfl
        · have et : te tp Tn k = k + 1 := by unfold te; rw [if_pos hkT, if_neg hl, if_neg hd]
          have es : so tp Tn k = if isSg (ch tp k) = true then 3 else 4 := by unfold so; rw [if_pos hkT, if_neg hl, if_neg hd]
          obtain ⟨G', rfl⟩ : ∃ G', G = G' + 1 := ⟨G - 1, by omega⟩
          rw [nf hd, ic_t (by decide), sp204 h126, cIn_s, toI64 (by omega)]
          by_cases hg : isSg (ch tp k) = true
          · rw [hg, ic_f (by decide), ckn (show n < 1002 by omega) (by omega), e200_262, i_addl, ← et]
            refine lay 3 _ _ _ _ (by rw [es, if_pos hg]) (fun _ => ?_) (by omega)
            have e3 : kS tp Tn n = 3 := by rw [ksn, es, if_pos hg]
            unfold kval kC
            rw [if_neg (by omega), if_neg (by omega), hpk]
          · rw [nf hg, ic_t (by decide), ckn (show n < 1002 by omega) (by omega), e200_262, i_addl, ← et]
            exact lay 4 _ _ _ _ (by rw [es, if_neg hg]) (fun h => absurd rfl h) (by omega)
  · have hk' : k = Tn := by omega
    have hpn : tP tp Tn n = Tn := by rw [htp, show skp tp Tn k = k from tkr_n (fun h => hkT h.1), hk']
    have k0 : kS tp Tn n = 0 := so_0.mpr (by omega)
    rw [ic_f hkT, ck (show n < 1002 by omega) (by omega), ck (show n < 1002 by omega) (by omega), i_nat (by omega), sI_ne (by omega), h3]
    generalize hM2 : sI (sI (sI (sI M1 255 n 0) 256 n (Int32.ofNat Tn)) 253 7 0) 253 8 0 = M2
    have f2 : Fr (fun c j => ((c = 255 ∨ c = 256) ∧ j = n) ∨ (c = 253 ∧ (j = 7 ∨ j = 8))) M1 M2 := by rw [← hM2]; exact (((Fr.rf.sI (by omega)).sI (by omega)).sI (by omega)).sI (by omega)
    refine Hm_some ⟨rfl, ⟨fun i hi => ?_, fun i hi => by omega, ?_, ?_⟩, (f2.i (by omega)).trans h2, hf.tr (f2.up (fun c j z => by unfold CW; omega))⟩
    · have hin : i ≤ n := by
        by_cases y : n < i
        · exact absurd k0 (hi n y)
        · omega
      by_cases y : i = n
      · subst y
        refine ⟨?_, ?_, fun a => absurd k0 a⟩
        · rw [← hM2, sI_ne (by omega), sI_ne (by omega), sI_ne (by omega), sI_eq, k0]; rfl
        · rw [← hM2, sI_ne (by omega), sI_ne (by omega), sI_eq, hpn]
      · exact (hte i (by omega)).fr f2 (fun c hc z => by omega)
    · rw [← hM2, sI_ne (by omega), sI_eq]; rfl
    · rw [← hM2, sI_eq]
end RCUT
