/-! YARD alike -/
section YARDX
variable {tp : Nat → Int32} {Tn d n t : Nat} {M M' : Mem} {D : Dr} {nm : Nat → Nat → List Nat}
theorem sp84 {kR kR' : Nat} (h : kR ≠ kR') : evD (d + 1) 84 [vR 4 0 kR, vR 4 0 kR'] M = some (none, sI (cpJ M (kR' + 1) 0 (kR + 1) 0 6) kR 0 (M.1 kR' 0)) := by
  rw [e84, ic_f (by decide), i_nat (by omega)]; rfl
theorem sp85 {kL kL' m : Nat} (h : M.1 kL' 2 = Int32.ofNat m) (hm : m ≤ 1000) (hk : kL' ≠ kL + 1) : evD (d + 1) 85 [vR 1 0 kL, vR 1 0 kL'] M = some (none, sI (cpI M (kL' + 1) 0 (kL + 1) 0 m) kL 2 (Int32.ofNat m)) := by
  rw [e85, h, i_nat (by omega), ic_f (fun z => ?_), cp_ne hk, h]
  rcases z with z | z | z | z | z
  · exact absurd z (by decide)
  · exact absurd z (by decide)
  · exact i_neg (by omega) z
  · omega
  · omega
theorem sp83 (hD : DCl D M) (hL : LD2 D) (h14 : D.nw ≤ 14) : Hm (evD (d + 2) 83 [vR 9 0 3, vR 9 0 26] M) (fun r M' => r = none ∧ Fr (fun c _ => 3 ≤ c ∧ c ≤ 24 ∧ c ≠ 22) M M' ∧ YD M'.1 D ∧ ∀ q i, q < 3 → i < D.cs q → M'.2.1 (5 + 2 * q) i = wc 32 (D.nm q i)) := by
  obtain ⟨⟨r0, r1, r2⟩, a2, a3, ⟨a4, a5, a6, a7, a8⟩, a9, a10⟩ := hD
  rw [e83, sp84 (by omega), cVd_s, sp84 (by omega), cVd_s, sp84 (by omega), cVd_s]
  generalize hA : sI (cpJ (sI (cpJ (sI (cpJ M (26 + 1 + 1) 0 (3 + 1 + 1) 0 6) (3 + 1) 0 (M.1 (26 + 1) 0)) (26 + 3 + 1) 0 (3 + 3 + 1) 0 6) (3 + 3) 0 ((sI (cpJ M (26 + 1 + 1) 0 (3 + 1 + 1) 0 6) (3 + 1) 0 (M.1 (26 + 1) 0)).1 (26 + 3) 0)) (26 + 5 + 1) 0 (3 + 5 + 1) 0 6) (3 + 5) 0 ((sI (cpJ (sI (cpJ M (26 + 1 + 1) 0 (3 + 1 + 1) 0 6) (3 + 1) 0 (M.1 (26 + 1) 0)) (26 + 3 + 1) 0 (3 + 3 + 1) 0 6) (3 + 3) 0 ((sI (cpJ M (26 + 1 + 1) 0 (3 + 1 + 1) 0 6) (3 + 1) 0 (M.1 (26 + 1) 0)).1 (26 + 3) 0)).1 (26 + 5) 0) = A
  have fA : Fr (fun c _ => 4 ≤ c ∧ c ≤ 9) M A := by
    rw [← hA]
    exact (((((Fr.rf.cpJ (fun j => by omega)).sI (by omega)).cpJ (fun j => by omega)).sI (by omega)).cpJ (fun j => by omega)).sI (by omega)
  have c1 : ∀ (B : Mem) (x y z w v : Nat), (cpJ B x y z w v).1 = B.1 := fun _ _ _ _ _ _ => rfl
  have s0 : A.1 4 0 = M.1 27 0 := by
    rw [← hA, sI_ne (by omega), c1, sI_ne (by omega), c1]; exact sI_eq
  have s1 : A.1 6 0 = M.1 29 0 := by
    rw [← hA, sI_ne (by omega), c1, sI_eq' rfl rfl, sI_ne (by omega), c1]
  have s2 : A.1 8 0 = M.1 31 0 := by
    rw [← hA, sI_eq' rfl rfl, sI_ne (by omega), c1, sI_ne (by omega), c1]
  have cne : ∀ (B : Mem) (x z v c j : Nat), c ≠ z → (cpJ B x 0 z 0 v).2.1 c j = B.2.1 c j := fun B x z v c j h => by simp only [cpJ, h, if_false]
  have n0' : ∀ i, i < 6 → A.2.1 5 i = M.2.1 28 i := fun i hi => by
    rw [← hA]
    show (cpJ _ _ 0 _ 0 6).2.1 5 i = _
    rw [cne _ _ _ _ _ _ (by omega)]
    show (cpJ _ _ 0 _ 0 6).2.1 5 i = _
    rw [cne _ _ _ _ _ _ (by omega)]
    exact cpJ_eq hi
  have n1' : ∀ i, i < 6 → A.2.1 7 i = M.2.1 30 i := fun i hi => by
    rw [← hA]
    show (cpJ _ _ 0 _ 0 6).2.1 7 i = _
    rw [cne _ _ _ _ _ _ (by omega)]
    show (cpJ _ _ 0 7 0 6).2.1 7 i = _
    rw [cpJ_eq hi]
    show (cpJ _ _ 0 _ 0 6).2.1 30 i = _
    rw [cne _ _ _ _ _ _ (by omega)]
  have n2' : ∀ i, i < 6 → A.2.1 9 i = M.2.1 32 i := fun i hi => by
    rw [← hA]
    show (cpJ _ _ 0 9 0 6).2.1 9 i = _
    rw [cpJ_eq hi]
    show (cpJ _ _ 0 _ 0 6).2.1 32 i = _
    rw [cne _ _ _ _ _ _ (by omega)]
    show (cpJ _ _ 0 _ 0 6).2.1 32 i = _
    rw [cne _ _ _ _ _ _ (by omega)]
  rw [lp0_eq, show (20000 : Nat) = 19999 + 1 from rfl, e83_78, show (19999 : Nat) = 19998 + 1 from rfl, e83_123, show (19998 : Nat) = 19997 + 1 from rfl, e83_168, show (19997 : Nat) = 19996 + 1 from rfl, e83_199]
  generalize hB : cpI (cpI (cpI (cpI (cpI (cpI (cpI (cpI (cpI A (26 + 7) 0 (3 + 7) 0 6) (26 + 8) 0 (3 + 8) 0 6) (26 + 9) 0 (3 + 9) 0 6) (26 + 10) 0 (3 + 10) 0 6) (26 + 11) 0 (3 + 11) 0 6) (26 + 12) 0 (3 + 12) 0 6) (26 + 13) 0 (3 + 13) 0 6) (26 + 14) 0 (3 + 14) 0 6) (26 + 15) 0 (3 + 15) 0 6 = B
  have fB : Fr (fun c _ => 10 ≤ c ∧ c ≤ 18) A B := by
    rw [← hB]
    exact ((((((((Fr.rf.cp (fun j => by omega)).cp (fun j => by omega)).cp (fun j => by omega)).cp (fun j => by omega)).cp (fun j => by omega)).cp (fun j => by omega)).cp (fun j => by omega)).cp (fun j => by omega)).cp (fun j => by omega)
  have bB : ∀ c, 10 ≤ c → c ≤ 18 → ∀ i, i < 6 → B.1 c i = A.1 (c + 23) i := by
    intro c h1 h2 i hi
    rw [← hB]
    have : c = 10 ∨ c = 11 ∨ c = 12 ∨ c = 13 ∨ c = 14 ∨ c = 15 ∨ c = 16 ∨ c = 17 ∨ c = 18 := by omega
    rcases this with rfl | rfl | rfl | rfl | rfl | rfl | rfl | rfl | rfl <;> simp (disch := omega) only [cp_ne, cp_eq]
  generalize hC : sI (sI (cpI (sI B 3 12 (B.1 26 12)) (26 + 16) 0 (3 + 16) 0 14) 3 14 ((cpI (sI B 3 12 (B.1 26 12)) (26 + 16) 0 (3 + 16) 0 14).1 26 14)) 3 15 ((sI (cpI (sI B 3 12 (B.1 26 12)) (26 + 16) 0 (3 + 16) 0 14) 3 14 ((cpI (sI B 3 12 (B.1 26 12)) (26 + 16) 0 (3 + 16) 0 14).1 26 14)).1 26 15) = C
  have fC : Fr (fun c _ => c = 3 ∨ c = 19) B C := by
    rw [← hC]
    exact (((Fr.rf.sI (by omega)).cp (fun j => by omega)).sI (by omega)).sI (by omega)
  have k12 : C.1 3 12 = B.1 26 12 := by rw [← hC, sI_ne (by omega), sI_ne (by omega), cp_ne (by omega), sI_eq]
  have k14 : C.1 3 14 = B.1 26 14 := by rw [← hC, sI_ne (by omega), sI_eq, cp_ne (by omega), sI_ne (by omega)]
  have k15 : C.1 3 15 = B.1 26 15 := by rw [← hC, sI_eq, sI_ne (by omega), cp_ne (by omega), sI_ne (by omega)]
  have k19 : ∀ i, i < 14 → C.1 19 i = B.1 42 i := fun i hi => by
    rw [← hC, sI_ne (by omega), sI_ne (by omega)]
    show (cpI _ _ 0 19 0 14).1 19 i = _
    rw [cp_eq hi, sI_ne (by omega)]
  have old : ∀ c j, 26 ≤ c → C.1 c j = M.1 c j := fun c j h => by rw [fC.i (by omega), fB.i (by omega), fA.i (by omega)]
  have l43 : C.1 (26 + 17) 2 = Int32.ofNat (lwc dM D.lm).length := (old _ _ (by omega)).trans a9.2.1
  have l46 : C.1 (26 + 20) 2 = Int32.ofNat (lwc dK D.lk).length := (old _ _ (by omega)).trans a10.2.1
  have b1 := hL.1.2
  have b2' := hL.2.2
  rw [sp85 (kL := 3 + 17) l43 b1 (by omega), cVd_s, sp85 (kL := 3 + 20) (m := (lwc dK D.lk).length) (by rw [sI_ne (by omega), cp_ne (by omega)]; exact l46) b2' (by omega), cVd_s]
  generalize hE : sI (cpI (sI (cpI C (26 + 17 + 1) 0 (3 + 17 + 1) 0 (lwc dM D.lm).length) (3 + 17) 2 (Int32.ofNat (lwc dM D.lm).length)) (26 + 20 + 1) 0 (3 + 20 + 1) 0 (lwc dK D.lk).length) (3 + 20) 2 (Int32.ofNat (lwc dK D.lk).length) = E
  have fE : Fr (fun c _ => 20 ≤ c ∧ c ≤ 24 ∧ c ≠ 22) C E := by
    rw [← hE]
    exact (((Fr.rf.cp (fun j => by omega)).sI (by omega)).cp (fun j => by omega)).sI (by omega)
  refine Hm_some ⟨rfl, (((fA.up (fun c j z => by omega)).tr (fB.up (fun c j z => by omega))).tr (fC.up (fun c j z => by omega))).tr (fE.up (fun c j z => by omega)), ⟨⟨?_, ?_, ?_, ?_, ?_, ?_⟩, fun c q hc i hi => ?_, fun a b ha hb => ?_, fun i hi => ?_, ⟨?_, fun i hi => ?_⟩, ?_, fun i hi => ?_⟩, fun q i hq hi => ?_⟩
  · rw [fE.i (by omega), fC.i (by omega), fB.i (by omega), s0]; exact r0.1
  · rw [fE.i (by omega), fC.i (by omega), fB.i (by omega), s1]; exact r1.1
  · rw [fE.i (by omega), fC.i (by omega), fB.i (by omega), s2]; exact r2.1
  · rw [fE.i (by omega), k12, fB.i (by omega), fA.i (by omega)]; exact a4
  · rw [fE.i (by omega), k14, fB.i (by omega), fA.i (by omega)]; exact a5
  · rw [fE.i (by omega), k15, fB.i (by omega), fA.i (by omega)]; exact a7
  · have hb := rwq_b hc
    have h6 : D.cs q ≤ 6 := by
      have : q = 0 ∨ q = 1 ∨ q = 2 := by unfold rwq at hc; omega
      rcases this with rfl | rfl | rfl
      · exact r0.2.1
      · exact r1.2.1
      · exact r2.2.1
    rw [fE.i (by omega), fC.i (by omega), bB (c - 23) (by omega) (by omega) i (by omega), show c - 23 + 23 = c by omega, fA.i (by omega)]
    exact a2 c q hc i hi
  · rw [fE.i (by omega), fC.i (by omega), bB 18 (by omega) (by omega) a ha, fA.i (by omega)]
    exact a3 a b ha hb
  · rw [fE.i (by omega), k19 i (by omega), fB.i (by omega), fA.i (by omega)]; exact a6 i hi
  · rw [← hE, sI_ne (by omega), cp_ne (by omega), sI_eq' rfl rfl]
  · rw [← hE, sI_ne (by omega), cp_ne (by omega), sI_ne (by omega)]
    show (cpI _ _ 0 21 0 _).1 21 i = _
    rw [cp_eq hi, old _ _ (by omega)]; exact a9.2.2 i hi
  · rw [← hE, sI_eq' rfl rfl]
  · rw [← hE, sI_ne (by omega)]
    show (cpI _ _ 0 24 0 _).1 24 i = _
    rw [cp_eq hi, sI_ne (by omega), cp_ne (by omega), old _ _ (by omega)]; exact a10.2.2 i hi
  · have hq3 : q = 0 ∨ q = 1 ∨ q = 2 := by omega
    rcases hq3 with rfl | rfl | rfl
    · rw [fE.j (by omega), fC.j (by omega), fB.j (by omega), n0' i (by have := r0.2.1; omega)]; exact (r0.2.2 i hi).1
    · rw [fE.j (by omega), fC.j (by omega), fB.j (by omega), n1' i (by have := r1.2.1; omega)]; exact (r1.2.2 i hi).1
    · rw [fE.j (by omega), fC.j (by omega), fB.j (by omega), n2' i (by have := r2.2.1; omega)]; exact (r2.2.2 i hi).1
/-- the reference's tape alone was taken -/
theorem RI.tapY {Y N : YT} {u L : Nat} {P K : Nat → YT} {mk : Int32} {ln : Nat → Nat → Int32} {Tn' : Nat} {tp' : Nat → Int32} (h : RI Y N u P mk K L ln Tn tp nm M) (hN : YN Y) (hu : u ≤ 16) (hL : L ≤ 40) (hT : TRr Tn' tp' M') (hf : Fr YWl M M') : RI Y N u P mk K L ln Tn' tp' nm M' := by
  generalize hA : sR (sJ (sI M' 253 2 (M.1 253 2)) 253 2 (M.2.1 253 2)) 253 2 (M.2.2 253 2) = A
  have same : ∀ c j, (c ≠ 253 ∨ j ≠ 2) → A.1 c j = M'.1 c j ∧ A.2.1 c j = M'.2.1 c j ∧ A.2.2 c j = M'.2.2 c j := fun c j hcj => by
    rw [← hA]
    refine ⟨?_, ?_, ?_⟩
    · show (sI M' 253 2 _).1 c j = _
      exact sI_ne hcj
    · show (sJ _ 253 2 _).2.1 c j = _
      rw [sJ_ne hcj]; rfl
    · rw [sR_ne hcj]; rfl
  have fA : Fr (fun c j => YWl c j ∧ (c ≠ 253 ∨ j ≠ 2)) M A := fun c j hn => by
    by_cases hcj : c ≠ 253 ∨ j ≠ 2
    · have hy : ¬ YWl c j := fun z => hn ⟨z, hcj⟩
      obtain ⟨x1, x2, x3⟩ := same c j hcj
      exact ⟨x1.trans (hf.i hy), x2.trans (hf.j hy), x3.trans (hf.r hy)⟩
    · have e1 : c = 253 := by omega
      have e2 : j = 2 := by omega
      subst e1 e2
      rw [← hA]
      refine ⟨?_, ?_, ?_⟩
      · show (sI M' 253 2 _).1 253 2 = _
        exact sI_eq
      · show (sJ (sI M' 253 2 (M.1 253 2)) 253 2 (M.2.1 253 2)).2.1 253 2 = _
        exact sJ_eq
      · exact sR_eq
  have hA2 := h.fr hN hu hL fA (fun c j hc z => by unfold RCo at hc; unfold YWl CW QWr at z; omega)
  have hl := h.2.2.2.2.1
  have no : ∀ j, ¬ YWl 266 j := fun j z => by unfold YWl CW QWr at z; omega
  refine hA2.lines hN hT ⟨(hf.i (no _)).trans hl.1, fun i hi => by rw [hf.i (no _), hf.i (no _), hf.i (no _)]; exact hl.2 i hi⟩ (fun c j hn => ?_)
  obtain ⟨x1, x2, x3⟩ := same c j (by
    by_cases y : c = 253 ∧ j = 2
    · exact absurd (show ZW c j by unfold ZW CW; omega) hn
    · omega)
  exact ⟨x1.symm, x2.symm, x3.symm⟩
theorem two_yard : Two t t 8 199 [vR 11 0 0] [vR 12 0 253] := by
  rintro M ⟨Y, N, u, P, mk, K, L, ln, Tn, tp, nm, hp, hc, hr⟩
  have hN := hp.1.1
  have hu := hp.2.2.1.1
  have hL := hp.2.2.2.2.1.1
  have hs : SG tp Tn := SG_of hp.2.2.2.2.2.1.1 hp.2.2.2.2.2.1.2
  rw [show (60 : Nat) = 59 + 1 from rfl, e8]
  have s9 := sp9 (d := 45) hs hc.2.2.2.2.2.1
  cases hP : pY tp Tn 1001 D0 0 with
  | inr e =>
    rw [hP] at s9
    refine Hm_cIn s9 (fun a M1 ⟨f1, h1, e1⟩ => ⟨_, h1, ?_⟩)
    have e1' := e1
    unfold RE at e1'
    rw [e82, cVd_s, ic_f (by rw [show (0 : Int32) = Int32.ofNat 0 from rfl, i_eq (by omega) (by omega)]; omega)]
    have c1 := hc.fr hu hL f1 (fun c j hcc z => by unfold CCo at hcc; unfold DWc TV at z; omega)
    have r1 := hr.fr hN hu hL f1 (fun c j hcc z => by unfold RCo at hcc; unfold DWc TV at z; omega)
    have fA : Fr (fun c j => c = 1 ∨ (52 ≤ c ∧ c ≤ 59)) M1 (sI M1 1 0 0) := Fr.rf.sI (by omega)
    have c2 : CI Y N u P mk K L ln 0 tp nm (sI M1 1 0 0) := c1.lines hu ⟨sI_eq, fun i hi => by omega⟩ ⟨by rw [sI_ne (by omega)]; exact c1.2.2.2.2.1.1, fun i hi => by rw [sI_ne (by omega), sI_ne (by omega), sI_ne (by omega)]; exact c1.2.2.2.2.1.2 i hi⟩ fA
    have r2 : RI Y N u P mk K L ln Tn tp nm (sI M1 1 0 0) := r1.fr hN hu hL fA (fun c j hcc z => by unfold RCo at hcc; omega)
    refine Hm_some ⟨_, rfl, ?_⟩
    have q := sp199 (Y := Y) (d := 23) hs r2.2.2.2.2.2.1 r2.2.2.2.2.2.2.2 (fun D hD => by rw [hP] at hD; exact absurd hD (by simp))
    rw [hP] at q
    refine Hm_mono q (fun r' M2 ⟨x1, x2, x3⟩ => ⟨x1, Y, N, u, P, mk, K, L, ln, 0, tp, nm, ⟨hp.1, hp.2.1, hp.2.2.1, hp.2.2.2.1, hp.2.2.2.2.1, ⟨by omega, fun i hi => by omega⟩, hp.2.2.2.2.2.2⟩, c2.fr hu hL x3 (fun c j hcc z => by unfold CCo at hcc; unfold YWl CW QWr at z; omega), r2.tapY hN hu hL ⟨x2, fun i hi => by omega⟩ x3⟩)
  | inl D =>
    rw [hP] at s9
    refine Hm_cIn s9 (fun a M1 ⟨f1, h1, d1, o1, l1⟩ => ⟨_, h1, ?_⟩)
    have c1 := hc.fr hu hL f1 (fun c j hcc z => by unfold CCo at hcc; unfold DWc TV at z; omega)
    have r1 := hr.fr hN hu hL f1 (fun c j hcc z => by unfold RCo at hcc; unfold DWc TV at z; omega)
    rw [e82, cVd_s, ic_t rfl]
    have f2 : Fr (fun c j => c = 1 ∧ j = 0) M1 (sI M1 1 0 0) := Fr.rf.sI (by omega)
    have d2 : DCl D (sI M1 1 0 0) := d1.keep f2 (fun c j a b z => by omega)
    refine Hm_cVv (sp83 (d := 57) d2 l1 o1.2.2.2.2.2.2.2.1) (fun M4 ⟨f4, y4, n4⟩ => ?_)
    obtain ⟨yn, yl, yg⟩ := y4.ok o1 l1
    obtain ⟨nA', nB', nC', nW'⟩ := y4.sz o1
    have yc4 : YC M4.1 M4 := ⟨rfl, rfl, rfl, rfl, rfl, rfl, rfl, rfl, rfl, rfl, rfl, rfl, rfl, rfl, rfl, rfl, rfl, rfl⟩
    refine Hm_cVv (sp5 (d := 57) (k := 60) yc4 (by omega)) (fun M5 ⟨s5, f5⟩ => ?_)
    rw [e86, cVd_s]
    generalize hB : sI (sI (sI M5 52 3 0) 0 8 0) 0 10 0 = B
    have fB : Fr (fun c j => (c = 52 ∧ j = 3) ∨ (c = 0 ∧ (j = 8 ∨ j = 10))) M5 B := by rw [← hB]; exact ((Fr.rf.sI (by omega)).sI (by omega)).sI (by omega)
    have g : Fr (fun c j => (c = 1 ∧ j = 0) ∨ (3 ≤ c ∧ c ≤ 24) ∨ (60 ≤ c ∧ c ≤ 66) ∨ (c = 52 ∧ j = 3) ∨ (c = 0 ∧ (j = 8 ∨ j = 10))) M1 B := (((f2.up (fun c j z => by omega)).tr (f4.up (fun c j z => by omega))).tr (f5.up (fun c j z => by omega))).tr (fB.up (fun c j z => by omega))
    have rB : RI Y N u P mk K L ln Tn tp nm B := r1.fr hN hu hL g (fun c j hcc z => by unfold RCo at hcc; omega)
    have nszD : ∀ q, q < 3 → nsz M4.1 q = D.cs q := fun q hq => by
      unfold nsz; rw [nA', nB', nC']
      have : q = 0 ∨ q = 1 ∨ q = 2 := by omega
      rcases this with rfl | rfl | rfl <;> rfl
    have hc' : CI M4.1 (staS M4.1) 0 P 0 K 0 ln 0 tp D.nm B := by
      have w : ∀ c j, ¬ (60 ≤ c ∧ c ≤ 66) → (c ≠ 52 ∨ j ≠ 3) → c ≠ 0 → B.1 c j = M4.1 c j ∧ B.2.1 c j = M4.2.1 c j := fun c j x1 x2 x3 => ⟨(fB.i (by omega)).trans (f5.i (by omega)), (fB.j (by omega)).trans (f5.j (by omega))⟩
      have wr : ∀ c, 3 ≤ c → c ≤ 24 → B.1 c = M4.1 c := fun c a b => funext fun j => (w c j (by omega) (by omega) (by omega)).1
      obtain ⟨-, -, ⟨u1, u2, u3, u4⟩, ⟨k1, k2, k3⟩, -⟩ := c1
      refine ⟨⟨wr 3 (by omega) (by omega), wr 4 (by omega) (by omega), wr 6 (by omega) (by omega), wr 8 (by omega) (by omega), wr 10 (by omega) (by omega), wr 11 (by omega) (by omega), wr 12 (by omega) (by omega), wr 13 (by omega) (by omega), wr 14 (by omega) (by omega), wr 15 (by omega) (by omega), wr 16 (by omega) (by omega), wr 17 (by omega) (by omega), wr 18 (by omega) (by omega), wr 19 (by omega) (by omega), wr 20 (by omega) (by omega), wr 21 (by omega) (by omega), wr 23 (by omega) (by omega), wr 24 (by omega) (by omega)⟩, s5.fr fB (fun c j a b z => by omega), ⟨?_, fun i hi => ?_, fun i i' a1 a2 a3 => ?_, fun i hi => by omega⟩, ⟨?_, fun m hm => ?_, fun m hm hb => by rw [bt_0] at hb; exact absurd hb (by decide)⟩, ⟨?_, fun i hi => by omega⟩, ⟨?_, fun i hi => by omega⟩, fun i hi => ?_, fun i hi => ?_, fun i hi => ?_⟩
      · rw [← hB, sI_ne (by omega)]; exact sI_eq
      · rw [g.r (by omega)]; exact u2 i hi
      · rw [g.r (by omega), g.r (by omega)]; exact u3 i i' a1 a2 a3
      · rw [← hB]; exact sI_eq
      · rw [g.r (by omega)]; exact k2 m hm
      · rw [← hB, sI_ne (by omega), sI_ne (by omega)]; exact sI_eq
      · rw [(w 1 0 (by omega) (by omega) (by omega)).1, f4.i (by omega)]; exact sI_eq
      · rw [(w 5 i (by omega) (by omega) (by omega)).2]; exact n4 0 i (by omega) (by omega)
      · rw [(w 7 i (by omega) (by omega) (by omega)).2]; exact n4 1 i (by omega) (by omega)
      · rw [(w 9 i (by omega) (by omega) (by omega)).2]; exact n4 2 i (by omega) (by omega)
    refine Hm_some ⟨_, rfl, ?_⟩
    have q := sp199 (Y := M4.1) (d := 23) hs rB.2.2.2.2.2.1 rB.2.2.2.2.2.2.2 (fun D' hD' => by
      rw [hP] at hD'
      rw [← Sum.inl.inj hD']; exact ⟨y4, l1⟩)
    rw [hP] at q
    refine Hm_mono q (fun r' M2 x => ?_)
    obtain ⟨x1, x2, x3⟩ := x y4 l1
    refine ⟨x1, M4.1, staS M4.1, 0, P, 0, K, 0, ln, 0, tp, D.nm, ⟨⟨yn, yl, yg⟩, ⟨(SI_sta yn yg).le (by omega), hp.2.1.2⟩, ⟨by omega, fun i hi => by omega⟩, fun m hm hb => by rw [bt_0] at hb; exact absurd hb (by decide), ⟨by omega, fun i hi => by omega⟩, ⟨by omega, fun i hi => by omega⟩, fun q i hq hi => ?_, fun q i q' i' hq hi hq' hi' he => ?_⟩, hc'.fr (by omega) (by omega) x3 (fun c j hcc z => by unfold CCo at hcc; omega), x2 _ _ _ _ _ _ _ rfl rfl rfl rfl⟩
    · rw [nszD q hq] at hi; exact o1.1.2.1 q i hq hi
    · rw [nszD q hq] at hi; rw [nszD q' hq'] at hi'; exact o1.1.2.2 q i q' i' hq hi hq' hi' he
end YARDX
