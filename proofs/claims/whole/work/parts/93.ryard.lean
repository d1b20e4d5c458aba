/-! YARD: the reference, whole -/
section RYARD
variable {tp : Nat → Int32} {Tn d n cd : Nat} {M M' M0 : Mem} {D D' : Dr} {Y : YT}
def stdY (j : Nat) : Int32 := if j = 4 then 1 else if j = 92 then 3 else if j = 6 ∨ j = 7 then -1 else 0
theorem sp194 {b : Nat} {B : Int32} (hB : B = Int32.ofNat b) (hb : b ≤ 110) : Hm (evD (d + 1) 194 [vR 12 0 253, vI B] M) (fun r M' => r = none ∧ Fr (fun c j => c = 259 ∧ b ≤ j ∧ j < b + 110) M M' ∧ ∀ j, j < 110 → M'.1 259 (b + j) = stdY j) := by
  subst hB
  rw [e194, lp0_eq]
  refine lp_for (d := d) (x := 194) (pc := 2) 110 1 0 (by omega) (fun i lv M1 => lv = [some (vR 12 0 253), some (vI (Int32.ofNat b)), some (vI (Int32.ofNat i))] ∧ Fr (fun c j => c = 259 ∧ b ≤ j ∧ j < b + 110) M M1 ∧ ∀ j, j < i → M1.1 259 (b + j) = 0) ?_ ?_ 110 0 (by omega) 20000 _ _ (by omega) ⟨rfl, Fr.rf, fun j hj => by omega⟩
  · rintro i hi G lv M1 - ⟨rfl, hf, hc⟩ z
    rw [e194_2, show (110 : Int32) = Int32.ofNat 110 from rfl, i_lt (by omega) (by omega), ic_t hi, i_add, ck (show b + i < 220 by omega) (by omega), i_nat (by omega), i_addl]
    refine z _ _ _ (by omega) ⟨rfl, hf.sI (by omega), fun j hj => ?_⟩
    by_cases y : j = i
    · subst y; exact sI_eq
    · rw [sI_ne (by omega)]; exact hc j (by omega)
  · rintro G lv M1 - ⟨rfl, hf, hc⟩
    rw [e194_2, show (110 : Int32) = Int32.ofNat 110 from rfl, i_lt (by omega) (by omega), ic_f (by omega), i_addl, ck (show b + 4 < 220 by omega) (by omega), i_addl, ck (show b + 92 < 220 by omega) (by omega), i_addl, ck (show b + 6 < 220 by omega) (by omega), i_addl, ck (show b + 6 + 1 < 220 by omega) (by omega), i_nat (by omega), i_nat (by omega), i_nat (by omega), i_nat (by omega)]
    refine Hm_some ⟨rfl, (((hf.sI (by omega)).sI (by omega)).sI (by omega)).sI (by omega), fun j hj => ?_⟩
    unfold stdY
    by_cases j4 : j = 4
    · subst j4; rw [sI_ne (by omega), sI_ne (by omega), sI_ne (by omega), sI_eq]; rfl
    by_cases j92 : j = 92
    · subst j92; rw [sI_ne (by omega), sI_ne (by omega), sI_eq]; rfl
    by_cases j6 : j = 6
    · subst j6; rw [sI_ne (by omega), sI_eq]; rfl
    by_cases j7 : j = 7
    · subst j7; rw [sI_eq' rfl (by omega)]; rfl
    · rw [if_neg j4, if_neg j92, if_neg (by omega), sI_ne (by omega), sI_ne (by omega), sI_ne (by omega), sI_ne (by omega)]; exact hc j hj
/-- a yard begins -/
def BGr (c j : Nat) : Prop := (c = 269 ∧ j < 49) ∨ (c = 266 ∧ j = 0) ∨ (c = 253 ∧ j = 26) ∨ (c = 270 ∧ j < 4)
theorem sp195 (hR : YR Y M) (hN : YN Y) : Hm (evD (d + 3) 195 [vR 12 0 253] M) (fun r M' => r = none ∧ SR Y (staS Y) 0 M' ∧ M'.1 266 0 = 0 ∧ M'.1 253 26 = 0 ∧ (∀ m, m < 4 → M'.1 270 m = 0) ∧ Fr BGr M M') := by
  have hA := hN.A6
  rw [e195]
  refine Hm_cVv (sp196 (d := d) (B := 0) (b := 0) rfl hR hN (by omega)) (fun M1 ⟨s1, f1⟩ => ?_)
  have nb : vp_nar .boolean 0 = 0 := by decide
  generalize hA2 : sI (sI M1 266 0 0) 253 26 0 = A
  have fA : Fr (fun c j => (c = 266 ∧ j = 0) ∨ (c = 253 ∧ j = 26)) M1 A := by rw [← hA2]; exact (Fr.rf.sI (by omega)).sI (by omega)
  have a0 : A.1 266 0 = 0 := by rw [← hA2, sI_ne (by omega)]; exact sI_eq
  have a26 : A.1 253 26 = 0 := by rw [← hA2]; exact sI_eq
  rw [lp0_eq]
  refine lp_for (d := d + 2) (x := 195) (pc := 19) 4 1 0 (by omega) (fun i lv M2 => lv = [some (vR 12 0 253), some (vI (Int32.ofNat i))] ∧ Fr (fun c j => c = 270 ∧ j < 4) A M2 ∧ ∀ j, j < i → M2.1 270 j = 0) ?_ ?_ 4 0 (by omega) 20000 _ _ (by omega) ⟨rfl, Fr.rf, fun j hj => by omega⟩
  · rintro i hi G lv M2 - ⟨rfl, hf, hc⟩ z
    rw [e195_19, show (4 : Int32) = Int32.ofNat 4 from rfl, i_lt (by omega) (by omega), ic_t hi, ck hi (by omega), i_nat (by omega), i_addl, nb]
    refine z _ _ _ (by omega) ⟨rfl, hf.sI (by omega), fun j hj => ?_⟩
    by_cases y : j = i
    · subst y; exact sI_eq
    · rw [sI_ne (by omega)]; exact hc j (by omega)
  · rintro G lv M2 - ⟨rfl, hf, hc⟩
    rw [e195_19, show (4 : Int32) = Int32.ofNat 4 from rfl, i_lt (by omega) (by omega), ic_f (by omega)]
    refine Hm_some ⟨rfl, (s1.fr hA fA (fun j x y => by omega)).fr hA hf (fun j x y => by omega), (hf.i (by omega)).trans a0, (hf.i (by omega)).trans a26, hc, ?_⟩
    exact ((f1.up (fun c j z => by unfold BGr; omega)).tr (fA.up (fun c j z => by unfold BGr; omega))).tr (hf.up (fun c j z => by unfold BGr; omega))
/-- cells that reading may write -/
def YWl (c j : Nat) : Prop := CW c j ∨ QWr c j ∨ (c = 253 ∧ j = 0)
def YQ (Y : YT) (tp : Nat → Int32) (M : Mem) (P : Dr ⊕ Nat) (r : Option AV) (M' : Mem) : Prop := match P with
  | .inr e => r = some (vI (Int32.ofNat e)) ∧ M'.1 253 2 = 0 ∧ Fr YWl M M'
  | .inl D => YD Y D → LD2 D → r = some (vI 0) ∧ (∀ N u Pq mk K L ln, N = staS Y → u = 0 → mk = 0 → L = 0 → RI Y N u Pq mk K L ln 0 tp D.nm M') ∧ Fr (fun c _ => 253 ≤ c) M M'
/-- what is read is copied -/
theorem sp199c {A : Mem} {F : Nat} (hF : 2000 ≤ F) (hO : DO1 D) (hS : DSm D) (hD : DRf D cd A) (hcd : cd ≤ 1000) (hW : WT33 A) (h2 : A.1 253 2 = 0) (fA : Fr YWl M A) : YD Y D → LD2 D → Hm (lp (d + 36) 199 F 76 [some (vR 12 0 253), some (vI 0)] A) (fun r M' => r = some (vI 0) ∧ (∀ N u Pq mk K L ln, N = staS Y → u = 0 → mk = 0 → L = 0 → RI Y N u Pq mk K L ln 0 tp D.nm M') ∧ Fr (fun c _ => 253 ≤ c) M M') := by
  intro hY hL
  obtain ⟨hN, -, -⟩ := hY.ok hO hL
  obtain ⟨nA', nB', nC', nW'⟩ := hY.sz hO
  have c0 := hO.1.1 0 (by omega)
  have c1 := hO.1.1 1 (by omega)
  have c2 := hO.1.1 2 (by omega)
  obtain ⟨G, rfl⟩ : ∃ G, F = 1200 + G := ⟨F - 1200, by omega⟩
  have e13 := hD.2.2.2.2.2.2.1
  have hb : NTb 263 265 D.cs D.nm (D.cs 0 + D.cs 1 + D.cs 2) A ∧ A.1 253 19 = Int32.ofNat (D.cs 0 + D.cs 1 + D.cs 2) := by
    rcases hD.2.2.2.2.2.2.2.2 with ⟨z, -⟩ | ⟨-, y, z⟩
    · exact absurd z (by decide)
    · exact ⟨z, y⟩
  generalize hkn : D.cs 0 + D.cs 1 + D.cs 2 = kn at *
  have hk18 : kn ≤ 18 := by omega
  have fA' : Fr (fun c _ => 253 ≤ c) M A := fA.up (fun c j z => by unfold YWl CW QWr at z; omega)
  -- the yard
  refine lp_for (d := d + 36) (x := 199) (pc := 76) 110 1 1500 (by omega) (fun i lv M1 => lv = [some (vR 12 0 253), some (vI (Int32.ofNat i))] ∧ Fr (fun c j => c = 259 ∧ j < 110) A M1 ∧ ∀ j, j < i → M1.1 259 j = A.1 259 (110 + j)) ?_ ?_ 110 0 (by omega) (1200 + G) _ _ (by omega) ⟨rfl, Fr.rf, fun j hj => by omega⟩
  · rintro i hi G1 lv M1 - ⟨rfl, hf, hc⟩ z
    rw [e199_76, show (110 : Int32) = Int32.ofNat 110 from rfl, i_lt (by omega) (by omega), ic_t hi, i_add, ck (show 110 + i < 220 by omega) (by omega), ck (show i < 220 by omega) (by omega), i_nat (by omega), i_nat (by omega), i_addl, hf.i (by omega)]
    refine z _ _ _ (by omega) ⟨rfl, hf.sI (by omega), fun j hj => ?_⟩
    by_cases y : j = i
    · subst y; exact sI_eq
    · rw [sI_ne (by omega)]; exact hc j (by omega)
  · rintro G1 lv M1 hG1 ⟨rfl, f1, w1⟩
    rw [e199_76, show (110 : Int32) = Int32.ofNat 110 from rfl, i_lt (by omega) (by omega), ic_f (by omega)]
    have g13 : M1.1 253 13 = Int32.ofNat cd := (f1.i (by omega)).trans e13
    -- the codes
    refine lp_for (d := d + 36) (x := 199) (pc := 105) cd 1 200 (by omega) (fun i lv M2 => lv = [some (vR 12 0 253), some (vI (Int32.ofNat i))] ∧ Fr (fun c j => (c = 260 ∨ c = 261) ∧ j < 1100) M1 M2 ∧ ∀ j, j < i → M2.1 260 j = A.1 260 (1100 + j) ∧ M2.1 261 j = A.1 261 (1100 + j)) ?_ ?_ cd 0 (by omega) G1 _ _ (by omega) ⟨rfl, Fr.rf, fun j hj => by omega⟩
    · rintro i hi G2 lv M2 - ⟨rfl, hf, hc⟩ z
      rw [e199_105, hf.i (show ¬ ((253 = 260 ∨ 253 = 261) ∧ 13 < 1100) by omega), g13, i_lt (by omega) (by omega), ic_t hi, i_addr, ck (show 1100 + i < 2200 by omega) (by omega), ck (show i < 2200 by omega) (by omega), ck (show 1100 + i < 2200 by omega) (by omega), ck (show i < 2200 by omega) (by omega), i_nat (by omega), i_nat (by omega), i_addl, sI_ne (by omega), hf.i (by omega), hf.i (by omega), f1.i (by omega), f1.i (by omega)]
      refine z _ _ _ (by omega) ⟨rfl, (hf.sI (by omega)).sI (by omega), fun j hj => ?_⟩
      by_cases y : j = i
      · subst y; rw [sI_ne (by omega)]; exact ⟨sI_eq, sI_eq⟩
      · rw [sI_ne (by omega), sI_ne (by omega), sI_ne (by omega), sI_ne (by omega)]; exact hc j (by omega)
    · rintro G2 lv M2 hG2 ⟨rfl, f2, w2⟩
      have g19 : M2.1 253 19 = Int32.ofNat kn := by rw [f2.i (by omega), f1.i (by omega)]; exact hb.2
      rw [e199_105, f2.i (show ¬ ((253 = 260 ∨ 253 = 261) ∧ 13 < 1100) by omega), g13, i_lt (by omega) (by omega), ic_f (by omega)]
      -- the names
      refine lp_for (d := d + 36) (x := 199) (pc := 153) kn 1 100 (by omega) (fun i lv M3 => lv = [some (vR 12 0 253), some (vI (Int32.ofNat i))] ∧ Fr (fun c j => c = 262 ∨ c = 264) M2 M3 ∧ ∀ j, j < i → M3.2.1 262 j = A.2.1 263 j ∧ M3.1 264 j = A.1 265 j) ?_ ?_ kn 0 (by omega) G2 _ _ (by omega) ⟨rfl, Fr.rf, fun j hj => by omega⟩
      · rintro i hi G3 lv M3 - ⟨rfl, hf, hc⟩ z
        have q1 : M3.2.1 263 i = A.2.1 263 i := by rw [hf.j (by omega), f2.j (by omega), f1.j (by omega)]
        have q2 : M3.1 265 i = A.1 265 i := by rw [hf.i (by omega), f2.i (by omega), f1.i (by omega)]
        rw [e199_153, hf.i (show ¬ (253 = 262 ∨ 253 = 264) by omega), g19, i_lt (by omega) (by omega), ic_t hi, ck (show i < 18 by omega) (by omega), ck (show i < 18 by omega) (by omega), ck (show i < 18 by omega) (by omega), ck (show i < 18 by omega) (by omega), i_nat (by omega), i_addl, sJ_1, q1, q2]
        refine z _ _ _ (by omega) ⟨rfl, (hf.sJ (by omega)).sI (by omega), fun j hj => ?_⟩
        by_cases y : j = i
        · subst y; exact ⟨sJ_eq, sI_eq⟩
        · rw [sI_ne (by omega), sJ_1]
          refine ⟨?_, (hc j (by omega)).2⟩
          show (sJ M3 262 i _).2.1 262 j = _
          rw [sJ_ne (by omega)]; exact (hc j (by omega)).1
      · rintro G3 lv M3 - ⟨rfl, f3, w3⟩
        rw [e199_153, f3.i (show ¬ (253 = 262 ∨ 253 = 264) by omega), g19, i_lt (by omega) (by omega), ic_f (by omega)]
        generalize hB : sI M3 253 18 (Int32.ofNat kn) = B
        have fB : Fr (fun c j => c = 253 ∧ j = 18) M3 B := by rw [← hB]; exact Fr.rf.sI (by omega)
        have R : YR Y B := by
          refine hY.R (M := A) hO hL hS hD (by omega) (fun j hj => ?_) (fun j hj => ?_)
          · rw [fB.i (by omega), f3.i (by omega), f2.i (by omega)]; exact w1 j hj
          · rw [fB.i (by omega), fB.i (by omega), f3.i (by omega), f3.i (by omega)]; exact w2 j hj
        refine Hm_cVv (sp195 (d := d + 33) R hN) (fun M5 ⟨s5, q1, q2, q3, f5⟩ => ?_)
        refine Hm_some ⟨rfl, fun N u Pq mk K L ln hNe hu hmk hL0 => ?_, ?_⟩
        · subst hNe hu hmk hL0
          have nb : ∀ c j, (c < 266 ∧ (c ≠ 253 ∨ j ≠ 26)) → ¬ BGr c j := fun c j x z => by unfold BGr at z; omega
          have b0 : ∀ m, b2 (bt 0 m) = 0 := fun m => by rw [bt_0]; rfl
          refine ⟨R.fr f5 (fun c j x y => nb c j (by omega)), s5, ⟨q2, fun i hi => by omega⟩, fun m hm => ⟨by rw [b0]; exact q3 m hm, fun z => by rw [bt_0] at z; exact absurd z (by decide)⟩, ⟨q1, fun i hi => by omega⟩, ⟨?_, fun i hi => by omega⟩, ⟨kn, hk18, ?_, fun k hk => ?_, fun q i hq hi => ?_⟩, fun i hi => ?_⟩
          · rw [f5.i (nb _ _ (by omega)), fB.i (by omega), f3.i (by omega), f2.i (by omega), f1.i (by omega)]; exact h2
          · rw [f5.i (nb _ _ (by omega)), ← hB]; exact sI_eq
          · obtain ⟨x, i, x1, x2, x3, x4⟩ := hb.1.1 k hk
            refine ⟨x, i, x1, ?_, ?_, ?_⟩
            · unfold nsz; rw [nA', nB', nC']
              have : x = 0 ∨ x = 1 ∨ x = 2 := by omega
              rcases this with rfl | rfl | rfl
              · exact x2
              · exact x2
              · exact x2
            · rw [f5.i (nb _ _ (by omega)), fB.i (by omega), (w3 k hk).2]; exact x3
            · rw [f5.j (nb _ _ (by omega)), fB.j (by omega), (w3 k hk).1]; exact x4
          · have hi' : i < D.cs q := by
              unfold nsz at hi; rw [nA', nB', nC'] at hi
              have : q = 0 ∨ q = 1 ∨ q = 2 := by omega
              rcases this with rfl | rfl | rfl
              · exact hi
              · exact hi
              · exact hi
            obtain ⟨k, x1, x3, x4⟩ := hb.1.2 q i hq hi'
            refine ⟨k, x1, ?_, ?_⟩
            · rw [f5.i (nb _ _ (by omega)), fB.i (by omega), (w3 k x1).2]; exact x3
            · rw [f5.j (nb _ _ (by omega)), fB.j (by omega), (w3 k x1).1]; exact x4
          · rw [f5.j (nb _ _ (by omega)), fB.j (by omega), f3.j (by omega), f2.j (by omega), f1.j (by omega)]; exact hW i hi
        · exact ((((fA'.tr (f1.up (fun c j z => by omega))).tr (f2.up (fun c j z => by omega))).tr (f3.up (fun c j z => by omega))).tr (fB.up (fun c j z => by omega))).tr (f5.up (fun c j z => by unfold BGr at z; omega))
theorem YQ_l {R : Res} (h : YD Y D → LD2 D → Hm R (fun r M' => r = some (vI 0) ∧ (∀ N u Pq mk K L ln, N = staS Y → u = 0 → mk = 0 → L = 0 → RI Y N u Pq mk K L ln 0 tp D.nm M') ∧ Fr (fun c _ => 253 ≤ c) M M')) (hY : ∀ D', YD Y D' → D' = D' ) (x : YD Y D) (y : LD2 D) : Hm R (YQ Y tp M (.inl D)) := Hm_mono (h x y) (fun r M' z _ _ => z)
/-- a yard is read -/
theorem sp199 (hs : SG tp Tn) (hT : TRr Tn tp M) (hW : WT33 M) (hY : ∀ D, pY tp Tn 1001 D0 0 = .inl D → YD Y D ∧ LD2 D) : Hm (evD (d + 37) 199 [vR 12 0 253] M) (YQ Y tp M (pY tp Tn 1001 D0 0)) := by
  rw [e199]
  have T0 : TRr Tn tp (sI M 253 0 0) := ⟨by rw [sI_ne (by omega)]; exact hT.1, fun i hi => by rw [sI_ne (by omega)]; exact hT.2 i hi⟩
  refine Hm_cVv (sp200 (d := d + 33) hs T0) (fun M1 ⟨t1, z1, f1⟩ => ?_)
  have g1 : Fr YWl M M1 := (Fr.rf.sI (.inr (.inr ⟨rfl, rfl⟩))).tr (f1.up (fun c j z => .inl z))
  generalize hA : sI (sI (sI M1 253 13 0) 253 19 0) 253 20 0 = A
  have fA : Fr (fun c j => c = 253 ∧ (j = 13 ∨ j = 19 ∨ j = 20)) M1 A := by rw [← hA]; exact ((Fr.rf.sI (by omega)).sI (by omega)).sI (by omega)
  refine Hm_cVv (sp194 (d := d + 35) (b := 110) (B := 110) rfl (by omega)) (fun M2 ⟨f2, w2⟩ => ?_)
  have gA : Fr QWr M1 M2 := (fA.up (fun c j z => by unfold QWr; omega)).tr (f2.up (fun c j z => by unfold QWr; omega))
  have e253 : ∀ j, M2.1 253 j = A.1 253 j := fun j => f2.i (by omega)
  have t2 : TB tp Tn 0 M2 := (t1.fr fA (fun c i hc z => by omega)).fr f2 (fun c i hc z => by omega)
  have dd : DRf D0 0 M2 := by
    have w : ∀ j, 110 ≤ j → j < 220 → M2.1 259 j = stdY (j - 110) := fun j x y => by
      have := w2 (j - 110) (by omega)
      rw [show 110 + (j - 110) = j by omega] at this; exact this
    have z : ∀ j, 110 ≤ j → j < 220 → j ≠ 114 → j ≠ 202 → j ≠ 116 → j ≠ 117 → M2.1 259 j = 0 := fun j x y a b c d => by
      rw [w j x y]; unfold stdY
      rw [if_neg (by omega), if_neg (by omega), if_neg (by omega)]
    refine ⟨⟨fun q hq => z _ (by omega) (by omega) (by omega) (by omega) (by omega) (by omega), z _ (by omega) (by omega) (by omega) (by omega) (by omega) (by omega), z _ (by omega) (by omega) (by omega) (by omega) (by omega) (by omega)⟩, fun c q hc i hi => by have : i < 0 := hi; omega, fun a b ha hb => z _ (by omega) (by omega) (by omega) (by omega) (by omega) (by omega), ⟨fun _ => ⟨w 114 (by omega) (by omega), w 202 (by omega) (by omega)⟩, fun y => absurd rfl y⟩, fun k hk => ?_, ⟨w 116 (by omega) (by omega), w 117 (by omega) (by omega)⟩, ?_, ⟨by show 0 + 0 + 0 ≤ 18; omega, .inr ⟨by decide, ?_, fun k hk => by have : k < 0 := hk; omega, fun q i hq hi => by have : i < 0 := hi; omega⟩⟩⟩
    · rw [e253, ← hA, sI_eq, bt_0]
      have : k = 0 ∨ k = 1 ∨ k = 2 ∨ k = 3 := by omega
      rcases this with rfl | rfl | rfl | rfl <;> rfl
    · rw [e253, ← hA, sI_ne (by omega), sI_ne (by omega)]; exact sI_eq
    · rw [e253, ← hA, sI_ne (by omega)]; exact sI_eq
  have W2 : WT33 M2 := hW.fr (g1.tr (gA.up (fun c j z => .inr (.inl z)))) (fun j z => by unfold YWl CW QWr at z; omega)
  have n2 : M2.1 253 2 = 0 := by rw [gA.i (fun z => by unfold QWr at z; omega)]; exact z1
  generalize hP : pY tp Tn 1001 D0 0 = P at *
  rw [lp0_eq]
  refine lp_ms (d := d + 36) (x := 199) (pc := 30) 1 5000 (fun m lv M3 => ∃ i n D cd o, lv = [some (vR 12 0 253), o] ∧ m = 1001 - i ∧ i ≤ n ∧ cd ≤ n ∧ Fr QWr M2 M3 ∧ TB tp Tn n M3 ∧ DRf D cd M3 ∧ DO1 D ∧ DSm D ∧ P = pY tp Tn (1001 - i) D n) ?_ 1001 _ _ 20000 (by omega) ⟨0, 0, D0, 0, none, rfl, rfl, by omega, by omega, Fr.rf, t2, dd, D0_1, D0_3, hP.symm⟩
  rintro m lv M3 F hF ⟨i, n, D, cd, o, rfl, rfl, hin, hcd, f3, t3, d3, o3, s3, ep⟩ z
  have hn := t3.le hs
  obtain ⟨G, rfl⟩ : ∃ G, F = G + 2 := ⟨F - 2, by omega⟩
  have W3 : WT33 M3 := W2.fr f3 (fun j z => by unfold QWr at z; omega)
  have n3 : M3.1 253 2 = 0 := by rw [f3.i (fun z => by unfold QWr at z; omega)]; exact n2
  have g3 : Fr YWl M M3 := (g1.tr (gA.up (fun c j z => .inr (.inl z)))).tr (f3.up (fun c j z => .inr (.inl z)))
  rw [show 1001 - i = (1000 - i) + 1 by omega] at ep
  rw [show G + 2 = (G + 1) + 1 from rfl, e199_30, ic_t t3.2.2.2, t3.2.2.1, ck (show n < 1002 by omega) (by omega), i_nat (by omega), (t3.1 n t3.2.1).1, (i_s1 (a := kS tp Tn n) so_le).2.2.2]
  by_cases k0 : kS tp Tn n = 0
  · rw [pY_e k0] at ep
    rw [ic_t k0, t3.2.2.2, ic_f n0, ep]
    obtain ⟨y1, y2⟩ := hY D ep
    exact Hm_mono (sp199c (d := d) (F := G + 1) (by omega) o3 s3 d3 (by omega) W3 n3 g3 y1 y2) (fun r M' w _ _ => w)
  · rw [pY_s k0] at ep
    rw [ic_f k0]
    refine Hm_cVv (sp205 (d := d + 1) hs W3 t3 k0 d3 o3 hcd) (fun M4 l4 => ?_)
    refine Hm_cVv (l4 (d + 34)) (fun M5 ⟨f5, r5⟩ => ?_)
    cases hl : pLn tp Tn D n with
    | inr e =>
      rw [hl] at r5 ep
      have r5 : TFa e M5 := r5
      have ep : P = .inr e := ep
      rw [e199_30, ic_f r5.ne.1, ic_t r5.ne.2, r5.1, ep]
      refine Hm_some ⟨rfl, ?_, g3.tr (f5.up (fun c j z => .inr (.inl z)))⟩
      rw [f5.i (fun z => by unfold QWr at z; omega)]; exact n3
    | inl p =>
      obtain ⟨D', n'⟩ := p
      have ok := pLn_ok o3 hl
      have sm := pLn_sm s3 hl
      rw [hl] at r5 ep
      obtain ⟨t5, cd', c5, d5⟩ := r5
      have ep : P = pY tp Tn (1000 - i) D' n' := ep
      have h3 := vis_end hs t3.2.1 k0
      exact z (1001 - (i + 1)) _ _ (G + 1) (by omega) (by omega) ⟨i + 1, n', D', cd', o, rfl, rfl, by omega, c5, f3.tr f5, t5, d5, ok.1, sm, by rw [show 1001 - (i + 1) = 1000 - i by omega]; exact ep⟩
end RYARD
