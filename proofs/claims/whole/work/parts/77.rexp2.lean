/-! LAWS: the reference's parts, and a law in whole -/
section REXP2
variable {tp : Nat → Int32} {Tn d n f k : Nat} {M M' : Mem} {ml : Bool} {st c : List Nat}
/-- the fact that stands here -/
def fcx (tp : Nat → Int32) (Tn : Nat) (ml : Bool) (n : Nat) : Int32 := if isWN tp Tn n (kwd (fkw ml 0)) then Int32.ofNat (gFm ml 0) else if isWN tp Tn n (kwd (fkw ml 1)) then Int32.ofNat (gFm ml 1) else if isWN tp Tn n (kwd (fkw ml 2)) then Int32.ofNat (gFm ml 2) else -1
theorem l_i32 {v : Nat} (h : v < 10000) : (Int64.ofNat v).toInt32 = Int32.ofNat v := by
  rw [← Int32.toInt_inj, i_toInt (by omega), Int64.toInt_toInt32, l_ti (by omega)]
  exact Int.bmod_eq_of_le (by omega) (by omega)
/-- which fact stands here -/
theorem sp230_27 {F : Nat} {l1 l2 : Int32} {o : Option AV} (hs : SG tp Tn) (hB : BAm ml M) (h : TB tp Tn n M) : ∃ G, F ≤ G ∧ lp (d + 2) 230 (F + 3) 27 [some (vR 12 0 253), some (vI l1), some (vI l2), o] M = lp (d + 2) 230 (G + 1) 57 [some (vR 12 0 253), some (vI l1), some (vI l2), some (vI (fcx tp Tn ml n))] M := by
  rw [show F + 3 = (F + 2) + 1 from rfl, e230_27, sp211 (f := 28) (m := 5) (E := 28) (E' := 5) rfl rfl hs (by omega) hB.1 h, cIn_s]
  have no : fcx tp Tn ml n = -1 → ∀ v, lp (d + 2) 230 (F + 2) 55 [some (vR 12 0 253), some (vI l1), some (vI l2), some (vI v)] M = lp (d + 2) 230 (F + 1) 57 [some (vR 12 0 253), some (vI l1), some (vI l2), some (vI (fcx tp Tn ml n))] M := fun hf v => by
    rw [show F + 2 = (F + 1) + 1 from rfl, e230_55, hf]
  have hm : M.1 253 21 = if ml then 7 else 28 := hB.2
  have hit : ∀ i, i < 5 → isWN tp Tn n (kwd (28 + i)) = true → ∃ G, F ≤ G ∧ ic (whr tp Tn n 28 5 < 0) (lp (d + 2) 230 (F + 2) 55 [some (vR 12 0 253), some (vI l1), some (vI l2), some (vI (whr tp Tn n 28 5))] M) (ic (((M.1 253 21) >>> ((whr tp Tn n 28 5) &&& 31)) &&& 1 = 1) (lp (d + 2) 230 (F + 2) 57 [some (vR 12 0 253), some (vI l1), some (vI l2), some (vI (whr tp Tn n 28 5))] M) (lp (d + 2) 230 (F + 2) 55 [some (vR 12 0 253), some (vI l1), some (vI l2), some (vI (whr tp Tn n 28 5))] M)) = lp (d + 2) 230 (G + 1) 57 [some (vR 12 0 253), some (vI l1), some (vI l2), some (vI (fcx tp Tn ml n))] M := by
    intro i hi hy
    have o1 : ∀ j, j < 5 → j ≠ i → isWN tp Tn n (kwd (28 + j)) = false := fun j hj hne => wn_1 hy (by omega) (by omega) (by omega)
    rw [whr_y (f := 28) (i := i) hy 5 hi (by omega), ic_f (i_neg (by omega)), hm]
    have fx : fcx tp Tn ml n = (if (if ml then i < 3 else 2 ≤ i) then Int32.ofNat i else -1) := by
      unfold fcx
      cases ml
      · have a0 : kwd (fkw false 0) = kwd (28 + 3) := rfl
        have a1 : kwd (fkw false 1) = kwd (28 + 2) := rfl
        have a2 : kwd (fkw false 2) = kwd (28 + 4) := rfl
        rw [a0, a1, a2]
        rcases i with _ | _ | _ | _ | _ | i
        · rw [o1 3 (by omega) (by omega), o1 2 (by omega) (by omega), o1 4 (by omega) (by omega)]; rfl
        · rw [o1 3 (by omega) (by omega), o1 2 (by omega) (by omega), o1 4 (by omega) (by omega)]; rfl
        · rw [o1 3 (by omega) (by omega), hy]; rfl
        · rw [hy]; rfl
        · rw [o1 3 (by omega) (by omega), o1 2 (by omega) (by omega), hy]; rfl
        · omega
      · have a0 : kwd (fkw true 0) = kwd (28 + 0) := rfl
        have a1 : kwd (fkw true 1) = kwd (28 + 1) := rfl
        have a2 : kwd (fkw true 2) = kwd (28 + 2) := rfl
        rw [a0, a1, a2]
        rcases i with _ | _ | _ | _ | _ | i
        · rw [hy]; rfl
        · rw [o1 0 (by omega) (by omega), hy]; rfl
        · rw [o1 0 (by omega) (by omega), o1 1 (by omega) (by omega), hy]; rfl
        · rw [o1 0 (by omega) (by omega), o1 1 (by omega) (by omega), o1 2 (by omega) (by omega)]; rfl
        · rw [o1 0 (by omega) (by omega), o1 1 (by omega) (by omega), o1 2 (by omega) (by omega)]; rfl
        · omega
    have dec : ∀ (ml : Bool) (i : Fin 5), ((((if ml then (7 : Int32) else 28) >>> ((Int32.ofNat i.1) &&& 31)) &&& 1 = 1) ↔ (if ml then i.1 < 3 else 2 ≤ i.1)) := by decide +kernel
    have dc := dec ml ⟨i, hi⟩
    by_cases hb : (if ml then i < 3 else 2 ≤ i)
    · rw [ic_t (dc.mpr hb), fx, if_pos hb]; exact ⟨F + 1, by omega, rfl⟩
    · rw [ic_f (fun y => hb (dc.mp y)), no (by rw [fx, if_neg hb])]; exact ⟨F, by omega, rfl⟩
  by_cases h0 : isWN tp Tn n (kwd 28) = true
  · exact hit 0 (by omega) h0
  by_cases h1 : isWN tp Tn n (kwd 29) = true
  · exact hit 1 (by omega) h1
  by_cases h2 : isWN tp Tn n (kwd 30) = true
  · exact hit 2 (by omega) h2
  by_cases h3 : isWN tp Tn n (kwd 31) = true
  · exact hit 3 (by omega) h3
  by_cases h4 : isWN tp Tn n (kwd 32) = true
  · exact hit 4 (by omega) h4
  have hno : ∀ k, k < 5 → isWN tp Tn n (kwd (28 + k)) = false := fun k hk => by
    rcases k with _ | _ | _ | _ | _ | k
    · exact nf h0
    · exact nf h1
    · exact nf h2
    · exact nf h3
    · exact nf h4
    · omega
  have fx : fcx tp Tn ml n = -1 := by
    unfold fcx
    cases ml
    · show (if isWN tp Tn n (kwd 31) = true then _ else if isWN tp Tn n (kwd 30) = true then _ else if isWN tp Tn n (kwd 32) = true then _ else _) = _
      rw [if_neg h3, if_neg h2, if_neg h4]
    · show (if isWN tp Tn n (kwd 28) = true then _ else if isWN tp Tn n (kwd 29) = true then _ else if isWN tp Tn n (kwd 30) = true then _ else _) = _
      rw [if_neg h0, if_neg h1, if_neg h2]
  rw [whr_no 5 hno, ic_t (by decide), no fx]
  exact ⟨F, by omega, rfl⟩
/-- a leaf and the fact or number that is told -/
theorem fcx_lf (h2 : kS tp Tn n ≠ 2) : (lfw tp Tn ml n = 20000 ∧ fcx tp Tn ml n = -1) ∨ ∃ j, j < 3 ∧ lfw tp Tn ml n = 10000 + j ∧ fcx tp Tn ml n = Int32.ofNat (gFm ml j) := by
  unfold lfw fcx
  rw [if_neg h2]
  by_cases a0 : isWN tp Tn n (kwd (fkw ml 0)) = true
  · rw [if_pos a0, if_pos a0]; exact .inr ⟨0, by omega, rfl, rfl⟩
  rw [if_neg a0, if_neg a0]
  by_cases a1 : isWN tp Tn n (kwd (fkw ml 1)) = true
  · rw [if_pos a1, if_pos a1]; exact .inr ⟨1, by omega, rfl, rfl⟩
  rw [if_neg a1, if_neg a1]
  by_cases a2 : isWN tp Tn n (kwd (fkw ml 2)) = true
  · rw [if_pos a2, if_pos a2]; exact .inr ⟨2, by omega, rfl, rfl⟩
  rw [if_neg a2, if_neg a2]
  exact .inl ⟨rfl, rfl⟩
theorem gFm_lt {j : Nat} (h : j < 3) : gFm ml j < 5 := by
  have : ∀ (ml : Bool) (j : Fin 3), gFm ml j.1 < 5 := by decide
  exact this ml ⟨j, h⟩
/-- what takePart does -/
def POt (tp : Nat → Int32) (Tn : Nat) (ml : Bool) (f n : Nat) (st c : List Nat) (M : Mem) : Prop := FSt tp Tn ml f (0, n, st, c) (f + c.length) n M ∨ ∃ n' c', Rch tp Tn ml (.inl (0, n, st, c)) (.inl (1, n', st, c')) ∧ TB tp Tn n' M ∧ RCd ml f c' M ∧ n < n' ∧ f + c'.length + n ≤ n' + (f + c.length)
def PPx (tp : Nat → Int32) (Tn : Nat) (ml : Bool) (f D p : Nat) : Prop := ∀ st n c M, nst st = p → BAm ml M → TB tp Tn n M → RCd ml f c M → f + c.length ≤ n → Hm (evD D 230 [vR 12 0 253, vI (Int32.ofNat p)] M) (fun r M' => r = none ∧ Fr (XWr f) M M' ∧ POt tp Tn ml f n st c M')
theorem px230x {D p : Nat} (h : PPx tp Tn ml f D p) : PAx tp Tn ml f 230 5 D p := by
  intro st n c M hp hr hh hB hT hR hn
  refine Hm_mono (h st n c M hp hB hT hR hn) (fun r M' ⟨a, b, x⟩ => ⟨a, b, ?_⟩)
  rcases x with x | ⟨n', c', x1, x2, x3, x4, x5⟩
  · exact .inl x
  · refine .inr ⟨n', [], c', x1.tr (Rch.sp (ms_12 hh)), fun w hw => absurd hw (by simp), x2, by rw [List.append_nil]; exact x3, x4, by rw [List.append_nil]; exact x5, fun z => ?_⟩
    have := wrk_le (w := jnw tp Tn n'); omega
theorem nst_0 {w : Nat} (h : wrk w = 0) : nst (w :: st) = nst st + 1 := by
  show nst st + (if _ then 1 else 0) = nst st + 1
  rw [if_pos h]
/-- from 57 on: a fault, or on to 91 -/
theorem sp230 {D p : Nat} (hs : SG tp Tn) (hp5 : p ≤ 5) (hN : p < 5 → PPx tp Tn ml f (D + 3) (p + 1)) (hA : p < 5 → PAx tp Tn ml f 226 1 (D + 3) (p + 1)) : PPx tp Tn ml f (D + 4) p := by
  intro st n c M hp hB hT hR hn
  have hn1 := hT.le hs
  rw [e230, hT.2.2.2, ic_f n0, hT.2.2.1, ck (show n < 1002 by omega) (by omega), i_nat (by omega), (hT.1 n hT.2.1).1, (i_s1 (a := kS tp Tn n) so_le).2.1]
  have e2 : ∀ (A B : Res), ic (kS tp Tn n = 2) A B = if kS tp Tn n = 2 then A else B := fun A B => by
    by_cases y : kS tp Tn n = 2
    · rw [ic_t y, if_pos y]
    · rw [ic_f y, if_neg y]
  have e3 : ic (kS tp Tn n = 2) (lp0 (D + 3) 230 27 [some (vR 12 0 253), some (vI (Int32.ofNat p)), some (vI 1), none] M) (lp0 (D + 3) 230 27 [some (vR 12 0 253), some (vI (Int32.ofNat p)), some (vI 0), none] M) = lp (D + 3) 230 (19997 + 3) 27 [some (vR 12 0 253), some (vI (Int32.ofNat p)), some (vI (b2 (decide (kS tp Tn n = 2)))), none] M := by
    by_cases y : kS tp Tn n = 2
    · rw [ic_t y, lp0_eq, decide_eq_true y]; rfl
    · rw [ic_f y, lp0_eq, decide_eq_false y]; rfl
  rw [e3]
  obtain ⟨G, hG, e4⟩ := sp230_27 (d := D + 1) (F := 19997) (l1 := Int32.ofNat p) (l2 := b2 (decide (kS tp Tn n = 2))) (o := none) hs hB hT
  rw [e4, e230_57]
  have hflt : ∀ e, 1 ≤ e → e ≤ 5 → mst tp Tn ml (0, n, st, c) = .inr (.inr (flt tp Tn e n)) → ∀ (G : Nat) (l2 l3 : Int32), 0 < G → Hm (lp (D + 3) 230 G 101 [some (vR 12 0 253), some (vI (Int32.ofNat p)), some (vI l2), some (vI l3)] (sI M 253 8 (Int32.ofNat (flt tp Tn e n)))) (fun r M' => r = none ∧ Fr (XWr f) M M' ∧ POt tp Tn ml f n st c M') := by
    intro e he1 he5 hm G l2 l3 hG
    obtain ⟨G', rfl⟩ : ∃ G', G = G' + 1 := ⟨G - 1, by omega⟩
    have hF := TB.f (M := M) (n := n) (tp := tp) hs he1 he5
    rw [e230_101, ic_t hF.ne.2]
    refine Hm_some ⟨rfl, Fr.rf.sI (by unfold XWr; omega), .inl ⟨_, n, f + c.length, Rch.sp hm, hF, ?_, ?_, by omega, hn1, by omega⟩⟩
    · rw [sI_ne (by omega)]; exact hT.2.2.1
    · rw [sI_ne (by omega)]; exact hR.1
  have s40 : ∀ d, evD (d + 1) 231 [vR 12 0 253, vI 40] M = _ := fun d => sp231 (d := d) (k := 40) hs (by omega) hT
  have s25 : ∀ d, evD (d + 1) 206 [vR 12 0 253, vI 25] M = _ := fun d => sp206 (d := d) (w := 25) hs (by omega) hB.1 hT
  -- nothing that can stand here
  by_cases hop : isWN tp Tn n (kwd 25) = true ∨ isSN tp Tn n 40 = true
  rotate_left
  by_cases hlf : lfw tp Tn ml n = 20000
  · have k2 : kS tp Tn n ≠ 2 := fun y => by
      have := kV_lt y
      unfold lfw at hlf; rw [if_pos y] at hlf; omega
    have fx : fcx tp Tn ml n = -1 := by
      rcases fcx_lf (ml := ml) k2 with y | ⟨j, hj, y, _⟩
      · exact y.2
      · omega
    have w25 : isWN tp Tn n (kwd 25) = false := nf (fun y => hop (.inl y))
    have w40 : isSN tp Tn n 40 = false := nf (fun y => hop (.inr y))
    rw [fx, ic_t (by decide), decide_eq_false k2, ic_t (show b2 false = 0 from rfl), s40, cIn_s, w40, ic_t (show b2 false = 0 from rfl), s25, cIn_s, w25, ic_t (show b2 false = 0 from rfl), sp208 (e := 1) (E := 1) rfl hs hT, cVd_s]
    exact hflt 1 (by omega) (by omega) (ms_no hop hlf) G _ _ (by omega)
  -- on to 91
  all_goals
    have to91 : ∀ (X : Res), ic (fcx tp Tn ml n < 0) (ic (b2 (decide (kS tp Tn n = 2)) = 0) (cIn (evD (D + 3) 231 [vR 12 0 253, vI 40] M) fun v2 M1 => ic (v2 = 0) (cIn (evD (D + 3) 206 [vR 12 0 253, vI 25] M1) fun v4 M3 => ic (v4 = 0) (cVd (evD (D + 3) 208 [vR 12 0 253, vI 1] M3) fun M5 => lp (D + 3) 230 G 101 [some (vR 12 0 253), some (vI (Int32.ofNat p)), some (vI (b2 (decide (kS tp Tn n = 2)))), some (vI (fcx tp Tn ml n))] M5) (lp (D + 3) 230 G 91 [some (vR 12 0 253), some (vI (Int32.ofNat p)), some (vI (b2 (decide (kS tp Tn n = 2)))), some (vI (fcx tp Tn ml n))] M3)) (lp (D + 3) 230 G 91 [some (vR 12 0 253), some (vI (Int32.ofNat p)), some (vI (b2 (decide (kS tp Tn n = 2)))), some (vI (fcx tp Tn ml n))] M1)) (lp (D + 3) 230 G 91 [some (vR 12 0 253), some (vI (Int32.ofNat p)), some (vI (b2 (decide (kS tp Tn n = 2)))), some (vI (fcx tp Tn ml n))] M)) (lp (D + 3) 230 G 91 [some (vR 12 0 253), some (vI (Int32.ofNat p)), some (vI (b2 (decide (kS tp Tn n = 2)))), some (vI (fcx tp Tn ml n))] M) = lp (D + 3) 230 G 91 [some (vR 12 0 253), some (vI (Int32.ofNat p)), some (vI (b2 (decide (kS tp Tn n = 2)))), some (vI (fcx tp Tn ml n))] M := by
      intro _
      by_cases y1 : fcx tp Tn ml n < 0
      · rw [ic_t y1]
        by_cases y2 : kS tp Tn n = 2
        · rw [decide_eq_true y2, ic_f (by decide)]
        · rw [decide_eq_false y2, ic_t (show b2 false = 0 from rfl), s40, cIn_s]
          by_cases y3 : isSN tp Tn n 40 = true
          · rw [y3, ic_f (by decide)]
          · rw [nf y3, ic_t (show b2 false = 0 from rfl), s25, cIn_s]
            by_cases y4 : isWN tp Tn n (kwd 25) = true
            · rw [y4, ic_f (by decide)]
            · exfalso
              first
              | exact hop.elim y4 y3
              | (rcases fcx_lf (ml := ml) y2 with y | ⟨j, hj, y, yy⟩
                 · exact hlf y.1
                 · have := gFm_lt (ml := ml) hj
                   rw [yy] at y1; exact i_neg (by omega) y1)
      · rw [ic_f y1]
    rw [to91 none]
    clear to91
    obtain ⟨G', rfl⟩ : ∃ G', G = G' + 1 + 1 + 1 := ⟨G - 3, by omega⟩
    rw [e230_91, show (5 : Int32) = Int32.ofNat 5 from rfl, i_eq (by omega) (by omega)]
    by_cases y5 : p = 5
    · rw [ic_t y5, sp208 (e := 5) rfl hs hT, cVd_s]
      refine hflt 5 (by omega) (by omega) ?_ _ _ _ (by omega)
      first
      | exact ms_op5 hop (by omega)
      | exact ms_lf5 hop hlf (by omega)
    rw [ic_f y5, e230_101, hT.2.2.2, ic_f n0, sp215 (w := 25) (E := 25) rfl hs (by omega) hB.1 hT, cIn_s, i_addl]
  · -- a leaf
    have w25 : isWN tp Tn n (kwd 25) = false := nf (fun y => hop (.inl y))
    have w40 : isSN tp Tn n 40 = false := nf (fun y => hop (.inr y))
    have k0 : kS tp Tn n ≠ 0 := fun y => by
      apply hlf
      have : ∀ w, isWN tp Tn n w = false := fun w => nf (fun y' => isWN_k y' y)
      unfold lfw; rw [if_neg (by omega), this, this, this]; rfl
    have fin : ∀ (o a : Int32) (l2 l3 : Int32), o = opO (Int32.ofNat (lfw tp Tn ml n)) → (lfw tp Tn ml n < 10000 → a = Int32.ofNat (lfw tp Tn ml n)) → (¬ lfw tp Tn ml n < 10000 → lfw tp Tn ml n < 10003 → a = Int32.ofNat (gFm ml (lfw tp Tn ml n - 10000))) → Hm (cVd (evD (D + 3) 232 [vR 12 0 253, vI o, vI a] M) fun M5 => lp (D + 3) 230 (G' + 1) 190 [some (vR 12 0 253), some (vI (Int32.ofNat p)), some (vI l2), some (vI l3)] M5) (fun r M' => r = none ∧ Fr (XWr f) M M' ∧ POt tp Tn ml f n st c M') := by
      intro o a l2 l3 ho h1 h2
      subst ho
      rw [sp232 hR.1 (by omega), cVd_s, e230_190]
      have hT2 := hT.em (k := f + c.length) (o := opO (Int32.ofNat (lfw tp Tn ml n))) (a := a)
      rw [hT2.2.2.1, i_addl]
      refine Hm_some ⟨rfl, (emM_x (by omega)).sI (by unfold XWr; omega), .inr ⟨n + 1, _, Rch.sp (ms_lf hop hlf (by omega)), hT2.s k0, (hR.em h1 h2).fr (Fr.rf.sI (by unfold R78; omega)), by omega, ?_⟩⟩
      rw [List.length_append]; show f + (c.length + 1) + n ≤ _; omega
    rw [w25, ic_t (show b2 false = 0 from rfl), if_neg (by decide), sp233 (k := 40) (E := 40) rfl hs (by omega) hT, cIn_s, w40, ic_t (show b2 false = 0 from rfl), if_neg (by decide)]
    by_cases y2 : kS tp Tn n = 2
    · have hv := kV_lt y2
      have el : lfw tp Tn ml n = kV tp Tn n := by unfold lfw; rw [if_pos y2]
      rw [decide_eq_true y2, ic_f (by decide), ic_f (by decide), hT.2.2.1, ck (show n < 1002 by omega) (by omega), i_nat (by omega), (hT.1 n hT.2.1).2.2 (by omega) (by omega), show kval tp Tn n = Int64.ofNat (kV tp Tn n) by unfold kval; rw [if_neg (by omega), if_pos y2], l_i32 hv]
      refine fin 1 _ _ _ ?_ (fun _ => by rw [el]) (fun z _ => by omega)
      rw [opO_1 (by rw [show (10000 : Int32) = Int32.ofNat 10000 from rfl, i_lt (by omega) (by omega)]; omega)]
    · rcases fcx_lf (ml := ml) y2 with y | ⟨j, hj, y, yy⟩
      · exact absurd y.1 hlf
      · rw [decide_eq_false y2, ic_t (show b2 false = 0 from rfl), ic_t (show b2 false = 0 from rfl)]
        refine fin 2 _ _ _ ?_ (fun z => by omega) (fun _ _ => by rw [yy, y, Nat.add_sub_cancel_left])
        rw [y, opO_2 (by rw [show (10000 : Int32) = Int32.ofNat 10000 from rfl, i_lt (by omega) (by omega)]; omega) (by rw [show (10003 : Int32) = Int32.ofNat 10003 from rfl, i_lt (by omega) (by omega)]; omega)]
  · by_cases w25 : isWN tp Tn n (kwd 25) = true
    · -- NOT
      rw [w25, ic_f (by decide), if_pos rfl]
      have hR2 := hR.fr (M' := sI M 253 7 (Int32.ofNat (n + 1))) (Fr.rf.sI (by unfold R78; omega))
      have f2 : Fr (XWr f) M (sI M 253 7 (Int32.ofNat (n + 1))) := Fr.rf.sI (by unfold XWr; omega)
      have hm : Rch tp Tn ml (.inl (0, n, st, c)) (.inl (0, n + 1, 10003 :: st, c)) := Rch.sp (ms_not w25 (by omega))
      refine Hm_cVv (hN (by omega) (10003 :: st) (n + 1) c _ (by rw [nst_0 (by decide), hp]) (hB.fr f2) (hT.s (isWN_k w25)) hR2 (by omega)) (fun M3 ⟨f3, x3⟩ => ?_)
      rcases x3 with x3 | ⟨n', c', x1, x2, x3, x4, x5⟩
      · obtain ⟨M4, e4, f4, x4⟩ := x3.em (n := n) (k := f + c.length) (o := 3) (a := 0) hm (by omega) hn
        rw [e4, cVd_s]
        exact Hm_some ⟨rfl, (f2.tr f3).tr f4, .inl x4⟩
      · have hn2 := x2.le hs
        rw [sp232 x3.1 (by omega), cVd_s]
        refine Hm_some ⟨rfl, (f2.tr f3).tr (emM_x (by omega)), .inr ⟨n', c' ++ [10003], (hm.tr x1).tr (Rch.sp ms_cn), x2.em, x3.em (w := 10003) (fun z => by omega) (fun _ z => by omega), by omega, ?_⟩⟩
        rw [List.length_append]; show f + (c'.length + 1) + n ≤ _; omega
    · -- a bracket
      have w40 : isSN tp Tn n 40 = true := hop.resolve_left w25
      rw [nf w25, ic_t (show b2 false = 0 from rfl), if_neg (by decide), sp233 (k := 40) (E := 40) rfl hs (by omega) hT, cIn_s, w40, ic_f (by decide), if_pos rfl]
      have hR2 := hR.fr (M' := sI M 253 7 (Int32.ofNat (n + 1))) (Fr.rf.sI (by unfold R78; omega))
      have f2 : Fr (XWr f) M (sI M 253 7 (Int32.ofNat (n + 1))) := Fr.rf.sI (by unfold XWr; omega)
      have hm : Rch tp Tn ml (.inl (0, n, st, c)) (.inl (0, n + 1, 10011 :: st, c)) := Rch.sp (ms_br w40 (by omega))
      refine Hm_cVv (hA (by omega) (10011 :: st) (n + 1) c _ (by rw [nst_0 (by decide), hp]) (show wrk 10011 < 1 by decide) (fun z => absurd (Option.some.inj z) (by decide)) (hB.fr f2) (hT.s (isSN_k w40)) hR2 (by omega)) (fun M3 ⟨f3, x3⟩ => ?_)
      rcases x3 with ⟨e, n', k', q1, q2, q3, q4, q5, q6, q7⟩ | ⟨n', pd, cm, x3⟩
      · rw [sp234f q2, cVd_s]
        exact Hm_some ⟨rfl, f2.tr f3, .inl ⟨e, n', k', hm.tr q1, q2, q3, q4, by omega, q6, q7⟩⟩
      · obtain ⟨x1, x2, x3, x4, x5, x6, x7⟩ := x3
        have hn2 := x3.le hs
        by_cases y41 : isSN tp Tn n' 41 = true
        · rw [sp234y (k := 41) (E := 41) rfl hs (by omega) x3 y41, cVd_s]
          exact Hm_some ⟨rfl, (f2.tr f3).sI (by unfold XWr; omega), .inr ⟨n' + 1, cm ++ pd, (hm.tr x1).tr (Rch.sp (ms_cl y41 x2)), x3.s (isSN_k y41), x4.fr (Fr.rf.sI (by unfold R78; omega)), by omega, by omega⟩⟩
        · rw [sp234n (k := 41) (E := 41) rfl hs (by omega) x3 (nf y41), cVd_s]
          have hF := TB.f (M := M3) (n := n') (tp := tp) hs (e := 1) (by omega) (by omega)
          have hre : Rch tp Tn ml (.inl (0, n, st, c)) (.inr (.inr (flt tp Tn 1 n'))) := by
            by_cases j0 : jnw tp Tn n' = 0
            · exact (hm.tr x1).tr (Rch.sp (ms_bad (nf y41) j0 x2))
            · exact hm.tr (x7 (jnw_rk j0).1).2.2
          refine Hm_some ⟨rfl, (f2.tr f3).sI (by unfold XWr; omega), .inl ⟨_, n', f + (cm ++ pd).length, hre, hF, ?_, ?_, by omega, hn2, by omega⟩⟩
          · rw [sI_ne (by omega)]; exact x3.2.2.1
          · rw [sI_ne (by omega)]; exact x4.1
/-- all depths -/
theorem pxall (hs : SG tp Tn) : ∀ m d p, p + m = 5 → PPx tp Tn ml f (5 * m + d + 4) p
  | 0, d, p, h => by
    rw [show 5 * 0 + d + 4 = d + 4 by omega]
    exact sp230 hs (by omega) (fun z => by omega) (fun z => by omega)
  | m + 1, d, p, h => by
    have ih := pxall hs m (d + 4) (p + 1) (by omega)
    have i0 : PAx tp Tn ml f 230 5 (5 * m + d + 2 + 2) (p + 1) := px230x (pxall hs m d (p + 1) (by omega))
    have i1 := px226 hs (px227 hs (px228 hs (px229 hs i0)))
    rw [show 5 * (m + 1) + d + 4 = (5 * m + d + 5) + 4 by omega]
    exact sp230 hs (by omega) (fun _ => by rw [show 5 * m + d + 5 + 3 = 5 * m + (d + 4) + 4 by omega]; exact ih) (fun _ => by rw [show 5 * m + d + 5 + 3 = 5 * m + d + 2 + 6 by omega]; exact i1)
theorem pxtop (hs : SG tp Tn) : PAx tp Tn ml f 226 1 (d + 33) 0 := by
  have i0 : PAx tp Tn ml f 230 5 (d + 27 + 2) 0 := by
    have := px230x (pxall (ml := ml) (f := f) hs 5 d 0 (by omega))
    rw [show d + 27 + 2 = 5 * 5 + d + 4 by omega]; exact this
  exact px226 hs (px227 hs (px228 hs (px229 hs i0)))
/-- how a law ends for the reference: a fault, its code, or a sign that cannot stand behind it -/
def LWo (tp : Nat → Int32) (Tn : Nat) (ml : Bool) (f n : Nat) (M : Mem) : Prop := (∃ e n' k', Rch tp Tn ml (.inl (0, n, [], [])) (.inr (.inr e)) ∧ TFa e M ∧ M.1 253 7 = Int32.ofNat n' ∧ M.1 253 13 = Int32.ofNat k' ∧ k' ≤ n' + 1 ∧ n' ≤ 1000 ∧ f ≤ k') ∨ (∃ n' c, TB tp Tn n' M ∧ n < n' ∧ f + c.length + n ≤ n' + f ∧ RCd ml f c (sI M 253 13 (Int32.ofNat (f + c.length))) ∧ M.1 253 13 = Int32.ofNat (f + c.length + 1) ∧ M.1 260 (1100 + (f + c.length)) = 0 ∧ (Rch tp Tn ml (.inl (0, n, [], [])) (.inr (.inl (n', c))) ∨ (isSN tp Tn n' 59 = false ∧ Rch tp Tn ml (.inl (0, n, [], [])) (.inr (.inr (flt tp Tn 1 n'))))))
theorem sp224_131 {F : Nat} {o : Option AV} (hs : SG tp Tn) (hB : BAm ml M) (hT : TB tp Tn n M) (h13 : M.1 253 13 = Int32.ofNat f) (hn : f ≤ n) : Hm (lp (d + 33) 224 (F + 1) 131 [some (vR 12 0 253), o] M) (fun r M' => r = none ∧ Fr (XWr f) M M' ∧ LWo tp Tn ml f n M') := by
  rw [e224_131]
  refine Hm_cVv (pxtop (d := d) (f := f) hs [] n [] M rfl (by show (0 : Nat) < 1; omega) (by intro z; exact absurd z (by simp)) hB hT ⟨by rw [h13]; rfl, fun i hi => absurd hi (by simp)⟩ (by show f + 0 ≤ n; omega)) (fun M1 ⟨f1, x1⟩ => ?_)
  rcases x1 with ⟨e, n', k', q1, q2, q3, q4, q5, q6, q7⟩ | ⟨n', pd, cm, x1, x2, x3, x4, x5, x6, x7⟩
  · have q5 : k' + n ≤ n' + (f + 0) := q5
    rw [sp232 q4 (by omega), cVd_s]
    exact Hm_some ⟨rfl, f1.tr (emM_x q7), .inl ⟨e, n', k' + 1, q1, q2.em, (emM_fr.i (by omega)).trans q3, sI_eq, by omega, q6, by omega⟩⟩
  · have x6 : f + (cm ++ pd).length + n ≤ n' + (f + 0) := x6
    have hn' := x3.le hs
    rw [List.append_nil] at x1
    rw [sp232 x4.1 (by omega), cVd_s]
    refine Hm_some ⟨rfl, f1.tr (emM_x (by omega)), .inr ⟨n', cm ++ pd, x3.em, x5, by omega, ⟨sI_eq, fun i hi => ?_⟩, sI_eq, by unfold emM; rw [sI_ne (by omega), sI_ne (by omega)]; exact sI_eq, ?_⟩⟩
    · have := x4.2 i hi
      unfold CEt at *
      rw [sI_ne (by omega), sI_ne (by omega), emM_fr.i (by omega), emM_fr.i (by omega)]; exact this
    · by_cases j0 : isSN tp Tn n' 41 = true ∨ jnw tp Tn n' = 0
      · exact .inl (x1.tr (Rch.sp (ms_end j0 x2)))
      · have hj : jnw tp Tn n' ≠ 0 := fun z => j0 (.inr z)
        obtain ⟨y1, y2, y3⟩ := x7 (jnw_rk hj).1
        refine .inr ⟨?_, y3⟩
        rcases jrk.2.2.1 y2 with g | g
        · exact sn_1 g (by omega)
        · exact sn_1 g (by omega)
end REXP2
