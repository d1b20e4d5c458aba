/-! SESSION: the class -/
section CSESS
variable {tp : Nat → Int32} {Tn d n sz : Nat} {M M' : Mem} {c : Nat → Nat} {nm : Nat → Nat → List Nat}
/-- which deed a line begins with; 5: none -/
def dd (tp : Nat → Int32) (Tn n : Nat) : Nat := if isWN tp Tn n (kwd 14) then 0 else if isWN tp Tn n (kwd 15) then 1 else if isWN tp Tn n (kwd 16) then 2 else if isWN tp Tn n (kwd 17) then 3 else if isWN tp Tn n (kwd 18) then 4 else 5
abbrev O3 : Type := (Nat × Nat × Nat) ⊕ Nat
/-- which rolls its names are of: 0 spots, 1 carvers, 2 acts -/
def rq1 (x : Nat) : Nat := if x = 1 then 1 else 2
def rq2 (x : Nat) : Nat := if x = 1 then 2 else 0
noncomputable def pNm (tp : Nat → Int32) (Tn : Nat) (c : Nat → Nat) (nm : Nat → Nat → List Nat) (x n : Nat) : O3 :=
  if x = 4 then .inl (n, 0, 0)
  else if namO tp Tn n (c (rq1 x)) (nm (rq1 x)) = 0 then
    (if x = 2 ∨ x = 3 then .inl (n + 1, fnd (nm (rq1 x)) (kW tp Tn n) (c (rq1 x)), 0)
     else if namO tp Tn (n + 1) (c (rq2 x)) (nm (rq2 x)) = 0 then .inl (n + 2, fnd (nm (rq1 x)) (kW tp Tn n) (c (rq1 x)), fnd (nm (rq2 x)) (kW tp Tn (n + 1)) (c (rq2 x)))
     else .inr (flt tp Tn (namO tp Tn (n + 1) (c (rq2 x)) (nm (rq2 x))) (n + 1)))
  else .inr (flt tp Tn (namO tp Tn n (c (rq1 x)) (nm (rq1 x))) n)
noncomputable def pSL (tp : Nat → Int32) (Tn : Nat) (c : Nat → Nat) (nm : Nat → Nat → List Nat) (n sz : Nat) : O3 :=
  if dd tp Tn n = 5 then .inr (flt tp Tn 1 n) else if 40 ≤ sz then .inr (flt tp Tn 5 n) else
  match pNm tp Tn c nm (dd tp Tn n) (n + 1) with
  | .inr e => .inr e
  | .inl (m, a, b) => if isSN tp Tn m 59 then .inl (m + 1, a, b) else .inr (flt tp Tn 1 m)
/-- the names of the yard -/
def RLs (c : Nat → Nat) (nm : Nat → Nat → List Nat) (M : Mem) : Prop := RL 4 (c 0) (nm 0) M ∧ RL 6 (c 1) (nm 1) M ∧ RL 8 (c 2) (nm 2) M
theorem RLs.fr {W : Nat → Nat → Prop} (h : RLs c nm M) (hf : Fr W M M') (hw : ∀ c j, 4 ≤ c → c ≤ 9 → ¬ W c j) : RLs c nm M' :=
  ⟨h.1.fr hf (hw 4 0 (by omega) (by omega)) (fun j _ => hw 5 j (by omega) (by omega)), h.2.1.fr hf (hw 6 0 (by omega) (by omega)) (fun j _ => hw 7 j (by omega) (by omega)), h.2.2.fr hf (hw 8 0 (by omega) (by omega)) (fun j _ => hw 9 j (by omega) (by omega))⟩
def SW (c j : Nat) : Prop := TV c j ∨ (56 ≤ c ∧ c ≤ 59)
theorem TV_SW (h : Fr TV M M') : Fr SW M M' := h.up (fun c j z => .inl z)
theorem sp90 (hs : SG tp Tn) (h : TA tp Tn n M) : evD (d + 6) 90 [vR 7 0 1] M = some (some (vI (if dd tp Tn n = 5 then -1 else Int32.ofNat (dd tp Tn n))), M) := by
  have e0 : kwd 14 = stW 30 := rfl
  have e1 : kwd 15 = stW 31 := rfl
  have e2 : kwd 16 = stW 32 := rfl
  have e3 : kwd 17 = stW 33 := rfl
  have e4 : kwd 18 = stW 34 := rfl
  have s30 := sp35 (is := 30) (d := d) hs (by omega) (by omega) (by omega) h
  have s31 := sp35 (is := 31) (d := d) hs (by omega) (by omega) (by omega) h
  have s32 := sp35 (is := 32) (d := d) hs (by omega) (by omega) (by omega) h
  have s33 := sp35 (is := 33) (d := d) hs (by omega) (by omega) (by omega) h
  have s34 := sp35 (is := 34) (d := d) hs (by omega) (by omega) (by omega) h
  unfold dd
  rw [e90, s30, cIn_s, e0, e1, e2, e3, e4]
  by_cases c0 : isWN tp Tn n (stW 30) = true
  · rw [c0, ic_f (by decide)]; rfl
  rw [nf c0, ic_t (by decide), s31, cIn_s]
  by_cases c1 : isWN tp Tn n (stW 31) = true
  · rw [c1, ic_f (by decide)]; rfl
  rw [nf c1, ic_t (by decide), s32, cIn_s]
  by_cases c2 : isWN tp Tn n (stW 32) = true
  · rw [c2, ic_f (by decide)]; rfl
  rw [nf c2, ic_t (by decide), s33, cIn_s]
  by_cases c3 : isWN tp Tn n (stW 33) = true
  · rw [c3, ic_f (by decide)]; rfl
  rw [nf c3, ic_t (by decide), s34, cIn_s]
  by_cases c4 : isWN tp Tn n (stW 34) = true
  · rw [c4, ic_f (by decide)]; rfl
  · rw [nf c4, ic_t (by decide)]; rfl
theorem dd_le : dd tp Tn n ≤ 5 := by
  unfold dd
  split
  · omega
  · split
    · omega
    · split
      · omega
      · split
        · omega
        · split <;> omega
/-- the names of a line -/
theorem sp91 {x : Nat} (hs : SG tp Tn) (hx : x < 5) (h : TA tp Tn n M) (hR : RLs c nm M) (hz : M.1 56 3 = Int32.ofNat sz) (h40 : sz < 40) : Hm (evD (d + 9) 91 [vR 5 0 56, vR 7 0 1, vR 9 0 3, vI (Int32.ofNat x)] M) (fun r M' => Fr SW M M' ∧ M'.1 56 = M.1 56 ∧ M'.1 57 = M.1 57 ∧ (∀ i, i ≠ sz → M'.1 58 i = M.1 58 i ∧ M'.1 59 i = M.1 59 i) ∧ match pNm tp Tn c nm x n with | .inl (m, a, b) => r = some (vI 1) ∧ TA tp Tn m M' ∧ (x ≠ 4 → M'.1 58 sz = Int32.ofNat a) ∧ (x < 2 → M'.1 59 sz = Int32.ofNat b) | .inr e => r = some (vI 0) ∧ M'.1 1 1 = Int32.ofNat e) := by
  unfold pNm
  have rows : ∀ {A B : Mem}, Fr TV A B → B.1 56 = A.1 56 ∧ B.1 57 = A.1 57 ∧ B.1 58 = A.1 58 ∧ B.1 59 = A.1 59 := fun hf => ⟨hf.row (fun j => by unfold TV; omega), hf.row (fun j => by unfold TV; omega), hf.row (fun j => by unfold TV; omega), hf.row (fun j => by unfold TV; omega)⟩
  by_cases x4 : x = 4
  · subst x4
    simp only [if_true]
    rw [e91, ic_t (show Int32.ofNat 4 = 4 from rfl)]
    exact Hm_some ⟨Fr.rf, rfl, rfl, fun i _ => ⟨rfl, rfl⟩, rfl, h, fun z => absurd rfl z, fun z => by omega⟩
  have n4 : ¬ Int32.ofNat x = 4 := by rw [show (4 : Int32) = Int32.ofNat 4 from rfl, i_eq (by omega) (by omega)]; exact x4
  by_cases x1 : x = 1
  · subst x1
    rw [e91, ic_f n4, ic_t (show Int32.ofNat 1 = 1 from rfl)]
    have R1 : rq1 1 = 1 := rfl
    have R2 : rq2 1 = 2 := rfl
    simp only [R1, R2, show ¬ (1 = 4) by omega, if_false, show ¬ (1 = 2 ∨ 1 = 3) by omega]
    by_cases o1 : namO tp Tn n (c 1) (nm 1) = 0
    · simp only [o1, if_true]
      refine Hm_cIv (v := 1) (P := fun M' => Fr TV M M' ∧ TA tp Tn (n + 1) M' ∧ M'.1 1 3 = Int32.ofNat (fnd (nm 1) (kW tp Tn n) (c 1))) (Hm_mono (sp63 hs h hR.2.1) (fun r M' z => by rw [if_pos o1] at z; exact ⟨z.2.1, z.1, z.2.2⟩)) (fun M1 h1 => ?_)
      obtain ⟨f1, t1, q3⟩ := h1
      obtain ⟨r56, r57, r58, r59⟩ := rows f1
      have z1 : M1.1 56 3 = Int32.ofNat sz := by rw [r56]; exact hz
      rw [ic_f (by decide), z1, ck h40 (by omega), ic_f (show ¬ Int32.ofNat 1 = 2 by decide), ic_f (show ¬ Int32.ofNat 1 = 3 by decide), ic_t (show Int32.ofNat 1 = 1 from rfl), i_nat (by omega), q3]
      generalize hM2 : sI M1 (56 + 2) sz (Int32.ofNat (fnd (nm 1) (kW tp Tn n) (c 1))) = M2
      have f2 : Fr (fun c j => c = 58 ∧ j = sz) M1 M2 := by rw [← hM2]; exact Fr.rf.sI (by omega)
      have t2 : TA tp Tn (n + 1) M2 := t1.fr f2 (fun c j z => by omega)
      have R2' : RLs c nm M2 := (hR.fr f1 (fun c j a b => by unfold TV; omega)).fr f2 (fun c j a b => by omega)
      have a58 : M2.1 58 sz = Int32.ofNat (fnd (nm 1) (kW tp Tn n) (c 1)) := by rw [← hM2]; exact sI_eq
      have fS : Fr SW M M2 := (TV_SW f1).tr (f2.up (fun c j z => by unfold SW; omega))
      by_cases o2 : namO tp Tn (n + 1) (c 2) (nm 2) = 0
      · simp only [o2, if_true]
        refine Hm_cIv (v := 1) (P := fun M' => Fr TV M2 M' ∧ TA tp Tn (n + 2) M' ∧ M'.1 1 3 = Int32.ofNat (fnd (nm 2) (kW tp Tn (n + 1)) (c 2))) (Hm_mono (sp63 hs t2 R2'.2.2) (fun r M' z => by rw [if_pos o2] at z; exact ⟨z.2.1, z.1, z.2.2⟩)) (fun M3 h3 => ?_)
        obtain ⟨f3, t3, q3'⟩ := h3
        obtain ⟨s56, s57, s58, s59⟩ := rows f3
        have z3 : M3.1 56 3 = Int32.ofNat sz := by rw [s56, f2.i (by omega)]; exact z1
        rw [ic_f (by decide), z3, ck h40 (by omega), i_nat (by omega), q3']
        have f4 : Fr (fun c j => c = 59 ∧ j = sz) M3 (sI M3 (56 + 3) sz (Int32.ofNat (fnd (nm 2) (kW tp Tn (n + 1)) (c 2)))) := Fr.rf.sI (by omega)
        refine Hm_some ⟨(fS.tr (TV_SW f3)).tr (f4.up (fun c j z => by unfold SW; omega)), ?_, ?_, fun i hi => ⟨?_, ?_⟩, rfl, t3.fr f4 (fun c j z => by omega), fun _ => ?_, fun _ => sI_eq⟩
        · rw [f4.row (fun j => by omega), s56, f2.row (fun j => by omega), r56]
        · rw [f4.row (fun j => by omega), s57, f2.row (fun j => by omega), r57]
        · rw [f4.i (by omega), s58, f2.i (by omega), r58]
        · rw [f4.i (by omega), s59, f2.i (by omega), r59]
        · rw [f4.i (by omega), s58]; exact a58
      · simp only [o2, if_false]
        refine Hm_cIv (v := 0) (P := fun M' => Fr TV M2 M' ∧ FC tp Tn (namO tp Tn (n + 1) (c 2) (nm 2)) (n + 1) M') (Hm_mono (sp63 hs t2 R2'.2.2) (fun r M' z => by rw [if_neg o2] at z; exact ⟨z.2.1, z.1, z.2.2⟩)) (fun M3 h3 => ?_)
        obtain ⟨s56, s57, s58, s59⟩ := rows h3.1
        rw [ic_t rfl, lp0_eq, e91_80]
        refine Hm_some ⟨fS.tr (TV_SW h3.1), ?_, ?_, fun i hi => ⟨?_, ?_⟩, rfl, h3.2⟩
        · rw [s56, f2.row (fun j => by omega), r56]
        · rw [s57, f2.row (fun j => by omega), r57]
        · rw [s58, f2.i (by omega), r58]
        · rw [s59, f2.i (by omega), r59]
    · simp only [o1, if_false]
      refine Hm_cIv (v := 0) (P := fun M' => Fr TV M M' ∧ FC tp Tn (namO tp Tn n (c 1) (nm 1)) n M') (Hm_mono (sp63 hs h hR.2.1) (fun r M' z => by rw [if_neg o1] at z; exact ⟨z.2.1, z.1, z.2.2⟩)) (fun M1 h1 => ?_)
      obtain ⟨r56, r57, r58, r59⟩ := rows h1.1
      rw [ic_t rfl, lp0_eq, e91_30]
      exact Hm_some ⟨TV_SW h1.1, r56, r57, fun i hi => ⟨by rw [r58], by rw [r59]⟩, rfl, h1.2⟩
  · have n1 : ¬ Int32.ofNat x = 1 := by rw [show (1 : Int32) = Int32.ofNat 1 from rfl, i_eq (by omega) (by omega)]; exact x1
    rw [e91, ic_f n4, ic_f n1]
    have R1 : rq1 x = 2 := by unfold rq1; rw [if_neg x1]
    have R2 : rq2 x = 0 := by unfold rq2; rw [if_neg x1]
    simp only [R1, R2, x4, if_false]
    by_cases o1 : namO tp Tn n (c 2) (nm 2) = 0
    · simp only [o1, if_true]
      refine Hm_cIv (v := 1) (P := fun M' => Fr TV M M' ∧ TA tp Tn (n + 1) M' ∧ M'.1 1 3 = Int32.ofNat (fnd (nm 2) (kW tp Tn n) (c 2))) (Hm_mono (sp63 hs h hR.2.2) (fun r M' z => by rw [if_pos o1] at z; exact ⟨z.2.1, z.1, z.2.2⟩)) (fun M1 h1 => ?_)
      obtain ⟨f1, t1, q3⟩ := h1
      obtain ⟨r56, r57, r58, r59⟩ := rows f1
      have z1 : M1.1 56 3 = Int32.ofNat sz := by rw [r56]; exact hz
      rw [ic_f (by decide), z1, ck h40 (by omega), i_nat (by omega), q3]
      generalize hM2 : sI M1 (56 + 2) sz (Int32.ofNat (fnd (nm 2) (kW tp Tn n) (c 2))) = M2
      have f2 : Fr (fun c j => c = 58 ∧ j = sz) M1 M2 := by rw [← hM2]; exact Fr.rf.sI (by omega)
      have t2 : TA tp Tn (n + 1) M2 := t1.fr f2 (fun c j z => by omega)
      have R2' : RLs c nm M2 := (hR.fr f1 (fun c j a b => by unfold TV; omega)).fr f2 (fun c j a b => by omega)
      have a58 : M2.1 58 sz = Int32.ofNat (fnd (nm 2) (kW tp Tn n) (c 2)) := by rw [← hM2]; exact sI_eq
      have fS : Fr SW M M2 := (TV_SW f1).tr (f2.up (fun c j z => by unfold SW; omega))
      have done1 : Hm (lp0 (d + 8) 91 55 [some (vR 5 0 56), some (vR 7 0 1), some (vR 9 0 3), some (vI (Int32.ofNat x))] M2) (fun r M' => Fr SW M M' ∧ M'.1 56 = M.1 56 ∧ M'.1 57 = M.1 57 ∧ (∀ i, i ≠ sz → M'.1 58 i = M.1 58 i ∧ M'.1 59 i = M.1 59 i) ∧ r = some (vI 1) ∧ TA tp Tn (n + 1) M' ∧ M'.1 58 sz = Int32.ofNat (fnd (nm 2) (kW tp Tn n) (c 2))) := by
        rw [lp0_eq, e91_55]
        refine Hm_some ⟨fS, ?_, ?_, fun i hi => ⟨?_, ?_⟩, rfl, t2, a58⟩
        · rw [f2.row (fun j => by omega), r56]
        · rw [f2.row (fun j => by omega), r57]
        · rw [f2.i (by omega), r58]
        · rw [f2.i (by omega), r59]
      by_cases x2 : x = 2
      · subst x2
        rw [ic_t (show Int32.ofNat 2 = 2 from rfl)]
        simp only [true_or, if_true]
        exact Hm_mono done1 (fun r M' z => ⟨z.1, z.2.1, z.2.2.1, z.2.2.2.1, z.2.2.2.2.1, z.2.2.2.2.2.1, fun _ => z.2.2.2.2.2.2, fun h => by omega⟩)
      have n2 : ¬ Int32.ofNat x = 2 := by rw [show (2 : Int32) = Int32.ofNat 2 from rfl, i_eq (by omega) (by omega)]; exact x2
      rw [ic_f n2]
      by_cases x3 : x = 3
      · subst x3
        rw [ic_t (show Int32.ofNat 3 = 3 from rfl)]
        simp only [or_true, if_true]
        exact Hm_mono done1 (fun r M' z => ⟨z.1, z.2.1, z.2.2.1, z.2.2.2.1, z.2.2.2.2.1, z.2.2.2.2.2.1, fun _ => z.2.2.2.2.2.2, fun h => by omega⟩)
      have n3 : ¬ Int32.ofNat x = 3 := by rw [show (3 : Int32) = Int32.ofNat 3 from rfl, i_eq (by omega) (by omega)]; exact x3
      rw [ic_f n3, ic_f n1]
      simp only [x2, x3, or_self, if_false]
      by_cases o2 : namO tp Tn (n + 1) (c 0) (nm 0) = 0
      · simp only [o2, if_true]
        refine Hm_cIv (v := 1) (P := fun M' => Fr TV M2 M' ∧ TA tp Tn (n + 2) M' ∧ M'.1 1 3 = Int32.ofNat (fnd (nm 0) (kW tp Tn (n + 1)) (c 0))) (Hm_mono (sp63 hs t2 R2'.1) (fun r M' z => by rw [if_pos o2] at z; exact ⟨z.2.1, z.1, z.2.2⟩)) (fun M3 h3 => ?_)
        obtain ⟨f3, t3, q3'⟩ := h3
        obtain ⟨s56, s57, s58, s59⟩ := rows f3
        have z3 : M3.1 56 3 = Int32.ofNat sz := by rw [s56, f2.i (by omega)]; exact z1
        rw [ic_f (by decide), z3, ck h40 (by omega), i_nat (by omega), q3']
        have f4 : Fr (fun c j => c = 59 ∧ j = sz) M3 (sI M3 (56 + 3) sz (Int32.ofNat (fnd (nm 0) (kW tp Tn (n + 1)) (c 0)))) := Fr.rf.sI (by omega)
        refine Hm_some ⟨(fS.tr (TV_SW f3)).tr (f4.up (fun c j z => by unfold SW; omega)), ?_, ?_, fun i hi => ⟨?_, ?_⟩, rfl, t3.fr f4 (fun c j z => by omega), fun _ => ?_, fun _ => sI_eq⟩
        · rw [f4.row (fun j => by omega), s56, f2.row (fun j => by omega), r56]
        · rw [f4.row (fun j => by omega), s57, f2.row (fun j => by omega), r57]
        · rw [f4.i (by omega), s58, f2.i (by omega), r58]
        · rw [f4.i (by omega), s59, f2.i (by omega), r59]
        · rw [f4.i (by omega), s58]; exact a58
      · simp only [o2, if_false]
        refine Hm_cIv (v := 0) (P := fun M' => Fr TV M2 M' ∧ FC tp Tn (namO tp Tn (n + 1) (c 0) (nm 0)) (n + 1) M') (Hm_mono (sp63 hs t2 R2'.1) (fun r M' z => by rw [if_neg o2] at z; exact ⟨z.2.1, z.1, z.2.2⟩)) (fun M3 h3 => ?_)
        obtain ⟨s56, s57, s58, s59⟩ := rows h3.1
        rw [ic_t rfl, lp0_eq, e91_80]
        refine Hm_some ⟨fS.tr (TV_SW h3.1), ?_, ?_, fun i hi => ⟨?_, ?_⟩, rfl, h3.2⟩
        · rw [s56, f2.row (fun j => by omega), r56]
        · rw [s57, f2.row (fun j => by omega), r57]
        · rw [s58, f2.i (by omega), r58]
        · rw [s59, f2.i (by omega), r59]
    · simp only [o1, if_false]
      refine Hm_cIv (v := 0) (P := fun M' => Fr TV M M' ∧ FC tp Tn (namO tp Tn n (c 2) (nm 2)) n M') (Hm_mono (sp63 hs h hR.2.2) (fun r M' z => by rw [if_neg o1] at z; exact ⟨z.2.1, z.1, z.2.2⟩)) (fun M1 h1 => ?_)
      obtain ⟨r56, r57, r58, r59⟩ := rows h1.1
      rw [ic_t rfl, lp0_eq, e91_30]
      exact Hm_some ⟨TV_SW h1.1, r56, r57, fun i hi => ⟨by rw [r58], by rw [r59]⟩, rfl, h1.2⟩
end CSESS
