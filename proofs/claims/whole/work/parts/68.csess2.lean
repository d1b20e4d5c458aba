/-! SESSION: the class, lines -/
section CSESS2
variable {tp : Nat → Int32} {Tn d n sz : Nat} {M M' : Mem} {c : Nat → Nat} {nm : Nat → Nat → List Nat} {g : Nat → Nat → Nat}
def gad (g : Nat → Nat → Nat) (sz x a b : Nat) : Nat → Nat → Nat := fun j i => if i = sz then (if j = 0 then x else if j = 1 then a else b) else g j i
abbrev OS : Type := (Nat × (Nat → Nat → Nat)) ⊕ Nat
noncomputable def pS (tp : Nat → Int32) (Tn : Nat) (c : Nat → Nat) (nm : Nat → Nat → List Nat) : Nat → Nat → Nat → (Nat → Nat → Nat) → OS
  | 0, _, _, _ => .inr 0
  | f + 1, n, sz, g => if kS tp Tn n = 0 then .inl (sz, g) else match pSL tp Tn c nm n sz with
    | .inr e => .inr e
    | .inl (m, a, b) => pS tp Tn c nm f m (sz + 1) (gad g sz (dd tp Tn n) a b)
def LD (sz : Nat) (g : Nat → Nat → Nat) (M : Mem) : Prop := M.1 56 3 = Int32.ofNat sz ∧ ∀ i, i < sz → M.1 57 i = Int32.ofNat (g 0 i) ∧ (g 0 i ≠ 4 → M.1 58 i = Int32.ofNat (g 1 i)) ∧ (g 0 i < 2 → M.1 59 i = Int32.ofNat (g 2 i))
theorem gad_0 {x a b : Nat} : gad g sz x a b 0 sz = x ∧ gad g sz x a b 1 sz = a ∧ gad g sz x a b 2 sz = b := by simp [gad]
theorem gad_n {x a b j i : Nat} (h : i ≠ sz) : gad g sz x a b j i = g j i := by simp [gad, h]
theorem flt_pos {e : Nat} (h : 1 ≤ e) : 1 ≤ flt tp Tn e n := by unfold flt; omega
theorem flt_lt {e : Nat} (hT : Tn ≤ 1000) (h : e ≤ 5) : flt tp Tn e n ≤ 16005 := by have := tP_le (tp := tp) (Tn := Tn) n; unfold flt; omega
theorem sp89 (hs : SG tp Tn) (h : TA tp Tn n M) (hR : RLs c nm M) (hl : LD sz g M) (h40 : sz ≤ 40) : Hm (evD (d + 10) 89 [vR 5 0 56, vR 7 0 1, vR 9 0 3] M) (fun r M' => Fr SW M M' ∧ match pSL tp Tn c nm n sz with | .inl (m, a, b) => r = some (vI 1) ∧ TA tp Tn m M' ∧ LD (sz + 1) (gad g sz (dd tp Tn n) a b) M' | .inr e => r = some (vI 0) ∧ M'.1 1 1 = Int32.ofNat e) := by
  unfold pSL
  have hdl := dd_le (tp := tp) (Tn := Tn) (n := n)
  rw [e89, sp90 hs h, cIn_s]
  by_cases d5 : dd tp Tn n = 5
  · simp only [d5, if_true]
    rw [ic_true]
    exact Hm_mono (sp45c (e := 1) rfl h) (fun r M' z => ⟨TV_SW z.2.2, z.1, z.2.1⟩)
  · simp only [d5, if_false]
    rw [ic_f (by rw [i_em1 (by omega)]; exact id), hl.1, show (40 : Int32) = Int32.ofNat 40 from rfl, i_lt (by omega) (by omega)]
    by_cases hz : 40 ≤ sz
    · simp only [hz, if_true]
      rw [ic_f (by omega)]
      exact Hm_mono (sp45c (e := 5) rfl h) (fun r M' z => ⟨TV_SW z.2.2, z.1, z.2.1⟩)
    · simp only [hz, if_false]
      rw [ic_t (by omega)]
      refine Hm_cVv (sp11n hs h) (fun M1 h1 => ?_)
      have r56 : M1.1 56 = M.1 56 := h1.2.row (fun j => by unfold TV; omega)
      have r57 : M1.1 57 = M.1 57 := h1.2.row (fun j => by unfold TV; omega)
      have r58 : M1.1 58 = M.1 58 := h1.2.row (fun j => by unfold TV; omega)
      have r59 : M1.1 59 = M.1 59 := h1.2.row (fun j => by unfold TV; omega)
      have s91 := sp91 (d := d) (sz := sz) hs (show dd tp Tn n < 5 by omega) h1.1 (hR.fr h1.2 (fun c j a b => by unfold TV; omega)) (by rw [r56]; exact hl.1) (by omega)
      cases hp : pNm tp Tn c nm (dd tp Tn n) (n + 1) with
      | inr e =>
        simp only [hp] at s91
        simp only []
        refine Hm_cIv (v := 0) (P := fun M' => Fr SW M1 M' ∧ M'.1 1 1 = Int32.ofNat e) (Hm_mono s91 (fun r M' z => ⟨z.2.2.2.2.1, z.1, z.2.2.2.2.2⟩)) (fun M2 h2 => ?_)
        rw [ic_t rfl]
        exact Hm_some ⟨(TV_SW h1.2).tr h2.1, rfl, h2.2⟩
      | inl q =>
        obtain ⟨m, a, b⟩ := q
        simp only [hp] at s91
        simp only []
        refine Hm_cIv (v := 1) (P := fun M' => Fr SW M1 M' ∧ M'.1 56 = M1.1 56 ∧ M'.1 57 = M1.1 57 ∧ (∀ i, i ≠ sz → M'.1 58 i = M1.1 58 i ∧ M'.1 59 i = M1.1 59 i) ∧ TA tp Tn m M' ∧ (dd tp Tn n ≠ 4 → M'.1 58 sz = Int32.ofNat a) ∧ (dd tp Tn n < 2 → M'.1 59 sz = Int32.ofNat b)) (Hm_mono s91 (fun r M' z => ⟨z.2.2.2.2.1, z.1, z.2.1, z.2.2.1, z.2.2.2.1, z.2.2.2.2.2⟩)) (fun M2 h2 => ?_)
        obtain ⟨f2, q56, q57, qo, t2, qa, qb⟩ := h2
        rw [ic_f (by decide)]
        by_cases hy : isSN tp Tn m 59 = true
        · simp only [hy, if_true]
          refine Hm_cIv (sp54y (c := 59) rfl hs (by omega) t2 hy) (fun M3 h3 => ?_)
          have s56 : M3.1 56 = M2.1 56 := h3.2.row (fun j => by unfold TV; omega)
          have s57 : M3.1 57 = M2.1 57 := h3.2.row (fun j => by unfold TV; omega)
          have s58 : M3.1 58 = M2.1 58 := h3.2.row (fun j => by unfold TV; omega)
          have s59 : M3.1 59 = M2.1 59 := h3.2.row (fun j => by unfold TV; omega)
          have z3 : M3.1 56 3 = Int32.ofNat sz := by rw [s56, q56, r56]; exact hl.1
          rw [ic_f (by decide), z3, ck (show sz < 40 by omega) (by omega), i_nat (by omega), sI_ne (by omega), z3, i_addl]
          have f4 : Fr (fun c j => (c = 57 ∧ j = sz) ∨ (c = 56 ∧ j = 3)) M3 (sI (sI M3 (56 + 1) sz (Int32.ofNat (dd tp Tn n))) 56 3 (Int32.ofNat (sz + 1))) := (Fr.rf.sI (by omega)).sI (by omega)
          refine Hm_some ⟨(((TV_SW h1.2).tr f2).tr (TV_SW h3.2)).tr (f4.up (fun c j z => by unfold SW; omega)), rfl, h3.1.fr f4 (fun c j z => by omega), sI_eq, fun i hi => ?_⟩
          by_cases y : i = sz
          · subst y
            rw [gad_0.1, gad_0.2.1, gad_0.2.2]
            refine ⟨by rw [sI_ne (by omega), sI_eq], fun hh => ?_, fun hh => ?_⟩
            · rw [f4.i (by omega), s58]; exact qa hh
            · rw [f4.i (by omega), s59]; exact qb hh
          · rw [gad_n y, gad_n y, gad_n y, f4.i (by omega), f4.i (by omega), f4.i (by omega), s57, s58, s59, q57, (qo i y).1, (qo i y).2, r57, r58, r59]
            exact hl.2 i (by omega)
        · simp only [nf hy]
          refine Hm_cIv (v := 0) (P := fun M' => Fr TV M2 M' ∧ FC tp Tn 1 m M') (Hm_mono (sp54n (c := 59) rfl hs (by omega) t2 (nf hy)) (fun r M' z => ⟨z.1, z.2.2, z.2.1⟩)) (fun M3 h3 => ?_)
          rw [ic_t rfl]
          exact Hm_some ⟨((TV_SW h1.2).tr f2).tr (TV_SW h3.1), rfl, h3.2⟩
/-- a session is read -/
theorem sp88 (hs : SG tp Tn) (hT : TC Tn tp M) (hR : RLs c nm M) : Hm (evD (d + 12) 88 [vR 5 0 56, vR 7 0 1, vR 9 0 3] M) (fun r M' => Fr SW M M' ∧ match pS tp Tn c nm 42 0 0 (fun _ _ => 0) with | .inl (sz, g) => r = some (vI 0) ∧ LD sz g M' ∧ sz ≤ 40 | .inr e => r = some (vI (Int32.ofNat e)) ∧ 1 ≤ e ∧ e ≤ 16005) := by
  have h1000 := hs.1
  rw [e88, e86, cVd_s]
  have f0 : Fr SW M (sI M 56 3 0) := Fr.rf.sI (by unfold SW; omega)
  refine Hm_cVv (sp10 hs ⟨by rw [sI_ne (by omega)]; exact hT.1, fun i hi => by rw [sI_ne (by omega)]; exact hT.2 i hi⟩) (fun M1 h1 => ?_)
  rw [lp0_eq]
  refine lp_for (d := d + 11) (x := 88) (pc := 10) 41 1 0 (by omega) (fun i lv M2 => lv = [some (vR 5 0 56), some (vR 7 0 1), some (vR 9 0 3), some (vI (Int32.ofNat i))] ∧ i ≤ 40 ∧ Fr SW M M2 ∧ ∃ n g, TA tp Tn n M2 ∧ LD i g M2 ∧ pS tp Tn c nm 42 0 0 (fun _ _ => 0) = pS tp Tn c nm (42 - i) n i g) ?_ ?_ 41 0 (by omega) 20000 _ _ (by omega) ⟨rfl, by omega, f0.tr (TV_SW h1.2), 0, _, h1.1, ⟨(h1.2.i (by unfold TV; omega)).trans sI_eq, fun i hi => by omega⟩, rfl⟩
  · rintro i hi G lv M2 - ⟨rfl, h40, f2, n, g, t2, l2, ep⟩ z
    rw [ep]
    obtain ⟨f, hf⟩ : ∃ f, 42 - i = f + 1 := ⟨41 - i, by omega⟩
    rw [hf] at ep ⊢
    have es : pS tp Tn c nm (f + 1) n i g = if kS tp Tn n = 0 then .inl (i, g) else match pSL tp Tn c nm n i with
      | .inr e => .inr e
      | .inl (m, a, b) => pS tp Tn c nm f m (i + 1) (gad g i (dd tp Tn n) a b) := rfl
    rw [es] at ep ⊢
    rw [e88_10, show (40 : Int32) = Int32.ofNat 40 from rfl, i_lt (by omega) (by omega), ic_f (by omega), sp33 t2, cIn_s]
    by_cases k0 : kS tp Tn n = 0
    · simp only [k0, if_true, decide_true]
      rw [ic_f (by decide)]
      exact Hm_some ⟨f2, rfl, l2, h40⟩
    · simp only [k0, if_false, decide_false] at ep ⊢
      rw [ic_t (by decide)]
      have s89 := sp89 (d := d + 1) hs t2 (hR.fr f2 (fun c j a b => by unfold SW TV; omega)) l2 h40
      cases hp : pSL tp Tn c nm n i with
      | inr e =>
        simp only [hp] at s89 ⊢
        refine Hm_cIv (v := 0) (P := fun M' => Fr SW M2 M' ∧ M'.1 1 1 = Int32.ofNat e) (Hm_mono s89 (fun r M' z => ⟨z.2.1, z.1, z.2.2⟩)) (fun M3 h3 => ?_)
        rw [ic_t rfl, h3.2]
        refine Hm_some ⟨f2.tr h3.1, rfl, ?_⟩
        -- a fault is at least 1
        have nO : ∀ k m (q : Nat → List Nat), namO tp Tn k m q ≤ 2 := fun k m q => by unfold namO; split; split <;> omega; omega
        have : ∃ x k, 1 ≤ x ∧ x ≤ 5 ∧ e = flt tp Tn x k := by
          unfold pSL at hp
          split at hp
          · exact ⟨1, n, by omega, by omega, (Sum.inr.inj hp).symm⟩
          · split at hp
            · exact ⟨5, n, by omega, by omega, (Sum.inr.inj hp).symm⟩
            · cases hq : pNm tp Tn c nm (dd tp Tn n) (n + 1) with
              | inr e' =>
                rw [hq] at hp
                have hp := Sum.inr.inj hp
                unfold pNm at hq
                split at hq
                · simp at hq
                · split at hq
                  · split at hq
                    · simp at hq
                    · split at hq
                      · simp at hq
                      · rename_i h2
                        have := nO (n + 1 + 1) (c (rq2 (dd tp Tn n))) (nm (rq2 (dd tp Tn n)))
                        exact ⟨_, n + 1 + 1, by omega, by omega, hp.symm.trans (Sum.inr.inj hq).symm⟩
                  · rename_i h2
                    have := nO (n + 1) (c (rq1 (dd tp Tn n))) (nm (rq1 (dd tp Tn n)))
                    exact ⟨_, n + 1, by omega, by omega, hp.symm.trans (Sum.inr.inj hq).symm⟩
              | inl q =>
                obtain ⟨m, a, b⟩ := q
                rw [hq] at hp
                simp only [] at hp
                split at hp
                · simp at hp
                · exact ⟨1, m, by omega, by omega, (Sum.inr.inj hp).symm⟩
        obtain ⟨x, k, x1, x5, rfl⟩ := this
        exact ⟨flt_pos x1, flt_lt h1000 x5⟩
      | inl q =>
        obtain ⟨m, a, b⟩ := q
        have hlt : i < 40 := by
          unfold pSL at hp
          split at hp
          · simp at hp
          · split at hp
            · simp at hp
            · omega
        simp only [hp] at s89 ep ⊢
        refine Hm_cIv (v := 1) (P := fun M' => Fr SW M2 M' ∧ TA tp Tn m M' ∧ LD (i + 1) (gad g i (dd tp Tn n) a b) M') (Hm_mono s89 (fun r M' z => ⟨z.2.1, z.1, z.2.2⟩)) (fun M3 h3 => ?_)
        rw [ic_f (by decide), i_addl]
        rw [← ep]
        exact z _ _ _ (by omega) ⟨rfl, by omega, f2.tr h3.1, m, _, h3.2.1, h3.2.2, by rw [ep, show 42 - (i + 1) = f by omega]⟩
  · rintro G lv M2 - ⟨rfl, h40, f2, n, g, t2, l2, ep⟩
    omega
end CSESS2
