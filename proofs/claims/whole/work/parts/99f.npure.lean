/-! THE WORLD IN ITS MAKING: what the first yard is -/
section NPURE
variable {M M' M1 M2 : Mem} {Z Z' : Zs} {Y : YT} {n i : Nat}
def stdA : Mem := (fun c j => if c = 259 then stdY (j - 110) else 0, fun _ _ => 0, fun _ _ => 0)
theorem DRf0 : DRf D0 0 stdA := by
  have w : ∀ j, stdA.1 259 j = stdY (j - 110) := fun j => rfl
  have z : ∀ j, 110 ≤ j → j < 220 → j ≠ 114 → j ≠ 202 → j ≠ 116 → j ≠ 117 → stdA.1 259 j = 0 := fun j x y a b c d => by
    rw [w j]; unfold stdY
    rw [if_neg (by omega), if_neg (by omega), if_neg (by omega)]
  have e253 : ∀ j, stdA.1 253 j = 0 := fun j => rfl
  refine ⟨⟨fun q hq => z _ (by omega) (by omega) (by omega) (by omega) (by omega) (by omega), z _ (by omega) (by omega) (by omega) (by omega) (by omega) (by omega), z _ (by omega) (by omega) (by omega) (by omega) (by omega) (by omega)⟩, fun c q hc i hi => by have : i < 0 := hi; omega, fun a b ha hb => z _ (by omega) (by omega) (by omega) (by omega) (by omega) (by omega), ⟨fun _ => ⟨w 114, w 202⟩, fun y => absurd rfl y⟩, fun k hk => ?_, ⟨w 116, w 117⟩, ?_, ⟨by show 0 + 0 + 0 ≤ 18; omega, .inr ⟨by decide, ?_, fun k hk => by have : k < 0 := hk; omega, fun q i hq hi => by have : i < 0 := hi; omega⟩⟩⟩
  · rw [e253, bt_0]
    have : k = 0 ∨ k = 1 ∨ k = 2 ∨ k = 3 := by omega
    rcases this with rfl | rfl | rfl | rfl <;> rfl
  · exact e253 _
  · exact e253 _
theorem XF.yd (h : XF M) : YD M.1 D0 := by
  obtain ⟨-, ⟨h1, h2, h3, h4, h5, h6, h7, h8, h9⟩, -⟩ := h
  exact ⟨⟨h1, h2, h3, h5, h6, h7⟩, fun c q hc i hi => by have : i < 0 := hi; omega, fun a b ha hb => by rw [h4 a ha, bt_0]; rfl, fun i hi => by have : i < 0 := hi; omega, ⟨h8.2.1, h8.2.2⟩, ⟨h9.2.1, h9.2.2⟩⟩
theorem XF.yr (h : XF M) (w : ∀ j, j < 110 → M'.1 259 j = stdY j) : YR M.1 M' := by
  refine YD.R (M := stdA) h.yd D0_1 D0_2 D0_3 DRf0 (by omega) (fun j hj => ?_) (fun j hj => by omega)
  rw [w j hj]
  show _ = stdY (110 + j - 110)
  rw [show 110 + j - 110 = j by omega]
def WJ (i : Nat) (M M' : Mem) : Prop := (∀ b, b < i → M'.2.1 258 b = wtab.getD b 0) ∧ Fr (fun c _ => c = 258) M M'
theorem WJ.start : WJ 0 M M := ⟨fun b hb => by omega, Fr.rf⟩
theorem WJ.put {x : Int64} (h : WJ i M M') (e : M1 = sJ M' 258 i x) (hx : x = wtab.getD i 0) : WJ (i + 1) M M1 := by
  subst e
  refine ⟨fun b hb => ?_, h.2.sJ rfl⟩
  by_cases y : b = i
  · subst y; rw [sJ_eq]; exact hx
  · rw [sJ_ne (.inr y)]; exact h.1 b (by omega)
theorem Fz.wj (h : Fz n M Z) (w : WJ i M M') (hn : 258 < n) : Fz n M' Z := fun a ha b => by
  rw [w.2.i (by omega), w.2.j (by omega)]; exact h a ha b
theorem m_in {c : Nat} (h1 : 253 ≤ c) (h2 : c ≤ 277) : c ∈ (List.range 25).map (· + 253) := List.mem_map.mpr ⟨c - 253, List.mem_range.mpr (by omega), by show c - 253 + 253 = c; omega⟩
theorem inv_of {P K : Nat → YT} {ln : Nat → Nat → Int32} {tp : Nat → Int32} (hX : XF M) (fM : Fr (fun c _ => 253 ≤ c ∧ c ≤ 277) M M') (hr : RI M.1 (staS M.1) 0 P 0 K 0 ln 0 tp D0.nm M') : Inv 0 M' := by
  obtain ⟨yn, yl, yg⟩ := hX.yd.ok D0_1 D0_2
  obtain ⟨nA', nB', nC', nW'⟩ := hX.yd.sz D0_1
  have wr : ∀ c, c ≤ 252 → M'.1 c = M.1 c := fun c hc => fM.row (fun j => by omega)
  have ns0 : ∀ q, nsz M.1 q = 0 ∨ 3 ≤ q := fun q => by
    by_cases h : q < 3
    · left; unfold nsz; rw [nA', nB', nC']
      have : q = 0 ∨ q = 1 ∨ q = 2 := by omega
      rcases this with rfl | rfl | rfl <;> rfl
    · right; omega
  have z0 := hX.1
  refine ⟨M.1, staS M.1, 0, P, 0, K, 0, ln, 0, tp, D0.nm, ⟨⟨yn, yl, yg⟩, ⟨(SI_sta yn yg).le (by omega), by omega⟩, ⟨by omega, fun i hi => by omega⟩, fun m hm hb => by rw [bt_0] at hb; exact absurd hb (by decide), ⟨by omega, fun i hi => by omega⟩, ⟨by omega, fun i hi => by omega⟩, fun q i hq hi => ?_, fun q i q' i' hq hi hq' hi' he => ?_⟩, ⟨⟨wr 3 (by omega), wr 4 (by omega), wr 6 (by omega), wr 8 (by omega), wr 10 (by omega), wr 11 (by omega), wr 12 (by omega), wr 13 (by omega), wr 14 (by omega), wr 15 (by omega), wr 16 (by omega), wr 17 (by omega), wr 18 (by omega), wr 19 (by omega), wr 20 (by omega), wr 21 (by omega), wr 23 (by omega), wr 24 (by omega)⟩, hX.2.2.1.fr fM (fun c j a b z => by omega), ⟨?_, fun i hi => ⟨i, hi, ?_⟩, fun i i' a1 a2 a3 => ?_, fun i hi => by omega⟩, ⟨?_, fun m hm => ?_, fun m hm hb => by rw [bt_0] at hb; exact absurd hb (by decide)⟩, ⟨?_, fun i hi => by omega⟩, ⟨?_, fun i hi => by omega⟩, ⟨fun i hi => ?_, fun i hi => ?_, fun i hi => ?_⟩⟩, hr⟩
  · rcases ns0 q with h | h
    · rw [h] at hi; omega
    · omega
  · rcases ns0 q with h | h
    · rw [h] at hi; omega
    · omega
  · rw [wr 0 (by omega)]; exact z0 0 (by omega) 8
  · rw [fM.r (by omega)]; exact hX.2.2.2.2.1 i hi
  · rw [fM.r (by omega), fM.r (by omega), hX.2.2.2.2.1 i a1, hX.2.2.2.2.1 i' a2]; omega
  · rw [wr 0 (by omega)]; exact z0 0 (by omega) 10
  · rw [fM.r (by omega)]; exact hX.2.2.2.2.2.1 m hm
  · rw [wr 52 (by omega)]; exact z0 52 (by omega) 3
  · rw [wr 1 (by omega)]; exact z0 1 (by omega) 0
  · rw [nB'] at hi; have : i < 0 := hi; omega
  · rw [nC'] at hi; have : i < 0 := hi; omega
  · rw [nA'] at hi; have : i < 0 := hi; omega
theorem ri_of {P K : Nat → YT} {ln : Nat → Nat → Int32} {tp : Nat → Int32} {Mw : Mem} (hX : XF M) (hm : Mz 253 M) (w : WJ 33 M Mw) (f1 : Fr (fun c j => c = 259 ∧ 0 ≤ j ∧ j < 0 + 110) Mw M1) (yr : YR M.1 M1) (sr : SR M.1 (staS M.1) 0 M2) (h2 : M2.1 266 0 = 0) (h3 : M2.1 253 26 = 0) (h4 : ∀ m, m < 4 → M2.1 270 m = 0) (f2 : Fr BGr M1 M2) : RI M.1 (staS M.1) 0 P 0 K 0 ln 0 tp D0.nm M2 := by
  obtain ⟨nA', nB', nC', nW'⟩ := hX.yd.sz D0_1
  have ns0 : ∀ q, q < 3 → nsz M.1 q = 0 := fun q h => by
    unfold nsz; rw [nA', nB', nC']
    have : q = 0 ∨ q = 1 ∨ q = 2 := by omega
    rcases this with rfl | rfl | rfl <;> rfl
  have k : ∀ j, j ≠ 26 → M2.1 253 j = 0 := fun j hj => by
    rw [f2.i (fun z => by unfold BGr at z; omega), f1.i (by omega), w.2.i (by omega)]; exact (hm 253 (by omega) j).1
  refine ⟨yr.fr f2 (fun c j a b z => by unfold BGr at z; omega), sr, ⟨h3, fun i hi => by omega⟩, fun m hm' => ⟨by rw [bt_0]; exact h4 m hm', fun hb => by rw [bt_0] at hb; exact absurd hb (by decide)⟩, ⟨h2, fun i hi => by omega⟩, ⟨k 2 (by omega), fun i hi => by omega⟩, ⟨0, by omega, k 18 (by omega), fun k hk => by omega, fun q i hq hi => by rw [ns0 q hq] at hi; omega⟩, fun i hi => ?_⟩
  rw [f2.j (fun z => by unfold BGr at z; omega), f1.j (by omega)]
  exact w.1 i hi
theorem md_sel {x : Nat} {md : MD} (hx : mdT x = some md) (h : md.2.2.2.2.2 ≠ 99) : Cond.instanceMethod md.1 ∈ lw_g ∧ Cond.selects md.1.cls md.1 md.1 ∈ lw_g := by
  rcases (md_all x md hx).2.2.2.2.2.2 with z | z
  · exact absurd z.1 h
  · exact ⟨z.2.1, z.2.2.1⟩
end NPURE
