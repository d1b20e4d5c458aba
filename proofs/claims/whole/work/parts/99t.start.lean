/-! THE LAW FROM ITS ENTRY TO ITS END -/
section STARTS
theorem at_start {p : Program} {s : State} {m : MethodId} {meth : Method} {c : Code} {b L : Nat} {xs : Nat → Int32} (hL : L ≤ 3584) (C0 : lw_At p s m meth c b L xs) : ∃ (dC : Nat → ClassId) (dI : Nat → Nat → Nat) (cA : Nat → ClassId) (ρ : Nat → Nat), CWl "IceParliamentLaw" code 7 p s m #[Value.ref b] c dC dI cA ρ s.heap.size ∧ LZ p s m meth c dC dI cA ρ b L xs ∧ XN s ∧ XZ (AB s.heap.size) s s.heap := by
  obtain ⟨hx, hb, hr, hml, hown, hts, hX, hbl, hlk, hg⟩ := C0
  have hA : ∀ a : Nat, a < s.heap.size → ¬ AB s.heap.size a := fun a h => Nat.not_le.mpr h
  obtain ⟨dC, dI, cA, hK⟩ := k_start hts
  obtain ⟨ρ, hρ, hF, hW⟩ := sf_start hts hg
  have hfl := flat_of_before _ hg
  have hw : ∀ w ∈ lw_g, w.before #[Value.ref b] s = true := fun w h => hts w (List.mem_filter.mp h).1
  have hu := vx_Zqof (A := AB s.heap.size) (hts (.laysStatic "java/lang/Throwable" "UNASSIGNED_STACK" "[Ljava/lang/StackTraceElement;") (tb_t6 (List.mem_of_getElem? (i := 237) rfl))) (hts _ (tb_t1 (List.mem_of_getElem? (i := 23) rfl))) (hfl _ (by decide +kernel)) hA
  have hs := vx_Zqof (A := AB s.heap.size) (hts (.laysStatic "java/lang/Throwable" "SUPPRESSED_SENTINEL" "Ljava/util/List;") (tb_t6 (List.mem_of_getElem? (i := 239) rfl))) (hts _ (tb_t1 (List.mem_of_getElem? (i := 23) rfl))) (hfl _ (by decide +kernel)) hA
  have hxn : XN s := ⟨va_Nw.of rfl (hts _ (tb_t6 (List.mem_of_getElem? (i := 212) rfl))), va_Nw.of rfl (hts _ (tb_t6 (List.mem_of_getElem? (i := 213) rfl))), va_Nw.of rfl (hts _ (tb_t6 (List.mem_of_getElem? (i := 215) rfl))), va_Nw.of rfl (hts _ (tb_t6 (List.mem_of_getElem? (i := 217) rfl)))⟩
  exact ⟨dC, dI, cA, ρ, ⟨⟨hx, hb, hml, hown, hw⟩, hK, hF, hW, nov_start hts, hρ, Nat.le_refl _⟩, ⟨⟨hx, hb, hml, hown, hw, hr, hlk⟩, ⟨hK, hF, hW, fun q h => h⟩, hρ, hX, hbl, hL⟩, hxn, ⟨hu, hs⟩⟩
theorem whole_start {p : Program} {e : Env} {s : State} {m : MethodId} {below : List Frame} {meth : Method} {c : Code} (l : Launch) (htr : l.stackTraces = false) {b L : Nat} {xs : Nat → Int32} (hL : L ≤ 3584) (C0 : lw_At p s m meth c b L xs) : W p l e room_1 s m #[Value.ref b] below meth c s.heap [] 0 0 (lw_Z below #[Value.ref b] s) (entryFrame m ([Value.ref b] : List Value).toArray 7) := by
  obtain ⟨dC, dI, cA, ρ, cw, cx, hxn, hxz⟩ := at_start hL C0
  obtain ⟨hx, hb, hr, hml, hown, hts, hX, hbl, hlk, hg⟩ := C0
  have hl := lv_entry ([Value.ref b]) (n := 7) (Nat.le_of_ble_eq_true rfl)
  rw [lg_entry_eq]
  refine law_begin_open cw cx (c25 cx htr hxn hxz) (fun H locs ls hz => ?_) hl
  refine va_forget hz ?_
  exact lw_ret hx hb hr hlk (pc := 1169) (by decide +kernel)
end STARTS
