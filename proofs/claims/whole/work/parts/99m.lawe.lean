/-! THE LAW'S ENTRY: what the tables and the given say of the start (gen99m.py) -/
section LAWE
variable {s : State} {args : Array Value} {A : Nat → Prop}
theorem tb_t1 {x : Cond} (h : x ∈ tables_1_1) : x ∈ lw_tbl := List.mem_append_right _ (show x ∈ tables_1 from List.mem_append_left _ h)
theorem tb_t2 {x : Cond} (h : x ∈ tables_1_2) : x ∈ lw_tbl := List.mem_append_right _ (show x ∈ tables_1 from List.mem_append_right _ (List.mem_append_left _ h))
theorem tb_t3 {x : Cond} (h : x ∈ tables_1_3) : x ∈ lw_tbl := List.mem_append_right _ (show x ∈ tables_1 from List.mem_append_right _ (List.mem_append_right _ (List.mem_append_left _ h)))
theorem tb_t4 {x : Cond} (h : x ∈ tables_1_4) : x ∈ lw_tbl := List.mem_append_right _ (show x ∈ tables_1 from List.mem_append_right _ (List.mem_append_right _ (List.mem_append_right _ (List.mem_append_left _ h))))
theorem tb_t5 {x : Cond} (h : x ∈ tables_1_5) : x ∈ lw_tbl := List.mem_append_right _ (show x ∈ tables_1 from List.mem_append_right _ (List.mem_append_right _ (List.mem_append_right _ (List.mem_append_right _ (List.mem_append_left _ h)))))
theorem tb_t6 {x : Cond} (h : x ∈ tables_1_6) : x ∈ lw_tbl := List.mem_append_right _ (show x ∈ tables_1 from List.mem_append_right _ (List.mem_append_right _ (List.mem_append_right _ (List.mem_append_right _ (List.mem_append_right _ (List.mem_append_left _ h))))))
theorem tb_t7 {x : Cond} (h : x ∈ tables_1_7) : x ∈ lw_tbl := List.mem_append_right _ (show x ∈ tables_1 from List.mem_append_right _ (List.mem_append_right _ (List.mem_append_right _ (List.mem_append_right _ (List.mem_append_right _ (List.mem_append_right _ (List.mem_append_left _ h)))))))
theorem tb_t8 {x : Cond} (h : x ∈ tables_1_8) : x ∈ lw_tbl := List.mem_append_right _ (show x ∈ tables_1 from List.mem_append_right _ (List.mem_append_right _ (List.mem_append_right _ (List.mem_append_right _ (List.mem_append_right _ (List.mem_append_right _ (List.mem_append_right _ (List.mem_append_left _ h))))))))
theorem tb_t9 {x : Cond} (h : x ∈ tables_1_9) : x ∈ lw_tbl := List.mem_append_right _ (show x ∈ tables_1 from List.mem_append_right _ (List.mem_append_right _ (List.mem_append_right _ (List.mem_append_right _ (List.mem_append_right _ (List.mem_append_right _ (List.mem_append_right _ (List.mem_append_right _ (h)))))))))
theorem k_start (hts : ∀ w ∈ lw_tbl, w.before args s = true) : ∃ (dC : Nat → ClassId) (dI : Nat → Nat → Nat) (cA : Nat → ClassId), va_K (dC, dI) vwCl (tysOf cA) s := by
  have hg : ∀ w ∈ lw_g, w.before args s = true := fun w hw => hts w (List.mem_filter.mp hw).1
  have hin : ∀ t, t < 13 → Cond.instantiable (clR t) (clN t) ∈ lw_g := fun t ht => by
    match t, ht with
    | 0, _ => exact (in_t2 (List.mem_of_getElem? (i := 198) rfl) rfl)
    | 1, _ => exact (in_t1 (List.mem_of_getElem? (i := 105) rfl) rfl)
    | 2, _ => exact (in_t2 (List.mem_of_getElem? (i := 10) rfl) rfl)
    | 3, _ => exact (in_t2 (List.mem_of_getElem? (i := 142) rfl) rfl)
    | 4, _ => exact (in_t1 (List.mem_of_getElem? (i := 84) rfl) rfl)
    | 5, _ => exact (in_t2 (List.mem_of_getElem? (i := 48) rfl) rfl)
    | 6, _ => exact (in_t2 (List.mem_of_getElem? (i := 72) rfl) rfl)
    | 7, _ => exact (in_t1 (List.mem_of_getElem? (i := 36) rfl) rfl)
    | 8, _ => exact (in_t2 (List.mem_of_getElem? (i := 227) rfl) rfl)
    | 9, _ => exact (in_t1 (List.mem_of_getElem? (i := 78) rfl) rfl)
    | 10, _ => exact (in_t2 (List.mem_of_getElem? (i := 4) rfl) rfl)
    | 11, _ => exact (in_t1 (List.mem_of_getElem? (i := 28) rfl) rfl)
    | 12, _ => exact (in_t7 (List.mem_of_getElem? (i := 48) rfl) rfl)
    | t + 13, h => exact absurd h (by omega)
  have h : ∀ t, ∃ q : ClassId × (Nat → Nat), t < 13 → u_Kn s (clR t) (clT t) (clN t) q.1 q.2 := fun t => by
    by_cases ht : t < 13
    · obtain ⟨x, y, hxy⟩ := u_known (ws := lw_g) (N := clN t) (n := clN t) hg (cl_ing t ht) (hg _ (hin t ht))
      exact ⟨(x, y), fun _ => hxy⟩
    · exact ⟨(0, fun _ => 0), fun z => absurd z ht⟩
  obtain ⟨f, hf⟩ := Classical.axiomOfChoice h
  obtain ⟨c1, k1, m1, a1, b1, d1⟩ := Cond.arrayClass_spec (hts _ (tb_t1 (List.mem_of_getElem? (i := 124) rfl)))
  obtain ⟨c2, k2, m2, a2, b2v, d2⟩ := Cond.arrayClass_spec (hts _ (tb_t1 (List.mem_of_getElem? (i := 76) rfl)))
  obtain ⟨c3, k3, m3, a3, b3, d3⟩ := Cond.arrayClass_spec (hts _ (tb_t7 (List.mem_of_getElem? (i := 229) rfl)))
  obtain ⟨c4, k4, m4, a4, b4, d4⟩ := Cond.arrayClass_spec (hts _ (tb_t1 (List.mem_of_getElem? (i := 103) rfl)))
  obtain ⟨m5, c5, k5, a5', z5, b5, d5, a5⟩ := Cond.arrayOver_spec (n := "IceParliament$State") (hts _ (tb_t2 (List.mem_of_getElem? (i := 140) rfl)))
  obtain ⟨m6, c6, k6, a6', b6, d6, a6⟩ := Cond.arrayOver_specA (t := .int) (hts _ (tb_t2 (List.mem_of_getElem? (i := 148) rfl)))
  refine ⟨fun t => (f t).1, fun t => (f t).2, fun t => if t = 20 then c1 else if t = 21 then c2 else if t = 22 then c3 else if t = 23 then c4 else if t = 24 then c5 else c6, fun c q hq => ?_, fun k q hk => ?_⟩
  · have hc : c < 13 := by
      have := (List.getElem?_eq_some_iff.mp hq).1
      exact this
    have := (cl_at c hc).symm.trans hq
    cases this
    exact hf c hc
  · match k, hk with
    | 0, hk => cases hk; exact ⟨fun N z => ⟨(fun k h => by cases h), k1, b1, m1, d1⟩, a1⟩
    | 1, hk => cases hk; exact ⟨fun N z => ⟨(fun k h => by cases h), k2, b2v, m2, d2⟩, a2⟩
    | 2, hk => cases hk; exact ⟨fun N z => ⟨(fun k h => by cases h), k3, b3, m3, d3⟩, a3⟩
    | 3, hk => cases hk; exact ⟨fun N z => ⟨(fun k h => by cases h), k4, b4, m4, d4⟩, a4⟩
    | 4, hk => cases hk; exact ⟨fun N z => ⟨(fun k h => by cases h), k5, b5, m5, d5⟩, k5, m5, b5, d5, a5', a5⟩
    | 5, hk => cases hk; exact ⟨fun N z => ⟨(fun k h => by cases h), k6, b6, m6, d6⟩, a6⟩
    | k + 6, hk => simp [tysOf] at hk
theorem nov_start (hts : ∀ w ∈ lw_tbl, w.before args s = true) : NOv s := by
  refine ⟨va_AO.of (hts _ (tb_t2 (List.mem_of_getElem? (i := 140) rfl))), (hts (Cond.arrayOver (.array .int)) (tb_t2 (List.mem_of_getElem? (i := 148) rfl)) : _), fun e he => ?_⟩
  rcases (show e = ("IceParliament", 11, "IceParliament$Tape") ∨ e = ("IceParliament$Yard", 11, "IceParliament$Roll") ∨ e = ("IceParliament$Yard", 57, "IceParliament$Law") ∨ e = ("IceParliament", 37, "IceParliament$Session") from by simpa using he) with rfl | rfl | rfl | rfl
  · exact va_Nw.of rfl (hts _ (tb_t1 (List.mem_of_getElem? (i := 37) rfl)))
  · exact va_Nw.of rfl (hts _ (tb_t1 (List.mem_of_getElem? (i := 85) rfl)))
  · exact va_Nw.of rfl (hts _ (tb_t1 (List.mem_of_getElem? (i := 106) rfl)))
  · exact va_Nw.of rfl (hts _ (tb_t2 (List.mem_of_getElem? (i := 49) rfl)))
theorem nest_start (hts : ∀ w ∈ lw_tbl, w.before args s = true) : ∀ e ∈ nestW, va_Nw (.methodLinkNest e.1 e.2 y_has "IceParliament") s := fun e he => by
  rcases (show e = ("IceParliament$YardReader", 209) ∨ e = ("IceParliament$State", 69) ∨ e = ("IceParliament$Yard", 134) ∨ e = ("IceParliament$Planner", 118) from by simpa [nestW] using he) with rfl | rfl | rfl | rfl
  · exact va_Nw.of rfl (hts _ (tb_t4 (List.mem_of_getElem? (i := 92) rfl)))
  · exact va_Nw.of rfl (hts _ (tb_t5 (List.mem_of_getElem? (i := 30) rfl)))
  · exact va_Nw.of rfl (hts _ (tb_t5 (List.mem_of_getElem? (i := 100) rfl)))
  · exact va_Nw.of rfl (hts _ (tb_t6 (List.mem_of_getElem? (i := 52) rfl)))
end LAWE
