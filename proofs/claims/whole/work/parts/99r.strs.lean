/-! THE STRINGS at the law's entry, and all that stands there (gen99r.py) -/
section STRS
def stT (i : Nat) : Term := .string (strW.getD i ("", 0, "", 0)).1 (strW.getD i ("", 0, "", 0)).2.1
def stV (i : Nat) : Term := .field (stT i) "java/lang/String" "value" "[B"
def stN (i : Nat) : Nat := (strT.map List.length).getD i 0
def stB (i j : Nat) : Int32 := (strT.getD i []).getD j 0
/-- what the given says of the i-th text -/
def stC (i : Nat) : List Cond := .exactly (stT i) "java/lang/String" :: .eq (.field (stT i) "java/lang/String" "coder" "B") (.int 0) :: .arrayOf (stV i) .byte :: .eq (.length (stV i)) (.int (Int32.ofNat (stN i))) :: (List.range (stN i)).map (fun j => .eq (.elem (stV i) (.int (Int32.ofNat j))) (.int (stB i j)))
theorem st_flat : (flatC (Jvm.Cond.and given_1 narrow_1)).drop 24 = (List.range 35).flatMap stC := by decide +kernel
theorem st_of {args : Array Value} {s : State} (hg : (Jvm.Cond.and given_1 narrow_1).before args s = true) {i : Nat} (hi : i < 35) {w : Cond} (hw : w ∈ stC i) : w.before args s = true :=
  flat_of_before _ hg _ (List.mem_of_mem_drop (i := 24) (by rw [st_flat]; exact List.mem_flatMap.mpr ⟨i, List.mem_range.mpr hi, hw⟩))
theorem st_len : ∀ i, i < 35 → stN i < 2147483648 := by decide +kernel
theorem st_inj : ∀ i, i < 35 → ∀ j, j < 35 → stN i = stN j → (∀ k, k < stN i → stB i k = stB j k) → i = j := by decide +kernel
theorem st_W : ∀ e ∈ strW, e.2.2.2 < 35 ∧ strW.getD e.2.2.2 ("", 0, "", 0) = e := by decide +kernel
theorem str_start {args : Array Value} {s : State} {A : Nat → Prop} (hg : (Jvm.Cond.and given_1 narrow_1).before args s = true) (hA : ∀ a : Nat, a < s.heap.size → ¬ A a) : ∃ adK adV : Nat → Nat, vk_S 35 (strT.map List.length) strT adK adV A s s.heap ∧ ∀ i : Nat, i < 35 → (stT i).eval args s none [] s = some (.ref (adK i)) := by
  have h0 : ∀ i : Nat, ∃ q : Nat × Nat, i < 35 → (stT i).eval args s none [] s = some (.ref q.1) ∧ va_O "java/lang/String" q.1 A s s.heap ∧ va_OF "java/lang/String" "coder" "B" (.int 0) q.1 A s s.heap ∧ va_OF "java/lang/String" "value" "[B" (.ref q.2) q.1 A s s.heap ∧ va_T .byte q.2 (stN i) (fun j => .int (stB i j)) A s s.heap := by
    intro i
    by_cases hi : i < 35
    · have hex := st_of hg hi (w := .exactly (stT i) "java/lang/String") List.mem_cons_self
      have hco := st_of hg hi (w := .eq (.field (stT i) "java/lang/String" "coder" "B") (.int 0)) (List.mem_cons_of_mem _ List.mem_cons_self)
      have har := st_of hg hi (w := .arrayOf (stV i) .byte) (List.mem_cons_of_mem _ (List.mem_cons_of_mem _ List.mem_cons_self))
      have hle := st_of hg hi (w := .eq (.length (stV i)) (.int (Int32.ofNat (stN i)))) (List.mem_cons_of_mem _ (List.mem_cons_of_mem _ (List.mem_cons_of_mem _ List.mem_cons_self)))
      have hel : ∀ j, j < stN i → (Cond.eq (.elem (stV i) (.int (Int32.ofNat j))) (.int (stB i j))).before args s = true := fun j hj => st_of hg hi (List.mem_cons_of_mem _ (List.mem_cons_of_mem _ (List.mem_cons_of_mem _ (List.mem_cons_of_mem _ (List.mem_map.mpr ⟨j, List.mem_range.mpr hj, rfl⟩)))))
      obtain ⟨a, c, cA, kA, q1, q2, q3, q4, q5, q6, -⟩ := Cond.exactly_spec (args := args) (first := s) (o := none) (s := s) (idx := []) (t := stT i) (cls := "java/lang/String") hex
      obtain ⟨t, ht, hT⟩ := va_Tof (f := fun j => .int (stB i j)) (A := A) (st_len i hi) har (va_eqt hle) (fun j hj => va_eqt (hel j hj)) hA
      exact ⟨(a, t), fun _ => ⟨q1, ⟨cA, q3, q5, by rw [q6]; exact q2, hA a (Array.getElem?_eq_some_iff.mp q3).1⟩, vk_OFof q1 (va_eqt hco) hA, vk_OFof q1 ht hA, hT⟩⟩
    · exact ⟨(0, 0), fun h => absurd h hi⟩
  obtain ⟨ad, had⟩ := Classical.axiomOfChoice h0
  refine ⟨fun i => (ad i).1, fun i => (ad i).2, ⟨fun i hi => (had i hi).2, fun i j hi hj e => ?_⟩, fun i hi => (had i hi).1⟩
  have e : (ad i).1 = (ad j).1 := e
  have hv : (ad i).2 = (ad j).2 := by
    obtain ⟨cf, k, fi, f, cell, a1, a2, a3, a4, a5, -⟩ := (had i hi).2.2.2.1
    obtain ⟨cf', k', fi', f', cell', b1, b2', b3, b4, b5, -⟩ := (had j hj).2.2.2.1
    have h1 := Option.some.inj (a1.symm.trans b1)
    have h2 : f = f' := congrArg (fun z => z.2.2.2) h1
    rw [e] at a3
    have h3 := Option.some.inj (a3.symm.trans b3)
    rw [h2, h3] at a5
    exact Value.ref.inj (Option.some.inj (a5.symm.trans b5))
  obtain ⟨cell, a1, a2, a3, a4, a5, a6, -⟩ := (had i hi).2.2.2.2
  obtain ⟨cell', b1, b2', b3, b4, b5, b6, -⟩ := (had j hj).2.2.2.2
  rw [hv] at a1
  have hc := Option.some.inj (a1.symm.trans b1)
  subst hc
  have hn : stN i = stN j := by
    have := a5.symm.trans b5
    rwa [i_eq (st_len i hi) (st_len j hj)] at this
  refine st_inj i hi j hj hn (fun k hk => ?_)
  exact Value.int.inj (Option.some.inj ((a6 k hk).symm.trans (b6 k (by omega))))
theorem vkS_ext {N : Nat} {len : List Nat} {byt : List (List Int32)} {a v a' v' : Nat → Nat} {A : Nat → Prop} {U : State} {H : Heap} (h : vk_S N len byt a v A U H) (ha : ∀ i, i < N → a' i = a i) (hv : ∀ i, i < N → v' i = v i) : vk_S N len byt a' v' A U H :=
  ⟨fun i hi => by rw [ha i hi, hv i hi]; exact h.1 i hi, fun i j hi hj e => h.2 i j hi hj (by rw [← ha i hi, ← ha j hj]; exact e)⟩
theorem sr_start {args : Array Value} {s : State} (hts : ∀ w ∈ lw_tbl, w.before args s = true) : ∀ e ∈ strW, (Cond.stringRef e.1 e.2.1 e.2.2.1).before args s = true :=
  List.forall_mem_cons.mpr ⟨hts _ (tb_t3 (List.mem_of_getElem? (i := 101) rfl)), List.forall_mem_cons.mpr ⟨hts _ (tb_t3 (List.mem_of_getElem? (i := 196) rfl)), List.forall_mem_cons.mpr ⟨hts _ (tb_t4 (List.mem_of_getElem? (i := 7) rfl)), List.forall_mem_cons.mpr ⟨hts _ (tb_t4 (List.mem_of_getElem? (i := 21) rfl)), List.forall_mem_cons.mpr ⟨hts _ (tb_t4 (List.mem_of_getElem? (i := 43) rfl)), List.forall_mem_cons.mpr ⟨hts _ (tb_t4 (List.mem_of_getElem? (i := 52) rfl)), List.forall_mem_cons.mpr ⟨hts _ (tb_t4 (List.mem_of_getElem? (i := 53) rfl)), List.forall_mem_cons.mpr ⟨hts _ (tb_t4 (List.mem_of_getElem? (i := 54) rfl)), List.forall_mem_cons.mpr ⟨hts _ (tb_t4 (List.mem_of_getElem? (i := 55) rfl)), List.forall_mem_cons.mpr ⟨hts _ (tb_t4 (List.mem_of_getElem? (i := 64) rfl)), List.forall_mem_cons.mpr ⟨hts _ (tb_t4 (List.mem_of_getElem? (i := 65) rfl)), List.forall_mem_cons.mpr ⟨hts _ (tb_t4 (List.mem_of_getElem? (i := 66) rfl)), List.forall_mem_cons.mpr ⟨hts _ (tb_t4 (List.mem_of_getElem? (i := 67) rfl)), List.forall_mem_cons.mpr ⟨hts _ (tb_t4 (List.mem_of_getElem? (i := 68) rfl)), List.forall_mem_cons.mpr ⟨hts _ (tb_t4 (List.mem_of_getElem? (i := 69) rfl)), List.forall_mem_cons.mpr ⟨hts _ (tb_t4 (List.mem_of_getElem? (i := 70) rfl)), List.forall_mem_cons.mpr ⟨hts _ (tb_t4 (List.mem_of_getElem? (i := 71) rfl)), List.forall_mem_cons.mpr ⟨hts _ (tb_t4 (List.mem_of_getElem? (i := 82) rfl)), List.forall_mem_cons.mpr ⟨hts _ (tb_t4 (List.mem_of_getElem? (i := 99) rfl)), List.forall_mem_cons.mpr ⟨hts _ (tb_t4 (List.mem_of_getElem? (i := 113) rfl)), List.forall_mem_cons.mpr ⟨hts _ (tb_t4 (List.mem_of_getElem? (i := 118) rfl)), List.forall_mem_cons.mpr ⟨hts _ (tb_t4 (List.mem_of_getElem? (i := 130) rfl)), List.forall_mem_cons.mpr ⟨hts _ (tb_t4 (List.mem_of_getElem? (i := 146) rfl)), List.forall_mem_cons.mpr ⟨hts _ (tb_t4 (List.mem_of_getElem? (i := 147) rfl)), List.forall_mem_cons.mpr ⟨hts _ (tb_t4 (List.mem_of_getElem? (i := 148) rfl)), List.forall_mem_cons.mpr ⟨hts _ (tb_t4 (List.mem_of_getElem? (i := 149) rfl)), List.forall_mem_cons.mpr ⟨hts _ (tb_t4 (List.mem_of_getElem? (i := 150) rfl)), List.forall_mem_cons.mpr ⟨hts _ (tb_t4 (List.mem_of_getElem? (i := 171) rfl)), List.forall_mem_cons.mpr ⟨hts _ (tb_t4 (List.mem_of_getElem? (i := 172) rfl)), List.forall_mem_cons.mpr ⟨hts _ (tb_t4 (List.mem_of_getElem? (i := 182) rfl)), List.forall_mem_cons.mpr ⟨hts _ (tb_t4 (List.mem_of_getElem? (i := 226) rfl)), List.forall_mem_cons.mpr ⟨hts _ (tb_t4 (List.mem_of_getElem? (i := 228) rfl)), List.forall_mem_cons.mpr ⟨hts _ (tb_t4 (List.mem_of_getElem? (i := 229) rfl)), List.forall_mem_cons.mpr ⟨hts _ (tb_t4 (List.mem_of_getElem? (i := 230) rfl)), List.forall_mem_cons.mpr ⟨hts _ (tb_t4 (List.mem_of_getElem? (i := 231) rfl)), fun _ h => absurd h List.not_mem_nil⟩⟩⟩⟩⟩⟩⟩⟩⟩⟩⟩⟩⟩⟩⟩⟩⟩⟩⟩⟩⟩⟩⟩⟩⟩⟩⟩⟩⟩⟩⟩⟩⟩⟩⟩
/-- where all lies -/
def rhoS (B : Nat) (adK adV : Nat → Nat) (f0 f1 : Nat) (k : Nat) : Nat := if k < 10000 then B + k else if k < 20000 then adK (k - 10000) else if k < 30000 then adV (k - 20000) else if k = 30000 then f0 else f1
theorem rhoS_B {B : Nat} {adK adV : Nat → Nat} {f0 f1 k : Nat} (h : k < 10000) : rhoS B adK adV f0 f1 k = B + k := if_pos h
theorem rhoS_K {B : Nat} {adK adV : Nat → Nat} {f0 f1 i : Nat} (h : i < 35) : rhoS B adK adV f0 f1 (SB + i) = adK i := by
  unfold rhoS
  rw [if_neg (by show ¬ 10000 + i < 10000; omega), if_pos (by show 10000 + i < 20000; omega), show SB + i - 10000 = i by show 10000 + i - 10000 = i; omega]
theorem rhoS_V {B : Nat} {adK adV : Nat → Nat} {f0 f1 i : Nat} (h : i < 35) : rhoS B adK adV f0 f1 (SV + i) = adV i := by
  unfold rhoS
  rw [if_neg (by show ¬ 20000 + i < 10000; omega), if_neg (by show ¬ 20000 + i < 20000; omega), if_pos (by show 20000 + i < 30000; omega), show SV + i - 20000 = i by show 20000 + i - 20000 = i; omega]
/-- strings and statics -/
theorem sf_start {args : Array Value} {s : State} (hts : ∀ w ∈ lw_tbl, w.before args s = true) (hg : (Jvm.Cond.and given_1 narrow_1).before args s = true) : ∃ ρ : Nat → Nat, RB ρ s.heap.size ∧ SFc ρ (AB s.heap.size) s s.heap ∧ SWc ρ s := by
  have hA : ∀ a : Nat, a < s.heap.size → ¬ AB s.heap.size a := fun a h => Nat.not_le.mpr h
  obtain ⟨adK, adV, hS, hev⟩ := str_start (A := AB s.heap.size) hg hA
  have hfl := flat_of_before _ hg
  have hcs : va_Z "java/lang/String" "COMPACT_STRINGS" "Z" (.int 1) (AB s.heap.size) s s.heap := va_Zof (hts _ (tb_t3 (List.mem_of_getElem? (i := 115) rfl))) (hts _ (tb_t1 (List.mem_of_getElem? (i := 16) rfl))) (va_eqi (hfl _ (by decide +kernel))) hA
  have hfm := va_Zqof (A := AB s.heap.size) (hts (.laysStatic "jdk/internal/util/Preconditions" "SIOOBE_FORMATTER" "Ljava/util/function/BiFunction;") (tb_t3 (List.mem_of_getElem? (i := 158) rfl))) (hts _ (tb_t1 (List.mem_of_getElem? (i := 20) rfl))) (hfl _ (by decide +kernel)) hA
  have hsr := sr_start hts
  have key : ∀ f0 f1, (va_Z "jdk/internal/util/Preconditions" "SIOOBE_FORMATTER" "Ljava/util/function/BiFunction;" (cv (rhoS s.heap.size adK adV f0 f1) (.inr (.inr (50, 0, SF0)))) (AB s.heap.size) s s.heap) → ∃ ρ : Nat → Nat, RB ρ s.heap.size ∧ SFc ρ (AB s.heap.size) s s.heap ∧ SWc ρ s := fun f0 f1 hz =>
    ⟨rhoS s.heap.size adK adV f0 f1, fun k hk => rhoS_B hk, ⟨vkS_ext hS (fun i hi => rhoS_K hi) (fun i hi => rhoS_V hi), hcs, hz⟩, fun e he => by
      obtain ⟨h1, h2⟩ := st_W e he
      rw [rhoS_K h1]
      have h3 := hev e.2.2.2 h1
      unfold stT at h3
      rw [h2] at h3
      exact vk_R.of (hsr e he) h3, nest_start hts⟩
  rcases hfm with h | ⟨t, h⟩
  · exact key 0 0 h
  · exact key t 1 h
end STRS
