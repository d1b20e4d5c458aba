/-! THE LAW'S FRAME: calls of the class and of the reference, the script -/
section LAWF
variable {M M' : Mem} {t i : Nat} {ρ : Nat → Nat} {cA : Nat → ClassId} {dC : Nat → ClassId} {dI : Nat → Nat → Nat}
variable {p : Program} {l : Launch} {e : Env} {R : Room} {s : State} {m : MethodId} {args : Array Value} {below : List Frame} {meth : Method} {c : Code} {H : Heap} {locs : List Loc} {cells slots : Nat} {Q : State → Prop}
variable {pc : Nat} {ls : Array Slot} {rest : List Value} {b L : Nat} {xs : Nat → Int32}
theorem call_goL {w : List Ref3} {A : Nat → Prop} {r : Option AV × Mem} {a : Array Value} {st0 : List Value} (hr : va_Run p l e R s m args below meth c H locs cells slots 0 0 (F0 m pc ls st0) rest (QcR dC dI cA ρ w A r a) A) (hS : va_S A s.heap H locs)
    (kk : ∀ (H1 : Heap) (locs1 : List Loc), va_P (dC, dI) vwCl (wsOf ρ cA r.2 w) H1 → va_S A s.heap H1 locs1 → W p l e R s m args below meth c H1 locs1 cells slots Q (F0 m (pc + 3) ls ((r.1.map (cv ρ)).toList ++ rest))) : W p l e R s m args below meth c H locs cells slots Q (F0 m pc ls st0) := by
  intro T hT X
  obtain ⟨v, st₀, t, T', L, h0, X', hL, e1, e2, ⟨hv, hp, -, hz, hk⟩, st⟩ := hr T hT X
  cases hv
  rw [h0] at hz hk
  obtain ⟨t2, a1, b1⟩ := kk T'.heap (locs ++ L) (by rw [e1]; exact hp)
    ⟨Nat.le_trans hS.1 (by rw [e1]; exact hz), fun q h1 h2 => by rw [e1, hk q (Nat.lt_of_lt_of_le h1 hS.1) h2]; exact hS.2.1 q h1 h2, fun q hq => by
      rcases List.mem_append.mp hq with h | h
      · exact hS.2.2 q h
      · exact hL q h⟩ T' rfl X'
  exact ⟨t2, st t2 a1, b1⟩
theorem clo_WF : Clo WF := Clo_of (by decide +kernel)
theorem wI_WF : wI (List.range 279) = WF := by decide +kernel
theorem wt_WF : WT WF := by
  have h := WT_of (ks := List.range 279) (fun i hi => List.mem_range.mp hi)
  rw [wI_WF] at h; exact h
theorem D_WF {A : Nat → Prop} {B : Nat} (hρ : RB ρ B) (hA : ∀ q, B ≤ q → A q) : va_D A (wsOf ρ cA M WF) := by
  refine ⟨fun i j x y hi hj he => ?_, fun k x hx => ?_⟩
  · unfold wsOf at hi hj
    rw [List.getElem?_map] at hi hj
    cases ha : WF[i]? with
    | none => rw [ha] at hi; cases hi
    | some a =>
      cases hb : WF[j]? with
      | none => rw [hb] at hj; cases hj
      | some b =>
        rw [ha] at hi; rw [hb] at hj
        have hi := Option.some.inj hi
        have hj := Option.some.inj hj
        rw [← hi, ← hj] at he
        have he : ρ a.2.2 = ρ b.2.2 := he
        obtain ⟨a1, a2⟩ := WF_at ha
        obtain ⟨b1, b2'⟩ := WF_at hb
        rw [a1, b1, hρ i (by omega), hρ j (by omega)] at he
        omega
  · unfold wsOf at hx
    rw [List.getElem?_map] at hx
    cases ha : WF[k]? with
    | none => rw [ha] at hx; cases hx
    | some a =>
      rw [ha] at hx
      have hx := Option.some.inj hx
      obtain ⟨a1, a2⟩ := WF_at ha
      rw [← hx]
      show A (ρ a.2.2)
      rw [a1, hρ k (by omega)]; exact hA _ (by omega)
/-- what stands all the way through the law -/
def LZ (p : Program) (s : State) (m : MethodId) (meth : Method) (c : Code) (dC : Nat → ClassId) (dI : Nat → Nat → Nat) (cA : Nat → ClassId) (ρ : Nat → Nat) (b L : Nat) (xs : Nat → Int32) : Prop :=
  BX "IceParliamentLaw" code 7 ret p s m #[Value.ref b] meth c ∧ KX dC dI cA ρ (AB s.heap.size) s ∧ RB ρ s.heap.size ∧ va_X b L xs s s.heap ∧ b < s.heap.size ∧ L ≤ 3584
def LY (s : State) (dC : Nat → ClassId) (dI : Nat → Nat → Nat) (cA : Nat → ClassId) (ρ : Nat → Nat) (M : Mem) (H : Heap) (locs : List Loc) : Prop := va_P (dC, dI) vwCl (wsOf ρ cA M WF) H ∧ va_S (AB s.heap.size) s.heap H locs ∧ MOK WF M
theorem l_ev {x tg k index : Nat} {as : List AV} {md : MD} {v : AV} (hx0 : mdT x = some md) (hev : evD 60 x (vR tg 0 k :: as) M = some (some v, M')) (hkq : (tg, 0, k) ∈ WF) (ht : tg < 13) (hcl : clR tg = md.1.cls) (h99 : md.2.2.2.2.2 ≠ 99) (hv : VOKs WF as) (cx : LZ p s m meth c dC dI cA ρ b L xs) (ly : LY s dC dI cA ρ M H locs) (hls : ls.size = 7) (hlk : Cond.methodLink "IceParliamentLaw" index md.1 ∈ lw_g)
    (hdd : (parseMethodDescriptor md.1.desc).map (fun d => d.parameters.length) = some as.length) (hc : cells ≤ 601024 ∧ slots ≤ 7293034) (hrest : (rest.map fun v => v.category).sum ≤ 8) (hdg : decode code pc = .ok (.invokevirtual index, 3))
    (kk : ∀ (H1 : Heap) (locs1 : List Loc), LY s dC dI cA ρ M' H1 locs1 → W p l e room_1 s m #[Value.ref b] below meth c H1 locs1 cells slots Q (F0 m (pc + 3) ls (cv ρ v :: rest))) : W p l e room_1 s m #[Value.ref b] below meth c H locs cells slots Q (F0 m pc ls ((as.map (cv ρ)).reverse ++ .ref (ρ k) :: rest)) := by
  obtain ⟨hB, hK, hρ, hX, hbl, hL⟩ := cx
  obtain ⟨hP, hS, hmok⟩ := ly
  have hvv : VOKs WF (vR tg 0 k :: as) := fun z hz => by
    rcases List.mem_cons.mp hz with rfl | hz
    · exact .inl hkq
    · exact hv z hz
  obtain ⟨md', hx1, -, hM, hrok⟩ := evD_sound clo_WF wt_WF md_all cd_all 60 x _ M _ hev hvv hmok
  have hmm : md' = md := Option.some.inj (hx1.symm.trans hx0)
  subst hmm
  have hmk := md_all x md' hx0
  obtain ⟨hin, hsel⟩ := md_sel hx0 h99
  have hD : va_D (AB s.heap.size) (wsOf ρ cA M WF) := D_WF hρ (fun q h => h)
  have hrv : ∃ cellB : Cell, H[ρ k]? = some cellB ∧ cellB.vm.isStatics = false ∧ s.vm.findClass md'.1.cls = some cellB.cls := by
    obtain ⟨j, hj⟩ := List.getElem?_of_mem hkq
    have he := wsOf_at (ρ := ρ) (cA := cA) (M := M) hj
    have hce : ce ρ cA M (tg, 0, k) = .inr (tg, fvs ρ M tg k) := by unfold ce; rw [if_pos ht]
    rw [hce] at he
    have := va_recv hK.1 hP (cl_at tg ht) he
    rw [← hcl]; exact this
  have e0 : (vR tg 0 k :: as).map (cv ρ) = .ref (ρ k) :: as.map (cv ρ) := by rw [List.map_cons]; exact congrArg (· :: _) (cv_t (q := (tg, 0, k)) (by show tg ≠ 50; omega))
  have hps := pc_of (l := l) (as := vR tg 0 k :: as) hK hP hD hS
  have hM2 := hM l dC dI cA ρ (AB s.heap.size) H.size
  rw [e0] at hps hM2
  have cb := callB_of (mc := 0) (ms := 0) (rm := rmD 60) (R := room_1) as.length hB.2.2.2.2.1 (lw_goodIn hmk.2.1) rfl rfl rfl (hB.2.2.2.2.1 _ hmk.1) (hB.2.2.2.2.1 _ hlk) ⟨hmk.2.2.2.1.1, hmk.2.2.2.1.2, hdd⟩ ⟨by show 60 + 1 ≤ 2048; omega, by have := hmk.2.2.2.2.2.1; show 8 + (md'.2.2.1 + 11) + 60 * 60 ≤ 84000; omega⟩
  have hrun := va_runV (R := room_1) (e := e) (meth := meth) (locs := locs) (below := below) (cells := cells) (slots := slots) (b := ρ k) (As := as.map (cv ρ)) (rest := rest) (g := F0 m pc ls ((as.map (cv ρ)).reverse ++ .ref (ρ k) :: rest)) ⟨hB.1, hB.2.1, hB.2.2.1, hB.2.2.2.1, hB.2.2.2.2.1⟩ hM2 ⟨cb, hB.2.2.2.2.1 _ hin, hB.2.2.2.2.1 _ hsel⟩ ⟨hps.1, hrv, hps.2⟩ rfl (by simp) hls rfl (lv_room hrest) hdg hc
  exact call_goL hrun hS (fun H1 locs1 hP1 hS1 => kk H1 locs1 ⟨hP1, hS1, hrok.2⟩)
theorem l_arg {j : Nat} {iv : Int32} (cx : LZ p s m meth c dC dI cA ρ b L xs) (ly : LY s dC dI cA ρ M H locs) (h0 : ls[0]? = some (.val (.ref b))) (h4 : ls[4]? = some (.val (.int iv))) (hiv : iv = Int32.ofNat i) (hij : i + j < L) (hj : j ≤ 5) (d1 : decode code pc = .ok (.aload_n 0, 1)) (d2 : decode code (pc + 1) = .ok (.iload 4, 2)) (d3 : decode code (pc + 3) = .ok (.iconst j, 1)) (d4 : decode code (pc + 4) = .ok (.iadd, 1)) (d5 : decode code (pc + 5) = .ok (.iaload, 1))
    (kk : W p l e R s m #[Value.ref b] below meth c H locs cells slots Q (F0 m (pc + 6) ls (.int (xs (i + j)) :: rest))) : W p l e R s m #[Value.ref b] below meth c H locs cells slots Q (F0 m pc ls rest) := by
  obtain ⟨hB, hK, hρ, hX, hbl, hL⟩ := cx
  subst hiv
  have e1 : Int32.ofNat i + Int32.ofNat j = Int32.ofNat (i + j) := (Int32.ofNat_add i j).symm
  have e2 : (Int32.ofNat i + Int32.ofNat j).toNatClampNeg = i + j := by rw [e1]; exact i_nat (by omega)
  refine lv_aload_n hB.1 hB.2.1 d1 rfl h0 ?_
  refine lv_iload hB.1 hB.2.1 d2 h4 ?_
  refine lv_iconst hB.1 hB.2.1 (v := Int32.ofNat j) d3 rfl ?_
  refine lv_iadd hB.1 hB.2.1 d4 ?_
  refine va_sld (A := AB s.heap.size) hB.1 hB.2.1 hX hbl (Nat.not_le.mpr hbl) ly.2.1 (fun z => ?_) d5 ?_
  · rcases z with z | z
    · rw [e1] at z; exact i_neg (n := i + j) (by omega) z
    · rw [e2] at z; omega
  · rw [e2]; exact kk
theorem l_arg6 {iv : Int32} (cx : LZ p s m meth c dC dI cA ρ b L xs) (ly : LY s dC dI cA ρ M H locs) (h0 : ls[0]? = some (.val (.ref b))) (h4 : ls[4]? = some (.val (.int iv))) (hiv : iv = Int32.ofNat i) (hij : i + 6 < L) (d1 : decode code pc = .ok (.aload_n 0, 1)) (d2 : decode code (pc + 1) = .ok (.iload 4, 2)) (d3 : decode code (pc + 3) = .ok (.bipush 6, 2)) (d4 : decode code (pc + 5) = .ok (.iadd, 1)) (d5 : decode code (pc + 6) = .ok (.iaload, 1))
    (kk : W p l e R s m #[Value.ref b] below meth c H locs cells slots Q (F0 m (pc + 7) ls (.int (xs (i + 6)) :: rest))) : W p l e R s m #[Value.ref b] below meth c H locs cells slots Q (F0 m pc ls rest) := by
  obtain ⟨hB, hK, hρ, hX, hbl, hL⟩ := cx
  subst hiv
  have e1 : Int32.ofNat i + Int32.ofNat 6 = Int32.ofNat (i + 6) := (Int32.ofNat_add i 6).symm
  have e2 : (Int32.ofNat i + Int32.ofNat 6).toNatClampNeg = i + 6 := by rw [e1]; exact i_nat (by omega)
  refine lv_aload_n hB.1 hB.2.1 d1 rfl h0 ?_
  refine lv_iload hB.1 hB.2.1 d2 h4 ?_
  refine lv_bipush hB.1 hB.2.1 (v := Int32.ofNat 6) d3 (by decide) ?_
  refine lv_iadd hB.1 hB.2.1 d4 ?_
  refine va_sld (A := AB s.heap.size) hB.1 hB.2.1 hX hbl (Nat.not_le.mpr hbl) ly.2.1 (fun z => ?_) d5 ?_
  · rcases z with z | z
    · rw [e1] at z; exact i_neg (n := i + 6) (by omega) z
    · rw [e2] at z; omega
  · rw [e2]; exact kk
/-- the law's locals -/
def LVs (ls : Array Slot) (ρ : Nat → Nat) (b i : Nat) : Prop := lv_has ls 7 [(4, .int (Int32.ofNat i)), (3, .ref (ρ 278)), (2, .ref (ρ 253)), (1, .ref (ρ 0)), (0, .ref b)]
theorem LVs.all (h : LVs ls ρ b i) : ls.size = 7 ∧ ls[0]? = some (.val (.ref b)) ∧ ls[1]? = some (.val (.ref (ρ 0))) ∧ ls[2]? = some (.val (.ref (ρ 253))) ∧ ls[3]? = some (.val (.ref (ρ 278))) ∧ ls[4]? = some (.val (.int (Int32.ofNat i))) :=
  ⟨h.1, h.2.2 (0, .ref b) (by simp), h.2.2 (1, .ref (ρ 0)) (by simp), h.2.2 (2, .ref (ρ 253)) (by simp), h.2.2 (3, .ref (ρ 278)) (by simp), h.2.2 (4, .int (Int32.ofNat i)) (by simp)⟩
end LAWF
