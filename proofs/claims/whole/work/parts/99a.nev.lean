/-! THE WORLD IN ITS MAKING: a method of the evaluator, over cells by their numbers -/
section NEV
variable {ρ : Nat → Nat} {cA : Nat → ClassId} {M M' : Mem} {Z Z' : Zs} {n n' B d : Nat} {dC : Nat → ClassId} {dI : Nat → Nat → Nat}
variable {p : Program} {l : Launch} {e : Env} {R : Room} {s : State} {m : MethodId} {args : Array Value} {below : List Frame} {meth : Method} {c : Code} {H : Heap} {locs : List Loc} {cells slots : Nat} {Q : State → Prop}
variable {own : String} {cc : ByteArray} {nL pc : Nat} {ls : Array Slot} {rest : List Value} {lv : Lv} {ks : List Nat}
def wI (ks : List Nat) : List Ref3 := ks.map (fun i => WF.getD i (0, 0, 0))
theorem WF_get {i : Nat} (h : i < 279) : WF[i]? = some (WF.getD i (0, 0, 0)) := by
  rw [List.getD_eq_getElem?_getD, List.getElem?_eq_getElem (by rw [WF_len]; exact h)]; rfl
theorem wI_mem {q : Ref3} (hk : ∀ i ∈ ks, i < 279) (h : q ∈ wI ks) : q.2.2 ∈ ks ∧ WF[q.2.2]? = some q := by
  unfold wI at h
  obtain ⟨i, hi, rfl⟩ := List.mem_map.mp h
  rw [WF_ix i (hk i hi)]; exact ⟨hi, WF_get (hk i hi)⟩
theorem mem_wI {q : Ref3} (h : WF[q.2.2]? = some q) (hk : q.2.2 ∈ ks) : q ∈ wI ks := List.mem_map.mpr ⟨q.2.2, hk, by rw [List.getD_eq_getElem?_getD, h]; rfl⟩
theorem fk_is3 : ∀ t b, fk t b = 3 → t = 2 := by
  intro t b h
  unfold fk at h
  split at h <;> first | rfl | (exact absurd h (by decide))
theorem ceZ_ce {q : Ref3} (h24 : q.1 ≠ 24) (hz : ∀ b, Z q.2.2 b = false) : ceZ ρ cA M Z q = ce ρ cA M q := by
  unfold ceZ ce aCZ fvsZ fvZ fvs
  rw [if_neg (c := q.1 = 24) h24]
  simp only [hz]
  rfl
theorem n_evI {x t k index : Nat} {as : List AV} {md : MD} (hx0 : mdT x = some md) (hev : evD d x (vR t 0 k :: as) M = some (none, M')) (hrt : md.2.2.2.1 = none) (hkq : (t, 0, k) ∈ wI ks) (ht : t < 13) (hcl : clR t = md.1.cls) (hks : ∀ i ∈ ks, i < n ∧ i < 279) (hnd : ks.Nodup) (hclo : Clo (wI ks)) (hwt : WT (wI ks)) (hno : ∀ i ∈ ks, (WF.getD i (0, 0, 0)).1 ≠ 2 ∧ (WF.getD i (0, 0, 0)).1 ≠ 24) (hZ : ∀ i ∈ ks, ∀ b, Z i b = false) (hfr : Fr (fun c _ => c ∈ ks) M M') (hv : VOKs (wI ks) (vR t 0 k :: as))
    (cx : CX own cc nL p s m args meth c dC dI cA ρ B) (sx : SX dC dI cA ρ B s n M Z H locs) (hcnt : s.heap.size + cells = B + n) (hk : k < 279) (hls : ls.size = nL) (hlk : Cond.methodLink own index md.1 ∈ lw_g) (hin : Cond.instanceMethod md.1 ∈ lw_g) (hsel : Cond.selects md.1.cls md.1 md.1 ∈ lw_g)
    (hdd : (parseMethodDescriptor md.1.desc).map (fun d => d.parameters.length) = some as.length) (hR : d + 1 ≤ R.frames ∧ 60 * (d + 1) ≤ R.locals) (hc : cells ≤ R.cells ∧ slots ≤ R.slots) (hrest : (rest.map fun v => v.category).sum ≤ 8) (hdg : decode cc pc = .ok (.invokevirtual index, 3))
    (kk : ∀ (H1 : Heap) (locs1 : List Loc), SX dC dI cA ρ B s n M' Z H1 locs1 → W p l e R s m args below meth c H1 locs1 cells slots Q (F0 m (pc + 3) ls rest)) : W p l e R s m args below meth c H locs cells slots Q (F0 m pc ls ((as.map (cv ρ)).reverse ++ .ref (B + k) :: rest)) := by
  have hk9 : ∀ i ∈ ks, i < 279 := fun i hi => (hks i hi).2
  have h24 : ∀ q ∈ wI ks, q.1 ≠ 2 ∧ q.1 ≠ 24 ∧ q.2.2 ∈ ks := fun q hq => by
    obtain ⟨h1, h2⟩ := wI_mem hk9 hq
    have h3 := hno _ h1
    rw [List.getD_eq_getElem?_getD, h2] at h3
    exact ⟨h3.1, h3.2, h1⟩
  refine n_ev (w := wI ks) hx0 hev hrt hkq ht hcl (fun q hq => ?_) (fun i j a b hi hj hab => ?_) hclo hwt hv ⟨fun q hq _ j _ h3 => absurd (fk_is3 _ _ h3) (h24 q hq).1, fun q hq h4 => absurd h4 (h24 q hq).2.1⟩ (fun q hq => ceZ_ce (h24 q hq).2.1 (hZ _ (h24 q hq).2.2)) (fun q hq => ceZ_ce (h24 q hq).2.1 (hZ _ (h24 q hq).2.2)) (fun q hq hqw => ?_) cx sx hcnt hk hls hlk hin hsel hdd hR hc hrest hdg kk
  · obtain ⟨h1, h2⟩ := wI_mem hk9 hq
    refine List.mem_of_getElem? (i := q.2.2) ?_
    rw [WL_at (hks _ h1).1]; exact h2
  · unfold wI at hi hj
    rw [List.getElem?_map] at hi hj
    cases hi' : ks[i]? with
    | none => rw [hi'] at hi; cases hi
    | some a' =>
      cases hj' : ks[j]? with
      | none => rw [hj'] at hj; cases hj
      | some b' =>
        rw [hi'] at hi; rw [hj'] at hj
        have hi := Option.some.inj hi
        have hj := Option.some.inj hj
        rw [← hi, ← hj, WF_ix _ (hk9 _ (List.mem_of_getElem? hi')), WF_ix _ (hk9 _ (List.mem_of_getElem? hj'))] at hab
        subst hab
        obtain ⟨l1, g1⟩ := List.getElem?_eq_some_iff.mp hi'
        obtain ⟨l2, g2⟩ := List.getElem?_eq_some_iff.mp hj'
        have hpw := List.pairwise_iff_getElem.mp hnd
        rcases Nat.lt_trichotomy i j with h | h | h
        · exact absurd (g1.trans g2.symm) (hpw i j l1 l2 h)
        · exact h
        · exact absurd (g2.trans g1.symm) (hpw j i l2 l1 h)
  · obtain ⟨i, hi⟩ := List.getElem?_of_mem hq
    obtain ⟨l1, l2, l3⟩ := WL_lt hi
    have hnk : q.2.2 ∉ ks := fun z => hqw (mem_wI (by rw [l3]; exact l2) z)
    exact ceZ_cg (funext fun j => hfr.i hnk) (funext fun j => hfr.j hnk) (funext fun j => hfr.r hnk) (fun _ => rfl)
theorem sp0e : Hm (evD (d + 2) 0 [vR 9 0 3] M) (fun r M' => r = none ∧ Fr (fun c j => 3 ≤ c ∧ c ≤ 25) M M' ∧ M'.1 4 0 = 0 ∧ M'.1 6 0 = 0 ∧ M'.1 8 0 = 0 ∧ (∀ a, a < 6 → M'.1 18 a = 0) ∧ M'.1 3 12 = 0 ∧ M'.1 3 14 = 0 ∧ M'.1 3 15 = 0 ∧ LCd 20 dM none M' ∧ LCd 23 dK none M') := by
  rw [e0, e1, cVd_s, e1, cVd_s, e1, cVd_s, sp2 (by omega), cVd_s]
  generalize hA : flI (sI (sI (sI M (3 + 1) 0 0) (3 + 3) 0 0) (3 + 5) 0 0) (3 + 15) 6 0 = A
  have fA : Fr (fun c j => 3 ≤ c ∧ c ≤ 25) M A := by rw [← hA]; exact (((Fr.rf.sI (by omega)).sI (by omega)).sI (by omega)).flI (fun j _ => by omega)
  have a1 : A.1 4 0 = 0 ∧ A.1 6 0 = 0 ∧ A.1 8 0 = 0 ∧ ∀ a, a < 6 → A.1 18 a = 0 := by
    rw [← hA]
    refine ⟨?_, ?_, ?_, fun a ha => flI_eq ha⟩
    · rw [flI_ne (by omega), sI_ne (by omega), sI_ne (by omega)]; exact sI_eq
    · rw [flI_ne (by omega), sI_ne (by omega)]; exact sI_eq
    · rw [flI_ne (by omega)]; exact sI_eq
  rw [e3, cVd_s]
  generalize hB : sI (sI (sI (sI (sI A 3 12 0) 3 14 0) 3 15 0) (3 + 17) 2 0) (3 + 17) 0 0 = B
  have b2' : B.1 20 2 = Int32.ofNat 0 := by rw [← hB, sI_ne (by omega)]; exact sI_eq
  rw [show (10000 : Int32) = Int32.ofNat 10000 from rfl, show (10001 : Int32) = Int32.ofNat 10001 from rfl, show (10006 : Int32) = Int32.ofNat 10006 from rfl]
  rw [sp4k (kL := 3 + 17) (k := 0) b2' (by omega), cVd_s, sp4k (kL := 3 + 17) (k := 1) sI_eq (by omega), cVd_s, sp4k (kL := 3 + 17) (k := 2) sI_eq (by omega), cVd_s, e3, cVd_s, sp4k (kL := 3 + 20) (k := 0) (by rw [sI_ne (by omega)]; exact sI_eq) (by omega), cVd_s]
  have fB : Fr (fun c j => 3 ≤ c ∧ c ≤ 25) M B := by rw [← hB]; exact ((((fA.sI (by omega)).sI (by omega)).sI (by omega)).sI (by omega)).sI (by omega)
  have bb : B.1 4 0 = 0 ∧ B.1 6 0 = 0 ∧ B.1 8 0 = 0 ∧ (∀ a, a < 6 → B.1 18 a = 0) ∧ B.1 3 12 = 0 ∧ B.1 3 14 = 0 ∧ B.1 3 15 = 0 ∧ B.1 20 0 = 0 := by
    rw [← hB]
    refine ⟨?_, ?_, ?_, fun a ha => ?_, ?_, ?_, ?_, sI_eq⟩
    · simp (disch := omega) only [sI_ne]; exact a1.1
    · simp (disch := omega) only [sI_ne]; exact a1.2.1
    · simp (disch := omega) only [sI_ne]; exact a1.2.2.1
    · simp (disch := omega) only [sI_ne]; exact a1.2.2.2 a ha
    · rw [sI_ne (by omega), sI_ne (by omega), sI_ne (by omega), sI_ne (by omega)]; exact sI_eq
    · rw [sI_ne (by omega), sI_ne (by omega), sI_ne (by omega)]; exact sI_eq
    · rw [sI_ne (by omega), sI_ne (by omega)]; exact sI_eq
  refine Hm_some ⟨rfl, ?_, ?_, ?_, ?_, fun a ha => ?_, ?_, ?_, ?_, ⟨?_, ?_, fun i hi => ?_⟩, ⟨?_, ?_, fun i hi => ?_⟩⟩
  · exact (((((((((fB.sI (by omega)).sI (by omega)).sI (by omega)).sI (by omega)).sI (by omega)).sI (by omega)).sI (by omega)).sI (by omega)).sI (by omega)).sI (by omega)
  · simp (disch := omega) only [sI_ne]; exact bb.1
  · simp (disch := omega) only [sI_ne]; exact bb.2.1
  · simp (disch := omega) only [sI_ne]; exact bb.2.2.1
  · simp (disch := omega) only [sI_ne]; exact bb.2.2.2.1 a ha
  · simp (disch := omega) only [sI_ne]; exact bb.2.2.2.2.1
  · simp (disch := omega) only [sI_ne]; exact bb.2.2.2.2.2.1
  · simp (disch := omega) only [sI_ne]; exact bb.2.2.2.2.2.2.1
  · simp (disch := omega) only [sI_ne]; exact bb.2.2.2.2.2.2.2
  · simp (disch := omega) only [sI_ne, sI_eq']; rfl
  · have hi : i < 3 := hi
    have : i = 0 ∨ i = 1 ∨ i = 2 := by omega
    rcases this with rfl | rfl | rfl
    · simp (disch := omega) only [sI_ne, sI_eq']; rfl
    · simp (disch := omega) only [sI_ne, sI_eq']; rfl
    · simp (disch := omega) only [sI_ne, sI_eq']; rfl
  · simp (disch := omega) only [sI_ne, sI_eq']; rfl
  · simp (disch := omega) only [sI_eq']; rfl
  · have hi : i < 1 := hi
    have : i = 0 := by omega
    subst this
    simp (disch := omega) only [sI_ne, sI_eq']; rfl
def cloB (w : List Ref3) : Bool := w.all fun q => (!decide (q.1 < 13) || (List.range (clN q.1)).all fun j => !decide (fk q.1 j = 2) || w.contains (fp q.1 j q.2.2)) && (!decide (30 ≤ q.1) || (List.range q.2.1).all fun j => w.contains (20, rowL q.1, q.2.2 + 1 + j))
theorem Clo_of {w : List Ref3} (h : cloB w = true) : Clo w := by
  unfold cloB at h
  rw [List.all_eq_true] at h
  refine ⟨fun q hq h13 j hj hf => ?_, fun q hq h30 j hj => ?_⟩
  · have h1 := h q hq
    rw [Bool.and_eq_true] at h1
    have h2 := h1.1
    rw [decide_eq_true h13, Bool.not_true, Bool.false_or, List.all_eq_true] at h2
    have h3 := h2 j (List.mem_range.mpr hj)
    rw [decide_eq_true hf, Bool.not_true, Bool.false_or] at h3
    exact List.contains_iff_mem.mp h3
  · have h1 := h q hq
    rw [Bool.and_eq_true] at h1
    have h2 := h1.2
    rw [decide_eq_true h30, Bool.not_true, Bool.false_or, List.all_eq_true] at h2
    exact List.contains_iff_mem.mp (h2 j (List.mem_range.mpr hj))
theorem WT_of {ks : List Nat} (hk : ∀ i ∈ ks, i < 279) : WT (wI ks) := by
  have tg : ∀ i, i < 279 → (WF.getD i (0, 0, 0)).1 < 13 ∨ (20 ≤ (WF.getD i (0, 0, 0)).1 ∧ (WF.getD i (0, 0, 0)).1 ≤ 24) ∨ (30 ≤ (WF.getD i (0, 0, 0)).1 ∧ (WF.getD i (0, 0, 0)).1 ≤ 32) := by
    have : ∀ i : Fin 279, (WF.getD i.1 (0, 0, 0)).1 < 13 ∨ (20 ≤ (WF.getD i.1 (0, 0, 0)).1 ∧ (WF.getD i.1 (0, 0, 0)).1 ≤ 24) ∨ (30 ≤ (WF.getD i.1 (0, 0, 0)).1 ∧ (WF.getD i.1 (0, 0, 0)).1 ≤ 32) := by decide +kernel
    exact fun i hi => this ⟨i, hi⟩
  refine ⟨fun q hq => ?_, fun a ha b hb hab => ?_⟩
  · obtain ⟨h1, h2⟩ := wI_mem hk hq
    have := tg q.2.2 (hk _ h1)
    rw [List.getD_eq_getElem?_getD, h2] at this
    exact this
  · obtain ⟨h1, h2⟩ := wI_mem hk ha
    obtain ⟨h3, h4⟩ := wI_mem hk hb
    rw [hab, h4] at h2
    exact (Option.some.inj h2).symm
theorem Mz.fr {k : Nat} (h : Mz k M) (hf : Fr (fun c _ => c < n) M M') (hn : k ≤ n) : Mz n M' := fun a ha j => by
  rw [hf.i (by omega), hf.j (by omega)]; exact h a (by omega) j
theorem Mz.le (h : Mz n M) (hn : n ≤ n') : Mz n' M := fun a ha j => h a (by omega) j
theorem Fz.mz (h : Fz n M Z) : Mz n M := fun a ha j => ⟨(h a ha j).1, (h a ha j).2.1⟩
theorem PZ.fz {k : Nat} (fz : Fz k M Z) (hp : PZ k n Z Z') (hk : k ≤ n) (hf : Fr (fun c _ => c < n) M M') : Fz n M' Z' := fun a ha b => by
  rw [hf.i (by omega), hf.j (by omega), hp.1 a b (.inr ha)]; exact fz a (by omega) b
end NEV
