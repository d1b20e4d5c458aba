/-! LAWS: the reference reads them as the machine does -/
section REXP
variable {tp : Nat → Int32} {Tn d n f k : Nat} {M M' : Mem} {ml : Bool} {st c : List Nat}
def gFm (ml : Bool) (j : Nat) : Nat := if ml then gM j else gK j
def CEt (ml : Bool) (i w : Nat) (M : Mem) : Prop := M.1 260 (1100 + i) = opO (Int32.ofNat w) ∧ (w < 10000 → M.1 261 (1100 + i) = Int32.ofNat w) ∧ (¬ w < 10000 → w < 10003 → M.1 261 (1100 + i) = Int32.ofNat (gFm ml (w - 10000)))
def RCd (ml : Bool) (f : Nat) (c : List Nat) (M : Mem) : Prop := M.1 253 13 = Int32.ofNat (f + c.length) ∧ ∀ i, i < c.length → CEt ml (f + i) (c.getD i 0) M
def XWr (f : Nat) (c j : Nat) : Prop := (c = 253 ∧ (j = 7 ∨ j = 8 ∨ j = 13)) ∨ (c = 260 ∧ 1100 + f ≤ j) ∨ (c = 261 ∧ 1100 + f ≤ j)
theorem RCd.fr (h : RCd ml f c M) (hf : Fr R78 M M') : RCd ml f c M' := ⟨(hf.i (by unfold R78; omega)).trans h.1, fun i hi => by
  have := h.2 i hi
  unfold CEt at *
  rw [hf.i (by unfold R78; omega), hf.i (by unfold R78; omega)]; exact this⟩
def emM (M : Mem) (k : Nat) (o a : Int32) : Mem := sI (sI (sI M 260 (1100 + k) o) 261 (1100 + k) a) 253 13 (Int32.ofNat (k + 1))
theorem sp232 {o a : Int32} (h : M.1 253 13 = Int32.ofNat k) (hk : k < 1100) : evD (d + 1) 232 [vR 12 0 253, vI o, vI a] M = some (none, emM M k o a) := by
  rw [e232, h, i_addr, ck (show 1100 + k < 2200 by omega) (by omega), i_nat (by omega), sI_ne (by omega), h, i_addr, ck (show 1100 + k < 2200 by omega) (by omega), i_nat (by omega), sI_ne (by omega), sI_ne (by omega), h, i_addl]; rfl
theorem emM_fr {o a : Int32} : Fr (fun c j => (c = 253 ∧ j = 13) ∨ (c = 260 ∧ j = 1100 + k) ∨ (c = 261 ∧ j = 1100 + k)) M (emM M k o a) := ((Fr.rf.sI (by omega)).sI (by omega)).sI (by omega)
theorem emM_x {o a : Int32} (hk : f ≤ k) : Fr (XWr f) M (emM M k o a) := emM_fr.up (fun c j z => by unfold XWr; omega)
theorem RCd.em {w : Nat} {a : Int32} (h : RCd ml f c M) (h1 : w < 10000 → a = Int32.ofNat w) (h2 : ¬ w < 10000 → w < 10003 → a = Int32.ofNat (gFm ml (w - 10000))) : RCd ml f (c ++ [w]) (emM M (f + c.length) (opO (Int32.ofNat w)) a) := by
  have e0 : (emM M (f + c.length) (opO (Int32.ofNat w)) a).1 253 13 = Int32.ofNat (f + c.length + 1) := sI_eq
  have e1 : (emM M (f + c.length) (opO (Int32.ofNat w)) a).1 260 (1100 + (f + c.length)) = opO (Int32.ofNat w) := by unfold emM; rw [sI_ne (by omega), sI_ne (by omega)]; exact sI_eq
  have e2 : (emM M (f + c.length) (opO (Int32.ofNat w)) a).1 261 (1100 + (f + c.length)) = a := by unfold emM; rw [sI_ne (by omega)]; exact sI_eq
  refine ⟨by rw [e0, List.length_append]; rfl, fun i hi => ?_⟩
  rw [List.length_append] at hi
  have hi : i < c.length + 1 := hi
  by_cases y : i = c.length
  · subst y
    have : (c ++ [w]).getD c.length 0 = w := by simp
    rw [this]
    exact ⟨e1, fun h => e2.trans (h1 h), fun h h' => e2.trans (h2 h h')⟩
  · have : (c ++ [w]).getD i 0 = c.getD i 0 := by
      rw [List.getD_eq_getElem?_getD, List.getD_eq_getElem?_getD, List.getElem?_append_left (by omega)]
    rw [this]
    have := h.2 i (by omega)
    unfold CEt at *
    rw [emM_fr.i (by omega), emM_fr.i (by omega)]; exact this
theorem TB.em {o a : Int32} (h : TB tp Tn n M) : TB tp Tn n (emM M k o a) := h.fr emM_fr (fun c i hc => by omega)
theorem TFa.em {e : Nat} {o a : Int32} (h : TFa e M) : TFa e (emM M k o a) := ⟨(emM_fr.i (by omega)).trans h.1, h.2⟩
/-- the ways a reading can end -/
def FSt (tp : Nat → Int32) (Tn : Nat) (ml : Bool) (f : Nat) (s : MS) (k n : Nat) (M : Mem) : Prop := ∃ e n' k', Rch tp Tn ml (.inl s) (.inr (.inr e)) ∧ TFa e M ∧ M.1 253 7 = Int32.ofNat n' ∧ M.1 253 13 = Int32.ofNat k' ∧ k' + n ≤ n' + k ∧ n' ≤ 1000 ∧ f ≤ k'
def LSt (tp : Nat → Int32) (Tn : Nat) (ml : Bool) (f : Nat) (s : MS) (k n q qe : Nat) (st : List Nat) (n' : Nat) (pd cm : List Nat) (M : Mem) : Prop := Rch tp Tn ml (.inl s) (.inl (2, n', pd ++ st, cm)) ∧ (∀ w ∈ pd, q ≤ wrk w) ∧ TB tp Tn n' M ∧ RCd ml f (cm ++ pd) M ∧ n < n' ∧ f + (cm ++ pd).length + n ≤ n' + k ∧ (qe ≤ wrk (jnw tp Tn n') → qe ≤ 2 ∧ wrk (jnw tp Tn n') = 2 ∧ Rch tp Tn ml (.inl s) (.inr (.inr (flt tp Tn 1 n'))))
def XOt (tp : Nat → Int32) (Tn : Nat) (ml : Bool) (f : Nat) (s : MS) (k n q : Nat) (st : List Nat) (M : Mem) : Prop := FSt tp Tn ml f s k n M ∨ ∃ n' pd cm, LSt tp Tn ml f s k n q q st n' pd cm M
def BAm (ml : Bool) (M : Mem) : Prop := WT33 M ∧ M.1 253 21 = if ml then 7 else 28
theorem BAm.fr (h : BAm ml M) (hf : Fr (XWr f) M M') : BAm ml M' := ⟨fun i hi => (hf.j (by unfold XWr; omega)).trans (h.1 i hi), (hf.i (by unfold XWr; omega)).trans h.2⟩
def PAx (tp : Nat → Int32) (Tn : Nat) (ml : Bool) (f x q D p : Nat) : Prop := ∀ st n c M, nst st = p → rkt st < q → st.head? ≠ some 10003 → BAm ml M → TB tp Tn n M → RCd ml f c M → f + c.length ≤ n → Hm (evD D x [vR 12 0 253, vI (Int32.ofNat p)] M) (fun r M' => r = none ∧ Fr (XWr f) M M' ∧ XOt tp Tn ml f (0, n, st, c) (f + c.length) n q st M')
/-- a join is told behind what it joins -/
theorem FSt.em {s s2 : MS} {k2 n2 : Nat} {o a : Int32} (h : FSt tp Tn ml f s2 k2 n2 M) (hr : Rch tp Tn ml (.inl s) (.inl s2)) (hk : k2 + n + 1 ≤ n2 + k) (hn : k ≤ n) : ∃ M3, (∀ d, evD (d + 1) 232 [vR 12 0 253, vI o, vI a] M = some (none, M3)) ∧ (Fr (XWr f) M M3) ∧ FSt tp Tn ml f s k n M3 := by
  obtain ⟨e, n', k', h1, h2, h3, h4, h5, h6, h7⟩ := h
  refine ⟨emM M k' o a, fun d => sp232 h4 (by omega), emM_x h7, e, n', k' + 1, hr.tr h1, h2.em, (emM_fr.i (by omega)).trans h3, sI_eq, by omega, h6, by omega⟩
theorem LSt.em {s : MS} {q qe k2 n2 n' j : Nat} {c2 pd cm : List Nat} {a : Int32} (h : LSt tp Tn ml f (0, n2, j :: st, c2) k2 n2 (q + 1) qe (j :: st) n' pd cm M) (hr : Rch tp Tn ml (.inl s) (.inl (0, n2, j :: st, c2))) (hk : k2 + n + 1 ≤ n2 + k) (hn : k ≤ n) (hj : wrk j = q) (hj1 : 10003 ≤ j) (hs : SG tp Tn) (hn2 : n < n2) : (∀ d, evD (d + 1) 232 [vR 12 0 253, vI (opO (Int32.ofNat j)), vI a] M = some (none, emM M (f + (cm ++ pd).length) (opO (Int32.ofNat j)) a)) ∧ LSt tp Tn ml f s k n q qe st n' (pd ++ [j]) cm (emM M (f + (cm ++ pd).length) (opO (Int32.ofNat j)) a) := by
  obtain ⟨h1, h2, h3, h4, h5, h6, h7⟩ := h
  have hn' := h3.le hs
  refine ⟨fun d => sp232 h4.1 (by omega), ?_, ?_, h3.em, ?_, by omega, ?_, fun z => ?_⟩
  · rw [List.append_assoc]; exact hr.tr h1
  · intro w hw
    rcases List.mem_append.mp hw with hw | hw
    · have := h2 w hw; omega
    · rw [List.mem_singleton.mp hw]; omega
  · rw [← List.append_assoc]; exact h4.em (fun z => by omega) (fun _ z => by omega)
  · rw [← List.append_assoc, List.length_append (as := cm ++ pd)]; show f + ((cm ++ pd).length + 1) + n ≤ n' + k; omega
  · obtain ⟨a1, a2, a3⟩ := h7 z
    exact ⟨a1, a2, hr.tr a3⟩
/-- ranks of what stands here -/
theorem jr4 (h : isSN tp Tn n 42 = true) : jnw tp Tn n = 10004 := by unfold jnw; rw [if_pos h]
theorem jr3 (h : isSN tp Tn n 43 = true) : jnw tp Tn n = 10005 := by unfold jnw; rw [sn_1 h (show 43 ≠ 42 by omega), h]; rfl
theorem jr3' (h : isSN tp Tn n 45 = true) : jnw tp Tn n = 10006 := by unfold jnw; rw [sn_1 h (show 45 ≠ 42 by omega), sn_1 h (show 45 ≠ 43 by omega), h]; rfl
theorem jr2 (h : isSN tp Tn n 60 = true) : jnw tp Tn n = 10007 := by unfold jnw; rw [sn_1 h (show 60 ≠ 42 by omega), sn_1 h (show 60 ≠ 43 by omega), sn_1 h (show 60 ≠ 45 by omega), h]; rfl
theorem jr2' (h : isSN tp Tn n 61 = true) : jnw tp Tn n = 10008 := by unfold jnw; rw [sn_1 h (show 61 ≠ 42 by omega), sn_1 h (show 61 ≠ 43 by omega), sn_1 h (show 61 ≠ 45 by omega), sn_1 h (show 61 ≠ 60 by omega), h]; rfl
theorem jr1 (h : isWN tp Tn n (kwd 26) = true) : jnw tp Tn n = 10009 := by
  have a : ∀ k, isSN tp Tn n k = false := fun k => wn_s h
  unfold jnw; rw [a, a, a, a, a, h]; rfl
theorem jr1' (h : isWN tp Tn n (kwd 27) = true) : jnw tp Tn n = 10010 := by
  have a : ∀ k, isSN tp Tn n k = false := fun k => wn_s h
  unfold jnw; rw [a, a, a, a, a, wn_1 h (show 27 < 33 by omega) (show 26 < 33 by omega) (by omega), h]; rfl
theorem jrk : (wrk (jnw tp Tn n) = 4 → isSN tp Tn n 42 = true) ∧ (wrk (jnw tp Tn n) = 3 → isSN tp Tn n 43 = true ∨ isSN tp Tn n 45 = true) ∧ (wrk (jnw tp Tn n) = 2 → isSN tp Tn n 60 = true ∨ isSN tp Tn n 61 = true) ∧ (wrk (jnw tp Tn n) = 1 → isWN tp Tn n (kwd 26) = true ∨ isWN tp Tn n (kwd 27) = true) := by
  have w0 : wrk 0 = 0 ∧ wrk 10004 = 4 ∧ wrk 10005 = 3 ∧ wrk 10006 = 3 ∧ wrk 10007 = 2 ∧ wrk 10008 = 2 ∧ wrk 10009 = 1 ∧ wrk 10010 = 1 := by decide
  obtain ⟨v0, v1, v2, v3, v4, v5, v6, v7⟩ := w0
  by_cases h1 : isSN tp Tn n 42 = true
  · rw [jr4 h1, v1]; exact ⟨fun _ => h1, fun z => by omega, fun z => by omega, fun z => by omega⟩
  by_cases h2 : isSN tp Tn n 43 = true
  · rw [jr3 h2, v2]; exact ⟨fun z => by omega, fun z => .inl h2, fun z => by omega, fun z => by omega⟩
  by_cases h3 : isSN tp Tn n 45 = true
  · rw [jr3' h3, v3]; exact ⟨fun z => by omega, fun z => .inr h3, fun z => by omega, fun z => by omega⟩
  by_cases h4 : isSN tp Tn n 60 = true
  · rw [jr2 h4, v4]; exact ⟨fun z => by omega, fun z => by omega, fun z => .inl h4, fun z => by omega⟩
  by_cases h5 : isSN tp Tn n 61 = true
  · rw [jr2' h5, v5]; exact ⟨fun z => by omega, fun z => by omega, fun z => .inr h5, fun z => by omega⟩
  by_cases h6 : isWN tp Tn n (kwd 26) = true
  · rw [jr1 h6, v6]; exact ⟨fun z => by omega, fun z => by omega, fun z => by omega, fun z => .inl h6⟩
  by_cases h7 : isWN tp Tn n (kwd 27) = true
  · rw [jr1' h7, v7]; exact ⟨fun z => by omega, fun z => by omega, fun z => by omega, fun z => .inr h7⟩
  have : jnw tp Tn n = 0 := by unfold jnw; rw [if_neg h1, if_neg h2, if_neg h3, if_neg h4, if_neg h5, if_neg h6, if_neg h7]
  rw [this, v0]; exact ⟨fun z => by omega, fun z => by omega, fun z => by omega, fun z => by omega⟩
theorem jn41 (h : jnw tp Tn n ≠ 0) : isSN tp Tn n 41 = false := by
  refine nf (fun z => h ?_)
  have a : ∀ k, 41 ≠ k → isSN tp Tn n k = false := fun k hk => sn_1 z hk
  unfold jnw; rw [a _ (by omega), a _ (by omega), a _ (by omega), a _ (by omega), a _ (by omega), sn_w z, sn_w z]; rfl
theorem jn_k (h : jnw tp Tn n ≠ 0) : kS tp Tn n ≠ 0 := by
  have := (jnw_rk h).1
  obtain ⟨a, b, c, e⟩ := jrk (tp := tp) (Tn := Tn) (n := n)
  have := wrk_le (w := jnw tp Tn n)
  by_cases x4 : wrk (jnw tp Tn n) = 4
  · exact isSN_k (a x4)
  by_cases x3 : wrk (jnw tp Tn n) = 3
  · rcases b x3 with z | z <;> exact isSN_k z
  by_cases x2 : wrk (jnw tp Tn n) = 2
  · rcases c x2 with z | z <;> exact isSN_k z
  · rcases e (by omega) with z | z <;> exact isWN_k z
theorem nst_j (h : jnw tp Tn n ≠ 0) : nst (jnw tp Tn n :: st) = nst st := by
  show nst st + (if _ then 1 else 0) = nst st
  rw [if_neg (by have := (jnw_rk h).1; omega)]; rfl
theorem hd_j (h : jnw tp Tn n ≠ 0) : (jnw tp Tn n :: st).head? ≠ some 10003 := fun z => (jnw_rk h).2.1 (Option.some.inj z)
/-- at a join that is not a comparison the machine goes on behind it -/
theorem LSt.jn {s : MS} {q qe n' k : Nat} {pd cm : List Nat} (h : LSt tp Tn ml f s k n q qe st n' pd cm M) (hj : jnw tp Tn n' ≠ 0) (hq : wrk (jnw tp Tn n') = q) (h2 : q ≠ 2) (hr : rkt st < q) : Rch tp Tn ml (.inl s) (.inl (0, n' + 1, jnw tp Tn n' :: st, cm ++ pd)) := by
  subst hq
  exact h.1.tr (Rch.sp (ms_jn (jn41 hj) hj h2 h.2.1 hr))
theorem LSt.jc {s : MS} {qe n' k : Nat} {pd cm : List Nat} (h : LSt tp Tn ml f s k n 3 qe st n' pd cm M) (hj : jnw tp Tn n' ≠ 0) (hq : wrk (jnw tp Tn n') = 2) (hr : rkt st < 2) : Rch tp Tn ml (.inl s) (.inl (0, n' + 1, jnw tp Tn n' :: st, cm ++ pd)) := h.1.tr (Rch.sp (ms_cm (jn41 hj) hj hq h.2.1 hr))
theorem LSt.wk {s : MS} {q q' qe n' k : Nat} {pd cm : List Nat} (h : LSt tp Tn ml f s k n q qe st n' pd cm M) (hq : q' ≤ q) : LSt tp Tn ml f s k n q' qe st n' pd cm M := ⟨h.1, fun w hw => Nat.le_trans hq (h.2.1 w hw), h.2.2⟩
/-- taking a join -/
theorem LSt.tk {s : MS} {q qe n' k : Nat} {pd cm : List Nat} (h : LSt tp Tn ml f s k n q qe st n' pd cm M) (hj : jnw tp Tn n' ≠ 0) : TB tp Tn (n' + 1) (sI M 253 7 (Int32.ofNat (n' + 1))) ∧ RCd ml f (cm ++ pd) (sI M 253 7 (Int32.ofNat (n' + 1))) ∧ Fr (XWr f) M (sI M 253 7 (Int32.ofNat (n' + 1))) := ⟨h.2.2.1.s (jn_k hj), h.2.2.2.1.fr (Fr.rf.sI (by unfold R78; omega)), Fr.rf.sI (by unfold XWr; omega)⟩
/-- the step of a level: behind the join, and it told -/
theorem lev {s : MS} {q qe n' k : Nat} {pd cm : List Nat} {M2 : Mem} {o : Int32} (hs : SG tp Tn) (hkn : k ≤ n) (h : LSt tp Tn ml f s k n q qe st n' pd cm M) (hj : jnw tp Tn n' ≠ 0) (hq : wrk (jnw tp Tn n') = q) (h2 : q ≠ 2) (hr : rkt st < q) (ho : o = opO (Int32.ofNat (jnw tp Tn n')))
    (hx : XOt tp Tn ml f (0, n' + 1, jnw tp Tn n' :: st, cm ++ pd) (f + (cm ++ pd).length) (n' + 1) (q + 1) (jnw tp Tn n' :: st) M2) : ∃ M3, (∀ d, evD (d + 1) 232 [vR 12 0 253, vI o, vI 0] M2 = some (none, M3)) ∧ Fr (XWr f) M2 M3 ∧ (FSt tp Tn ml f s k n M3 ∨ ∃ n2 pd' cm', n' < n2 ∧ LSt tp Tn ml f s k n q (q + 1) st n2 pd' cm' M3) := by
  have hR := h.jn hj hq h2 hr
  have h5 := h.2.2.2.2.1
  have h6 := h.2.2.2.2.2.1
  subst ho
  rcases hx with hx | ⟨n2, pd', cm', hx⟩
  · obtain ⟨M3, a, b, c⟩ := hx.em (n := n) (k := k) (o := opO (Int32.ofNat (jnw tp Tn n'))) (a := 0) hR (by omega) hkn
    exact ⟨M3, a, b, .inl c⟩
  · have hg := hx.2.2.2.2.1
    obtain ⟨a, b⟩ := hx.em (n := n) (k := k) (a := 0) hR (by omega) hkn hq (by have := (jnw_rk hj).2.2.2; omega) hs (by omega)
    exact ⟨_, a, emM_x (by omega), .inr ⟨n2, _, cm', by omega, b⟩⟩
theorem FSt.tf {s : MS} (h : FSt tp Tn ml f s k n M) : ∃ e, TFa e M := by
  obtain ⟨e, _, _, _, h2, _⟩ := h; exact ⟨e, h2⟩
theorem i1000 {s : MS} {q qe n' k : Nat} {pd cm : List Nat} (hs : SG tp Tn) (h : LSt tp Tn ml f s k n q qe st n' pd cm M) : n' ≤ 1000 := h.2.2.1.le hs
/-- products -/
theorem px229 {D p : Nat} (hs : SG tp Tn) (h0 : PAx tp Tn ml f 230 5 (D + 2) p) : PAx tp Tn ml f 229 4 (D + 3) p := by
  intro st n c M hp hr hh hB hT hR hn
  rw [e229]
  refine Hm_cVv (h0 st n c M hp (by omega) hh hB hT hR hn) (fun M1 ⟨f1, x1⟩ => ?_)
  rw [lp0_eq]
  refine lp_ms (d := D + 2) (x := 229) (pc := 5) 1 10 (fun m lv M2 => lv = [some (vR 12 0 253), some (vI (Int32.ofNat p))] ∧ Fr (XWr f) M M2 ∧ (FSt tp Tn ml f (0, n, st, c) (f + c.length) n M2 ∨ ∃ n' pd cm, 1001 ≤ m + n' ∧ LSt tp Tn ml f (0, n, st, c) (f + c.length) n 4 5 st n' pd cm M2)) ?_ 1001 _ M1 20000 (by omega) ⟨rfl, f1, x1.imp_right (fun ⟨n', pd, cm, h⟩ => ⟨n', pd, cm, by omega, h.wk (by omega)⟩)⟩
  rintro m lv M2 F hF ⟨rfl, f2, x2⟩ z
  obtain ⟨G, rfl⟩ : ∃ G, F = G + 1 := ⟨F - 1, by omega⟩
  rw [e229_5]
  rcases x2 with x2 | ⟨n', pd, cm, hm, x2⟩
  · obtain ⟨e, hfa⟩ := x2.tf
    rw [sp233f hfa, cIn_s, ic_t rfl]
    exact Hm_some ⟨rfl, f2, .inl x2⟩
  · have hb := x2.2.2.1
    have h1000 := i1000 hs x2
    rw [sp233 (k := 42) (E := 42) rfl hs (by omega) hb, cIn_s]
    by_cases hy : isSN tp Tn n' 42 = true
    · have ej := jr4 hy
      have hj : jnw tp Tn n' ≠ 0 := by rw [ej]; omega
      have hq : wrk (jnw tp Tn n') = 4 := by rw [ej]; rfl
      have ho : opO (Int32.ofNat (jnw tp Tn n')) = 6 := by rw [ej]; decide
      obtain ⟨t1, t2, t3⟩ := x2.tk hj
      rw [hy, ic_f (by decide), if_pos rfl]
      have hlen := x2.2.2.2.2.2.1
      refine Hm_cVv (h0 (jnw tp Tn n' :: st) (n' + 1) (cm ++ pd) _ (by rw [nst_j hj]; exact hp) (by show wrk (jnw tp Tn n') < 5; omega) (hd_j hj) (hB.fr (f2.tr t3)) t1 t2 (by omega)) (fun M3 ⟨f3, x3⟩ => ?_)
      obtain ⟨M4, e4, f4, x4⟩ := lev (o := 6) hs hn x2 hj hq (by omega) hr ho.symm x3
      rw [e4, cVd_s]
      exact z (m - 1) _ M4 G (by omega) (by omega) ⟨rfl, ((f2.tr t3).tr f3).tr f4, x4.imp_right (fun ⟨n2, pd', cm', g, h⟩ => ⟨n2, pd', cm', by omega, h⟩)⟩
    · rw [nf hy, ic_t (by decide), if_neg (by decide)]
      refine Hm_some ⟨rfl, f2, .inr ⟨n', pd, cm, x2.1, x2.2.1, hb, x2.2.2.2.1, x2.2.2.2.2.1, x2.2.2.2.2.2.1, fun y => ?_⟩⟩
      have := wrk_le (w := jnw tp Tn n')
      exact absurd (jrk.1 (by omega)) hy
/-- sums -/
theorem px228 {D p : Nat} (hs : SG tp Tn) (h0 : PAx tp Tn ml f 229 4 (D + 3) p) : PAx tp Tn ml f 228 3 (D + 4) p := by
  intro st n c M hp hr hh hB hT hR hn
  rw [e228]
  refine Hm_cVv (h0 st n c M hp (by omega) hh hB hT hR hn) (fun M1 ⟨f1, x1⟩ => ?_)
  rw [lp0_eq]
  refine lp_ms (d := D + 3) (x := 228) (pc := 5) 1 10 (fun m lv M2 => (∃ o, lv = [some (vR 12 0 253), some (vI (Int32.ofNat p)), o]) ∧ Fr (XWr f) M M2 ∧ (FSt tp Tn ml f (0, n, st, c) (f + c.length) n M2 ∨ ∃ n' pd cm, 1001 ≤ m + n' ∧ LSt tp Tn ml f (0, n, st, c) (f + c.length) n 3 4 st n' pd cm M2)) ?_ 1001 _ M1 20000 (by omega) ⟨⟨_, rfl⟩, f1, x1.imp_right (fun ⟨n', pd, cm, h⟩ => ⟨n', pd, cm, by omega, h.wk (by omega)⟩)⟩
  rintro m lv M2 F hF ⟨⟨o, rfl⟩, f2, x2⟩ z
  obtain ⟨G, rfl⟩ : ∃ G, F = G + 1 := ⟨F - 1, by omega⟩
  rw [e228_5]
  rcases x2 with x2 | ⟨n', pd, cm, hm, x2⟩
  · obtain ⟨e, hfa⟩ := x2.tf
    rw [sp231f hfa, cIn_s, ic_t rfl, sp231f hfa, cIn_s, ic_t rfl]
    exact Hm_some ⟨rfl, f2, .inl x2⟩
  · have hb := x2.2.2.1
    have h1000 := i1000 hs x2
    have hlen := x2.2.2.2.2.2.1
    have s43 : ∀ d, evD (d + 1) 231 [vR 12 0 253, vI 43] M2 = _ := fun d => sp231 (d := d) (k := 43) hs (by omega) hb
    have s45 : ∀ d, evD (d + 1) 231 [vR 12 0 253, vI 45] M2 = _ := fun d => sp231 (d := d) (k := 45) hs (by omega) hb
    have go : ∀ (o' : Int32) (lv : Lv), jnw tp Tn n' ≠ 0 → wrk (jnw tp Tn n') = 3 → opO (Int32.ofNat (jnw tp Tn n')) = o' → (∃ o, lv = [some (vR 12 0 253), some (vI (Int32.ofNat p)), o]) → Hm (cVd (evD (D + 3) 229 [vR 12 0 253, vI (Int32.ofNat p)] (sI M2 253 7 (M2.1 253 7 + 1))) fun M5 => cVd (evD (D + 3) 232 [vR 12 0 253, vI o', vI 0] M5) fun M6 => lp (D + 3) 228 G 5 lv M6) (fun r M' => r = none ∧ Fr (XWr f) M M' ∧ XOt tp Tn ml f (0, n, st, c) (f + c.length) n 3 st M') := by
      intro o' lv hj hq ho hlv
      obtain ⟨t1, t2, t3⟩ := x2.tk hj
      rw [hb.2.2.1, i_addl]
      refine Hm_cVv (h0 (jnw tp Tn n' :: st) (n' + 1) (cm ++ pd) _ (by rw [nst_j hj]; exact hp) (by show wrk (jnw tp Tn n') < 4; omega) (hd_j hj) (hB.fr (f2.tr t3)) t1 t2 (by omega)) (fun M3 ⟨f3, x3⟩ => ?_)
      obtain ⟨M4, e4, f4, x4⟩ := lev (o := o') hs hn x2 hj hq (by omega) hr ho.symm x3
      rw [e4, cVd_s]
      exact z (m - 1) _ M4 G (by omega) (by omega) ⟨hlv, ((f2.tr t3).tr f3).tr f4, x4.imp_right (fun ⟨n2, pd', cm', g, h⟩ => ⟨n2, pd', cm', by omega, h⟩)⟩
    rw [s43, cIn_s]
    by_cases hy : isSN tp Tn n' 43 = true
    · have ej := jr3 hy
      rw [hy, ic_f (by decide), s43, hy, cIn_s]
      simp only [eq_false (show ¬ b2 true = 0 by decide), ic_false]
      exact go 4 _ (by rw [ej]; omega) (by rw [ej]; rfl) (by rw [ej]; decide) ⟨_, rfl⟩
    rw [nf hy, ic_t (by decide), s45, cIn_s]
    by_cases hy' : isSN tp Tn n' 45 = true
    · have ej := jr3' hy'
      rw [hy', ic_f (by decide), s43, nf hy, cIn_s]
      simp only [eq_true (show b2 false = 0 by decide), ic_true]
      exact go 5 _ (by rw [ej]; omega) (by rw [ej]; rfl) (by rw [ej]; decide) ⟨_, rfl⟩
    · rw [nf hy', ic_t (by decide)]
      refine Hm_some ⟨rfl, f2, .inr ⟨n', pd, cm, x2.1, x2.2.1, hb, x2.2.2.2.1, x2.2.2.2.2.1, hlen, fun y => ?_⟩⟩
      by_cases y4 : 4 ≤ wrk (jnw tp Tn n')
      · have := (x2.2.2.2.2.2.2 y4).1; omega
      · rcases jrk.2.1 (show wrk (jnw tp Tn n') = 3 by omega) with g | g
        · exact absurd g hy
        · exact absurd g hy'
/-- a comparison -/
theorem px227 {D p : Nat} (hs : SG tp Tn) (h0 : PAx tp Tn ml f 228 3 (D + 4) p) : PAx tp Tn ml f 227 2 (D + 5) p := by
  intro st n c M hp hr hh hB hT hR hn
  rw [e227]
  refine Hm_cVv (h0 st n c M hp (by omega) hh hB hT hR hn) (fun M1 ⟨f1, x1⟩ => ?_)
  rcases x1 with x1 | ⟨n', pd, cm, x1⟩
  · obtain ⟨e, hfa⟩ := x1.tf
    rw [sp231f hfa, cIn_s, sp233f hfa, cIn_s, ic_t rfl, sp233f hfa, cIn_s, ic_t rfl]
    exact Hm_some ⟨rfl, f1, .inl x1⟩
  · have hb := x1.2.2.1
    have h1000 := i1000 hs x1
    have hlen := x1.2.2.2.2.2.1
    have go : ∀ (o' : Int32), jnw tp Tn n' ≠ 0 → wrk (jnw tp Tn n') = 2 → opO (Int32.ofNat (jnw tp Tn n')) = o' → Hm (cVd (evD (D + 4) 228 [vR 12 0 253, vI (Int32.ofNat p)] (sI M1 253 7 (Int32.ofNat (n' + 1)))) fun M5 => cVd (evD (D + 4) 232 [vR 12 0 253, vI o', vI 0] M5) fun M6 => some (none, M6)) (fun r M' => r = none ∧ Fr (XWr f) M M' ∧ XOt tp Tn ml f (0, n, st, c) (f + c.length) n 2 st M') := by
      intro o' hj hq ho
      obtain ⟨t1, t2, t3⟩ := x1.tk hj
      have hRc := x1.jc hj hq hr
      subst ho
      refine Hm_cVv (h0 (jnw tp Tn n' :: st) (n' + 1) (cm ++ pd) _ (by rw [nst_j hj]; exact hp) (by show wrk (jnw tp Tn n') < 3; omega) (hd_j hj) (hB.fr (f1.tr t3)) t1 t2 (by omega)) (fun M3 ⟨f3, x3⟩ => ?_)
      rcases x3 with x3 | ⟨n2, pd', cm', x3⟩
      · obtain ⟨M4, e4, f4, x4⟩ := x3.em (n := n) (k := f + c.length) (o := opO (Int32.ofNat (jnw tp Tn n'))) (a := 0) hRc (by omega) hn
        rw [e4, cVd_s]
        exact Hm_some ⟨rfl, ((f1.tr t3).tr f3).tr f4, .inl x4⟩
      · have hg := x3.2.2.2.2.1
        have hg' := x1.2.2.2.2.1
        obtain ⟨a, b⟩ := x3.em (n := n) (k := f + c.length) (a := 0) hRc (by omega) hn hq (by have := (jnw_rk hj).2.2.2; omega) hs (by omega)
        rw [a, cVd_s]
        refine Hm_some ⟨rfl, ((f1.tr t3).tr f3).tr (emM_x (by omega)), .inr ⟨n2, _, cm', b.1, b.2.1, b.2.2.1, b.2.2.2.1, b.2.2.2.2.1, b.2.2.2.2.2.1, fun y => ?_⟩⟩
        by_cases y3 : 3 ≤ wrk (jnw tp Tn n2)
        · have := (x3.2.2.2.2.2.2 y3).1; omega
        · have y2 : wrk (jnw tp Tn n2) = 2 := by omega
          have hj2 : jnw tp Tn n2 ≠ 0 := fun y => by rw [y] at y2; exact absurd y2 (by decide)
          exact ⟨by omega, y2, (hRc.tr x3.1).tr (Rch.sp (ms_cb (jn41 hj2) hj2 y2 x3.2.1 hq))⟩
    have s60 : ∀ d, evD (d + 1) 231 [vR 12 0 253, vI 60] M1 = _ := fun d => sp231 (d := d) (k := 60) hs (by omega) hb
    rw [s60, cIn_s, sp233 (k := 60) (E := 60) rfl hs (by omega) hb, cIn_s]
    by_cases hy : isSN tp Tn n' 60 = true
    · have ej := jr2 hy
      rw [hy, ic_f (by decide), if_pos rfl]
      simp only [eq_false (show ¬ b2 true = 0 by decide), ic_false]
      exact go 7 (by rw [ej]; omega) (by rw [ej]; rfl) (by rw [ej]; decide)
    rw [nf hy, ic_t (by decide), if_neg (by decide), sp233 (k := 61) (E := 61) rfl hs (by omega) hb, cIn_s]
    by_cases hy' : isSN tp Tn n' 61 = true
    · have ej := jr2' hy'
      rw [hy', ic_f (by decide), if_pos rfl]
      simp only [eq_true (show b2 false = 0 by decide), ic_true]
      exact go 8 (by rw [ej]; omega) (by rw [ej]; rfl) (by rw [ej]; decide)
    · rw [nf hy', ic_t (by decide), if_neg (by decide)]
      refine Hm_some ⟨rfl, f1, .inr ⟨n', pd, cm, x1.1, fun w hw => Nat.le_trans (by omega) (x1.2.1 w hw), hb, x1.2.2.2.1, x1.2.2.2.2.1, hlen, fun y => ?_⟩⟩
      by_cases y3 : 3 ≤ wrk (jnw tp Tn n')
      · have := (x1.2.2.2.2.2.2 y3).1; omega
      · rcases jrk.2.2.1 (show wrk (jnw tp Tn n') = 2 by omega) with g | g
        · exact absurd g hy
        · exact absurd g hy'
/-- all of it -/
theorem px226 {D p : Nat} (hs : SG tp Tn) (h0 : PAx tp Tn ml f 227 2 (D + 5) p) : PAx tp Tn ml f 226 1 (D + 6) p := by
  intro st n c M hp hr hh hB hT hR hn
  rw [e226]
  refine Hm_cVv (h0 st n c M hp (by omega) hh hB hT hR hn) (fun M1 ⟨f1, x1⟩ => ?_)
  rw [lp0_eq]
  refine lp_ms (d := D + 5) (x := 226) (pc := 5) 1 10 (fun m lv M2 => (∃ o, lv = [some (vR 12 0 253), some (vI (Int32.ofNat p)), o]) ∧ Fr (XWr f) M M2 ∧ (FSt tp Tn ml f (0, n, st, c) (f + c.length) n M2 ∨ ∃ n' pd cm, 1001 ≤ m + n' ∧ LSt tp Tn ml f (0, n, st, c) (f + c.length) n 1 2 st n' pd cm M2)) ?_ 1001 _ M1 20000 (by omega) ⟨⟨_, rfl⟩, f1, x1.imp_right (fun ⟨n', pd, cm, h⟩ => ⟨n', pd, cm, by omega, h.wk (by omega)⟩)⟩
  rintro m lv M2 F hF ⟨⟨o, rfl⟩, f2, x2⟩ z
  obtain ⟨G, rfl⟩ : ∃ G, F = G + 1 := ⟨F - 1, by omega⟩
  rw [e226_5]
  rcases x2 with x2 | ⟨n', pd, cm, hm, x2⟩
  · obtain ⟨e, hfa⟩ := x2.tf
    rw [sp206f hfa, cIn_s, ic_t rfl, sp206f hfa, cIn_s, ic_t rfl]
    exact Hm_some ⟨rfl, f2, .inl x2⟩
  · have hb := x2.2.2.1
    have h1000 := i1000 hs x2
    have hlen := x2.2.2.2.2.2.1
    have hW := (hB.fr f2).1
    have s26 : ∀ d, evD (d + 1) 206 [vR 12 0 253, vI 26] M2 = _ := fun d => sp206 (d := d) (w := 26) hs (by omega) hW hb
    have s27 : ∀ d, evD (d + 1) 206 [vR 12 0 253, vI 27] M2 = _ := fun d => sp206 (d := d) (w := 27) hs (by omega) hW hb
    have go : ∀ (o' : Int32) (lv : Lv), jnw tp Tn n' ≠ 0 → wrk (jnw tp Tn n') = 1 → opO (Int32.ofNat (jnw tp Tn n')) = o' → (∃ o, lv = [some (vR 12 0 253), some (vI (Int32.ofNat p)), o]) → Hm (cVd (evD (D + 5) 227 [vR 12 0 253, vI (Int32.ofNat p)] (sI M2 253 7 (M2.1 253 7 + 1))) fun M5 => cVd (evD (D + 5) 232 [vR 12 0 253, vI o', vI 0] M5) fun M6 => lp (D + 5) 226 G 5 lv M6) (fun r M' => r = none ∧ Fr (XWr f) M M' ∧ XOt tp Tn ml f (0, n, st, c) (f + c.length) n 1 st M') := by
      intro o' lv hj hq ho hlv
      obtain ⟨t1, t2, t3⟩ := x2.tk hj
      rw [hb.2.2.1, i_addl]
      refine Hm_cVv (h0 (jnw tp Tn n' :: st) (n' + 1) (cm ++ pd) _ (by rw [nst_j hj]; exact hp) (by show wrk (jnw tp Tn n') < 2; omega) (hd_j hj) (hB.fr (f2.tr t3)) t1 t2 (by omega)) (fun M3 ⟨f3, x3⟩ => ?_)
      obtain ⟨M4, e4, f4, x4⟩ := lev (o := o') hs hn x2 hj hq (by omega) hr ho.symm x3
      rw [e4, cVd_s]
      exact z (m - 1) _ M4 G (by omega) (by omega) ⟨hlv, ((f2.tr t3).tr f3).tr f4, x4.imp_right (fun ⟨n2, pd', cm', g, h⟩ => ⟨n2, pd', cm', by omega, h⟩)⟩
    rw [s26, cIn_s]
    by_cases hy : isWN tp Tn n' (kwd 26) = true
    · have ej := jr1 hy
      rw [hy, ic_f (by decide), s26, hy, cIn_s]
      simp only [eq_false (show ¬ b2 true = 0 by decide), ic_false]
      exact go 9 _ (by rw [ej]; omega) (by rw [ej]; rfl) (by rw [ej]; decide) ⟨_, rfl⟩
    rw [nf hy, ic_t (by decide), s27, cIn_s]
    by_cases hy' : isWN tp Tn n' (kwd 27) = true
    · have ej := jr1' hy'
      rw [hy', ic_f (by decide), s26, nf hy, cIn_s]
      simp only [eq_true (show b2 false = 0 by decide), ic_true]
      exact go 10 _ (by rw [ej]; omega) (by rw [ej]; rfl) (by rw [ej]; decide) ⟨_, rfl⟩
    · rw [nf hy', ic_t (by decide)]
      refine Hm_some ⟨rfl, f2, .inr ⟨n', pd, cm, x2.1, x2.2.1, hb, x2.2.2.2.1, x2.2.2.2.2.1, hlen, fun y => ?_⟩⟩
      by_cases y2 : 2 ≤ wrk (jnw tp Tn n')
      · obtain ⟨b1, b2, b3⟩ := x2.2.2.2.2.2.2 y2
        exact ⟨by omega, b2, b3⟩
      · rcases jrk.2.2.2 (show wrk (jnw tp Tn n') = 1 by omega) with g | g
        · exact absurd g hy
        · exact absurd g hy'
end REXP
