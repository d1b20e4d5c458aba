/-! YARD: the class's lines, one whole each -/
section CLINE2
variable {tp : Nat → Int32} {Tn d n : Nat} {M M' M'' M0 : Mem} {D D' : Dr}
/-- what a line comes to -/
def lpst (tp : Nat → Int32) (Tn : Nat) (o : OD) (r : Option AV) (M : Mem) : Prop := match o with | .inl (D', n') => r = some (vI 1) ∧ TA tp Tn n' M ∧ vis tp Tn n' ∧ DCl D' M | .inr e => r = some (vI 0) ∧ M.1 1 1 = Int32.ofNat e
theorem lpst_of {o : Option Nat} {r : Option AV} (h : pst tp Tn o D n r M) : lpst tp Tn (fin1 o D n) r M := by
  cases o with
  | none => exact h
  | some e => exact h
theorem lfin {R : Res} {o : Option Nat} (h : Hm R (fun r M' => Fr DWc M0 M' ∧ pst tp Tn o D n r M')) : Hm R (fun r M' => Fr DWc M0 M' ∧ lpst tp Tn (fin1 o D n) r M') := Hm_mono h (fun r M' x => ⟨x.1, lpst_of x.2⟩)
/-- a line half read: what is written of a new one -/
def PGn (q : Nat) (w : List Nat) (rows : List (Nat × Nat)) (D : Dr) (M M' : Mem) : Prop := Fr (FWn q (D.cs q)) M M' ∧ M'.1 (27 + 2 * q) 0 = Int32.ofNat (D.cs q + 1) ∧ M'.2.1 (28 + 2 * q) (D.cs q) = wc 32 w ∧ ∀ p ∈ rows, rwq p.1 q ∧ M'.1 p.1 (D.cs q) = Int32.ofNat p.2
theorem rwq_b {c q : Nat} (h : rwq c q) : 33 ≤ c ∧ c ≤ 40 := by unfold rwq at h; omega
theorem PGn.add {q k v : Nat} {w : List Nat} {rows : List (Nat × Nat)} (h : PGn q w rows D M M') (hq : q < 3) (hk : rwq k q) (hf : Fr (W51 k (D.cs q)) M' M'') (hv : M''.1 k (D.cs q) = Int32.ofNat v) (hn : ∀ p ∈ rows, p.1 ≠ k) : PGn q w ((k, v) :: rows) D M M'' := by
  have hb := rwq_b hk
  refine ⟨h.1.tr (hf.up (fun c j z => ?_)), ?_, ?_, fun p hp => ?_⟩
  · rcases z with z | z
    · exact .inl z
    · exact .inr (.inr (.inr ⟨by rw [z.1]; exact hk, z.2⟩))
  · rw [hf.i (W51.no (by omega) (.inl (by omega)))]; exact h.2.1
  · rw [hf.j (W51.no (by omega) (.inl (by omega)))]; exact h.2.2.1
  · rcases List.mem_cons.mp hp with rfl | hp
    · exact ⟨hk, hv⟩
    · have h1 := h.2.2.2 p hp
      have hb' := rwq_b h1.1
      refine ⟨h1.1, ?_⟩
      rw [hf.i (W51.no (by omega) (.inl (hn p hp)))]; exact h1.2
theorem PGn.tv {q : Nat} {w : List Nat} {rows : List (Nat × Nat)} (h : PGn q w rows D M M') (hf : Fr TV M' M'') : PGn q w rows D M M'' := by
  have no : ∀ c j, c ≠ 1 → ¬ TV c j := fun c j hc z => hc z.1
  refine ⟨h.1.tr (hf.up (fun c j z => .inl z)), ?_, ?_, fun p hp => ⟨(h.2.2.2 p hp).1, ?_⟩⟩
  · rw [hf.i (no _ _ (by omega))]; exact h.2.1
  · rw [hf.j (no _ _ (by omega))]; exact h.2.2.1
  · have hb' := rwq_b (h.2.2.2 p hp).1
    rw [hf.i (no _ _ (by omega))]; exact (h.2.2.2 p hp).2
theorem FWn.dw {q i : Nat} (hq : q < 3) : ∀ c j, FWn q i c j → DWc c j := fun c j z => by
  rcases z with z | z | z | z
  · exact .inl z
  · exact .inr (by omega)
  · exact .inr (by omega)
  · have := rwq_b z.1; exact .inr (by omega)
theorem W43.fw {q i : Nat} : ∀ c j, W43 q i c j → FWn q i c j := fun c j z => by
  rcases z with z | z | z
  · exact .inl z
  · exact .inr (.inl z)
  · exact .inr (.inr (.inl z))
theorem TVdw : ∀ c j, TV c j → DWc c j := fun c j z => .inl z
theorem PGn.end {q : Nat} {w : List Nat} {rows : List (Nat × Nat)} {val : Nat → Nat} (h : PGn q w rows D M M') (hD : DCl D M) (hq : q < 3) (h6 : D.cs q < 6) (hw : isW w) (hv : ∀ c, rwq c q → (c, val c) ∈ rows) : DCl (D.new q w val) M' :=
  hD.new hq h6 hw h.1 h.2.1 h.2.2.1 (fun c hc => (h.2.2.2 _ (hv c hc)).2)
theorem chk_no {e k : Nat} {l : List (Nat × Nat)} (h : chk tp Tn ((e, k) :: l) = none) : e = 0 ∧ chk tp Tn l = none := by
  by_cases h0 : e = 0
  · exact ⟨h0, by rw [chk_0 h0] at h; exact h⟩
  · rw [chk_1 h0] at h; exact absurd h (by simp)
theorem wO_k {w : Nat} (h : wO tp Tn n w = 0) : kS tp Tn n ≠ 0 := by
  by_cases hy : isWN tp Tn n (kwd w) = true
  · exact isWN_k hy
  · rw [wO_1 hy] at h; omega
theorem sO_k {w : Nat} (h : sO tp Tn n w = 0) : kS tp Tn n ≠ 0 := by
  by_cases hy : isSN tp Tn n w = true
  · exact isSN_k hy
  · rw [sO_1 hy] at h; omega
theorem numO_k {lo hi : Nat} (h : numO tp Tn n lo hi = 0) : kS tp Tn n = 2 ∧ lo ≤ kV tp Tn n ∧ kV tp Tn n ≤ hi := by
  unfold numO at h
  by_cases q : kS tp Tn n = 2
  · rw [if_neg (by omega)] at h
    by_cases z : lo ≤ kV tp Tn n ∧ kV tp Tn n ≤ hi
    · exact ⟨q, z⟩
    · rw [if_neg z] at h; omega
  · rw [if_pos q] at h; omega
theorem full_0 {q : Nat} (h : fullO D q = 0) : D.cs q < 6 := by
  unfold fullO at h
  by_cases z : 6 ≤ D.cs q
  · rw [if_pos z] at h; omega
  · omega
theorem sdO_le : sdO tp Tn n ≤ 2 := by unfold sdO; split; omega; split <;> omega
theorem kdO_le : kdO tp Tn n ≤ 4 := by unfold kdO; split; omega; split; omega; split; omega; split <;> omega
theorem sdO_k (h : (if sdO tp Tn n = 2 then 1 else 0) = 0) : kS tp Tn n ≠ 0 ∧ sdO tp Tn n ≤ 1 := by
  have hl := sdO_le (tp := tp) (Tn := Tn) (n := n)
  have h2 : sdO tp Tn n ≠ 2 := fun z => by rw [if_pos z] at h; omega
  refine ⟨?_, by omega⟩
  unfold sdO at h2
  by_cases h1 : isWN tp Tn n (kwd 19) = true
  · exact isWN_k h1
  · rw [if_neg h1] at h2
    by_cases h3 : isWN tp Tn n (kwd 20) = true
    · exact isWN_k h3
    · rw [if_neg h3] at h2; omega
theorem kdO_k (h : (if kdO tp Tn n = 4 then 1 else 0) = 0) : kS tp Tn n ≠ 0 ∧ kdO tp Tn n ≤ 3 := by
  have hl := kdO_le (tp := tp) (Tn := Tn) (n := n)
  have h2 : kdO tp Tn n ≠ 4 := fun z => by rw [if_pos z] at h; omega
  refine ⟨?_, by omega⟩
  unfold kdO at h2
  by_cases h1 : isWN tp Tn n (kwd 21) = true
  · exact isWN_k h1
  rw [if_neg h1] at h2
  by_cases h3 : isWN tp Tn n (kwd 22) = true
  · exact isWN_k h3
  rw [if_neg h3] at h2
  by_cases h4 : isWN tp Tn n (kwd 23) = true
  · exact isWN_k h4
  rw [if_neg h4] at h2
  by_cases h5 : isWN tp Tn n (kwd 24) = true
  · exact isWN_k h5
  · rw [if_neg h5] at h2; omega
theorem newO_k (h : newO tp Tn D n = 0) : kS tp Tn n = 1 := (isNN_o (newO_o h).1).1
/-- a side -/
theorem sp57c {i : Nat} {E : Int32} (hs : SG tp Tn) (hi : i < 6) (hE : E = Int32.ofNat i) (h : TA tp Tn n M) : Hm (evD (d + 9) 57 [vR 10 0 49, vI E] M) (fun r M' => Fr (W51 34 i) M M' ∧ opst (chk tp Tn [(if sdO tp Tn n = 2 then 1 else 0, n)]) (TA tp Tn (n + 1) M' ∧ M'.1 34 i = Int32.ofNat (sdO tp Tn n)) r M') := by
  subst hE
  have e1 : kwd 19 = stW 6 := rfl
  have e2 : kwd 20 = stW 5 := rfl
  rw [e57, sp35 (is := 5) (d := d + 3) hs (by omega) (by omega) (by omega) h, cIn_s]
  by_cases c5 : isWN tp Tn n (stW 5) = true
  · have h19 : isWN tp Tn n (kwd 19) = false := wn_1 (a := 20) (b := 19) (by rw [e2]; exact c5) (by omega) (by omega) (by omega)
    have sd : sdO tp Tn n = 1 := by unfold sdO; rw [h19, e2, c5]; rfl
    rw [c5, ic_f (by decide), ic_f (by decide), ck (show i < 6 by omega) (by omega), i_nat (by omega)]
    refine Hm_mono (wadv (d := d + 1) hs (by omega) h) (fun r M' ⟨a, b, cc, dd⟩ => ⟨a, ?_⟩)
    rw [sd, chk_0 (by rfl)]
    exact ⟨b, cc, dd⟩
  · rw [nf c5, ic_t (by decide), sp35 (is := 6) (d := d + 3) hs (by omega) (by omega) (by omega) h, cIn_s]
    by_cases c6 : isWN tp Tn n (stW 6) = true
    · have sd : sdO tp Tn n = 0 := by unfold sdO; rw [e1, c6]; rfl
      rw [c6, ic_f (by decide), ic_t (by decide), ck (show i < 6 by omega) (by omega), i_nat (by omega)]
      refine Hm_mono (wadv (d := d + 1) hs (by omega) h) (fun r M' ⟨a, b, cc, dd⟩ => ⟨a, ?_⟩)
      rw [sd, chk_0 (by rfl)]
      exact ⟨b, cc, dd⟩
    · have sd : sdO tp Tn n = 2 := by unfold sdO; rw [e1, e2, nf c5, nf c6]; rfl
      rw [nf c6, ic_t (by decide)]
      refine Hm_mono (sp45c (d := d + 7) (e := 1) rfl h) (fun r M' ⟨a, b, cc⟩ => ⟨cc.up (fun c j z => .inl z), ?_⟩)
      rw [if_pos sd]; exact op1 (by omega) a b
/-- a kind -/
theorem sp59c {i : Nat} {E : Int32} (hs : SG tp Tn) (hi : i < 6) (hE : E = Int32.ofNat i) (h : TA tp Tn n M) : Hm (evD (d + 9) 59 [vR 10 0 49, vI E] M) (fun r M' => Fr (W51 36 i) M M' ∧ opst (chk tp Tn [(if kdO tp Tn n = 4 then 1 else 0, n)]) (TA tp Tn (n + 1) M' ∧ M'.1 36 i = Int32.ofNat (kdO tp Tn n)) r M') := by
  subst hE
  have e1 : kwd 21 = stW 9 := rfl
  have e2 : kwd 22 = stW 10 := rfl
  have e3 : kwd 23 = stW 11 := rfl
  have e4 : kwd 24 = stW 12 := rfl
  have fin : ∀ (v : Nat) (V : Int32), V = Int32.ofNat v → kdO tp Tn n = v → v < 4 → Hm (cVd (evD (d + 8) 11 [vR 7 0 1] (sI M 36 i V)) fun M7 => some (some (vI 1), M7)) (fun r M' => Fr (W51 36 i) M M' ∧ opst (chk tp Tn [(if kdO tp Tn n = 4 then 1 else 0, n)]) (TA tp Tn (n + 1) M' ∧ M'.1 36 i = Int32.ofNat (kdO tp Tn n)) r M') := by
    intro v V hV hk hv
    refine Hm_mono (wadv (d := d + 1) hs (by omega) h) (fun r M' ⟨a, b, cc, dd⟩ => ⟨a, ?_⟩)
    rw [hk, if_neg (by omega), chk_0 rfl]
    exact ⟨b, cc, by rw [dd, hV]⟩
  rw [e59, sp35 (is := 9) (d := d + 3) hs (by omega) (by omega) (by omega) h, cIn_s]
  by_cases c9 : isWN tp Tn n (stW 9) = true
  · rw [c9, ic_f (by decide), ck (show i < 6 by omega) (by omega), i_nat (by omega)]
    exact fin 0 0 rfl (by unfold kdO; rw [e1, c9]; rfl) (by omega)
  rw [nf c9, ic_t (by decide), sp35 (is := 10) (d := d + 3) hs (by omega) (by omega) (by omega) h, cIn_s]
  by_cases c10 : isWN tp Tn n (stW 10) = true
  · rw [c10, ic_f (by decide), ck (show i < 6 by omega) (by omega), i_nat (by omega)]
    exact fin 1 1 rfl (by unfold kdO; rw [e1, e2, nf c9, c10]; rfl) (by omega)
  rw [nf c10, ic_t (by decide), sp35 (is := 11) (d := d + 3) hs (by omega) (by omega) (by omega) h, cIn_s]
  by_cases c11 : isWN tp Tn n (stW 11) = true
  · rw [c11, ic_f (by decide), ck (show i < 6 by omega) (by omega), i_nat (by omega)]
    exact fin 2 2 rfl (by unfold kdO; rw [e1, e2, e3, nf c9, nf c10, c11]; rfl) (by omega)
  rw [nf c11, ic_t (by decide), sp35 (is := 12) (d := d + 3) hs (by omega) (by omega) (by omega) h, cIn_s]
  by_cases c12 : isWN tp Tn n (stW 12) = true
  · rw [c12, ic_f (by decide), ck (show i < 6 by omega) (by omega), i_nat (by omega)]
    exact fin 3 3 rfl (by unfold kdO; rw [e1, e2, e3, e4, nf c9, nf c10, nf c11, c12]; rfl) (by omega)
  have kd4 : kdO tp Tn n = 4 := by unfold kdO; rw [e1, e2, e3, e4, nf c9, nf c10, nf c11, nf c12]; rfl
  rw [nf c12, ic_t (by decide)]
  refine Hm_mono (sp45c (d := d + 7) (e := 1) rfl h) (fun r M' ⟨a, b, cc⟩ => ⟨cc.up (fun c j z => .inl z), ?_⟩)
  rw [if_pos kd4]; exact op1 (by omega) a b
/-- a mover -/
theorem sp60c {i m : Nat} {f : Nat → List Nat} {E : Int32} (hs : SG tp Tn) (hi : i < 6) (hE : E = Int32.ofNat i) (h : TA tp Tn n M) (hR : RL 29 m f M) : Hm (evD (d + 9) 60 [vR 10 0 49, vI E] M) (fun r M' => Fr (W51 40 i) M M' ∧ opst (chk tp Tn [(namO tp Tn n m f, n)]) (TA tp Tn (n + 1) M' ∧ M'.1 40 i = Int32.ofNat (fnd f (kW tp Tn n) m)) r M') := by
  subst hE
  rw [e60]
  refine Hm_cIn (sp61 (d := d + 2) hs h hR) (fun r M1 ⟨f1, x1⟩ => ?_)
  by_cases hn : namO tp Tn n m f = 0
  · rw [if_pos hn] at x1
    obtain ⟨rfl, t1, q3⟩ := x1
    refine ⟨1, rfl, ?_⟩
    rw [ic_f (by decide), ck (show i < 6 by omega) (by omega), i_nat (by omega), q3]
    refine Hm_mono (wadv (d := d + 1) hs (by omega) t1) (fun r M' ⟨a, b, cc, dd⟩ => ⟨(f1.up (fun c j z => .inl z)).tr a, ?_⟩)
    rw [chk_0 hn]
    exact ⟨b, cc, dd⟩
  · rw [if_neg hn] at x1
    obtain ⟨rfl, q⟩ := x1
    refine ⟨0, rfl, ?_⟩
    rw [ic_t rfl]
    exact Hm_some ⟨f1.up (fun c j z => .inl z), op1 hn rfl q⟩
theorem vis5 (h : vis tp Tn n) (h0 : kS tp Tn n ≠ 0) : vis tp Tn (n + 1) := vis_s h h0
theorem clp_end {A : Prop} : (A → Hm (some (some (vI 1), M)) (fun r M'' => Fr DWc M0 M'' ∧ pst tp Tn (chk tp Tn []) D n r M'')) → A → Hm (some (some (vI 1), M)) (fun r M'' => Fr DWc M0 M'' ∧ pst tp Tn none D n r M'') := fun f a => f a
/-- a spot -/
theorem sp42 (hs : SG tp Tn) (h : TA tp Tn n M) (hv : vis tp Tn n) (hk : kS tp Tn n ≠ 0) (hD : DCl D M) : Hm (evD (d + 10) 42 [vR 10 0 49] M) (fun r M' => Fr DWc M M' ∧ lpst tp Tn (pSpot tp Tn D n) r M') := by
  have c0 : M.1 27 0 = Int32.ofNat (D.cs 0) := hD.1.1.1
  have h6 : D.cs 0 ≤ 6 := hD.1.1.2.1
  rw [e42, c0]
  unfold pSpot
  refine lfin ?_
  refine clp [(fullO D 0, n), (newO tp Tn D (n + 1), n + 1)] [(wO tp Tn (n + 2) 1, n + 2), (numO tp Tn (n + 3) 0 9, n + 3), (sO tp Tn (n + 4) 59, n + 4)] (sp43 (d := d) (q := 0) rfl (by omega) hs h hD.1 h6 c0) (fun c j z => FWn.dw (by omega) c j (W43.fw c j z)) Fr.rf (fun M1 f1 a1 q1 => ?_)
  obtain ⟨t1, z1, y1⟩ := a1
  obtain ⟨o1, q1⟩ := chk_no q1
  obtain ⟨o2, -⟩ := chk_no q1
  have i6 := full_0 o1
  have P1 : PGn 0 (kW tp Tn (n + 1)) [] D M M1 := ⟨f1.up W43.fw, z1, y1, fun p hp => absurd hp (by simp)⟩
  refine clp [(wO tp Tn (n + 2) 1, n + 2), (numO tp Tn (n + 3) 0 9, n + 3)] [(sO tp Tn (n + 4) 59, n + 4)] (sp51c (d := d) (w := 1) (lo := 0) (hi := 9) hs (by omega) (by omega) (by omega) rfl rfl rfl (by omega) (by omega) (by omega) i6 rfl t1) (W51.dw (by omega) (by omega)) (P1.1.up (FWn.dw (by omega))) (fun M2 f2 a2 q2 => ?_)
  obtain ⟨t2, z2⟩ := a2
  obtain ⟨o3, q2⟩ := chk_no q2
  obtain ⟨o4, -⟩ := chk_no q2
  have P2 := P1.add (by omega) (show rwq 33 0 by unfold rwq; omega) f2 z2 (fun p hp => absurd hp (by simp))
  refine clp [(sO tp Tn (n + 4) 59, n + 4)] [] (sp54c (d := d + 1) (c := 59) rfl hs (by omega) t2) TVdw (P2.1.up (FWn.dw (by omega))) (fun M3 f3 t3 q3 => ?_)
  obtain ⟨o5, -⟩ := chk_no q3
  have P3 := P2.tv f3
  have k2 : kS tp Tn (n + 1) = 1 := newO_k o2
  have k4 := (numO_k o4).1
  refine Hm_some ⟨P3.1.up (FWn.dw (by omega)), rfl, t3, ?_, P3.end hD (by omega) i6 (wd_isW k2) (fun c hc => ?_)⟩
  · exact vis_s (vis_s (vis_s (vis_s (vis_s hv hk) (by omega)) (wO_k o3)) (by omega)) (sO_k o5)
  · have : c = 33 := by unfold rwq at hc; omega
    subst this; simp
/-- a carver -/
theorem sp56 (hs : SG tp Tn) (h : TA tp Tn n M) (hv : vis tp Tn n) (hk : kS tp Tn n ≠ 0) (hD : DCl D M) : Hm (evD (d + 10) 56 [vR 10 0 49] M) (fun r M' => Fr DWc M M' ∧ lpst tp Tn (pCarv tp Tn D n) r M') := by
  have c0 : M.1 29 0 = Int32.ofNat (D.cs 1) := hD.1.2.1.1
  have h6 : D.cs 1 ≤ 6 := hD.1.2.1.2.1
  rw [e56, c0]
  unfold pCarv
  refine lfin ?_
  refine clp [(fullO D 1, n), (newO tp Tn D (n + 1), n + 1)] [(if sdO tp Tn (n + 2) = 2 then 1 else 0, n + 2), (wO tp Tn (n + 3) 3, n + 3), (numO tp Tn (n + 4) 0 9, n + 4), (sO tp Tn (n + 5) 59, n + 5)] (sp43 (d := d) (q := 1) rfl (by omega) hs h hD.1 h6 c0) (fun c j z => FWn.dw (by omega) c j (W43.fw c j z)) Fr.rf (fun M1 f1 a1 q1 => ?_)
  obtain ⟨t1, z1, y1⟩ := a1
  obtain ⟨o1, q1⟩ := chk_no q1
  obtain ⟨o2, -⟩ := chk_no q1
  have i6 := full_0 o1
  have P1 : PGn 1 (kW tp Tn (n + 1)) [] D M M1 := ⟨f1.up W43.fw, z1, y1, fun p hp => absurd hp (by simp)⟩
  refine clp [(if sdO tp Tn (n + 2) = 2 then 1 else 0, n + 2)] [(wO tp Tn (n + 3) 3, n + 3), (numO tp Tn (n + 4) 0 9, n + 4), (sO tp Tn (n + 5) 59, n + 5)] (sp57c (d := d) hs i6 rfl t1) (W51.dw (by omega) (by omega)) (P1.1.up (FWn.dw (by omega))) (fun M2 f2 a2 q2 => ?_)
  obtain ⟨t2, z2⟩ := a2
  obtain ⟨o3, -⟩ := chk_no q2
  have P2 := P1.add (by omega) (show rwq 34 1 by unfold rwq; omega) f2 z2 (fun p hp => absurd hp (by simp))
  refine clp [(wO tp Tn (n + 3) 3, n + 3), (numO tp Tn (n + 4) 0 9, n + 4)] [(sO tp Tn (n + 5) 59, n + 5)] (sp51c (d := d) (w := 3) (lo := 0) (hi := 9) hs (by omega) (by omega) (by omega) rfl rfl rfl (by omega) (by omega) (by omega) i6 rfl t2) (W51.dw (by omega) (by omega)) (P2.1.up (FWn.dw (by omega))) (fun M3 f3 a3 q3 => ?_)
  obtain ⟨t3, z3⟩ := a3
  obtain ⟨o4, q3⟩ := chk_no q3
  obtain ⟨o5, -⟩ := chk_no q3
  have P3 := P2.add (by omega) (show rwq 35 1 by unfold rwq; omega) f3 z3 (fun p hp => by simp at hp; subst hp; show (34 : Nat) ≠ 35; omega)
  refine clp [(sO tp Tn (n + 5) 59, n + 5)] [] (sp54c (d := d + 1) (c := 59) rfl hs (by omega) t3) TVdw (P3.1.up (FWn.dw (by omega))) (fun M4 f4 t4 q4 => ?_)
  obtain ⟨o6, -⟩ := chk_no q4
  have P4 := P3.tv f4
  have k2 : kS tp Tn (n + 1) = 1 := newO_k o2
  have k4 := (numO_k o5).1
  refine Hm_some ⟨P4.1.up (FWn.dw (by omega)), rfl, t4, ?_, P4.end hD (by omega) i6 (wd_isW k2) (fun c hc => ?_)⟩
  · exact vis_s (vis_s (vis_s (vis_s (vis_s (vis_s hv hk) (by omega)) (sdO_k o3).1) (wO_k o4)) (by omega)) (sO_k o6)
  · have : c = 34 ∨ c = 35 := by unfold rwq at hc; omega
    rcases this with rfl | rfl <;> simp
/-- an act -/
theorem sp58 (hs : SG tp Tn) (h : TA tp Tn n M) (hv : vis tp Tn n) (hk : kS tp Tn n ≠ 0) (hD : DCl D M) : Hm (evD (d + 10) 58 [vR 10 0 49] M) (fun r M' => Fr DWc M M' ∧ lpst tp Tn (pAct tp Tn D n) r M') := by
  have c0 : M.1 31 0 = Int32.ofNat (D.cs 2) := hD.1.2.2.1
  have h6 : D.cs 2 ≤ 6 := hD.1.2.2.2.1
  rw [e58, c0]
  unfold pAct
  refine lfin ?_
  refine clp [(fullO D 2, n), (newO tp Tn D (n + 1), n + 1)] [(if kdO tp Tn (n + 2) = 4 then 1 else 0, n + 2), (wO tp Tn (n + 3) 5, n + 3), (numO tp Tn (n + 4) 1 20, n + 4), (wO tp Tn (n + 5) 6, n + 5), (numO tp Tn (n + 6) 1 99, n + 6), (wO tp Tn (n + 7) 7, n + 7), (numO tp Tn (n + 8) 0 99, n + 8), (wO tp Tn (n + 9) 8, n + 9), (namO tp Tn (n + 10) (D.cs 1) (D.nm 1), n + 10), (sO tp Tn (n + 11) 59, n + 11)] (sp43 (d := d) (q := 2) rfl (by omega) hs h hD.1 h6 c0) (fun c j z => FWn.dw (by omega) c j (W43.fw c j z)) Fr.rf (fun M1 f1 a1 q1 => ?_)
  obtain ⟨t1, z1, y1⟩ := a1
  obtain ⟨o1, q1⟩ := chk_no q1
  obtain ⟨o2, -⟩ := chk_no q1
  have i6 := full_0 o1
  have P1 : PGn 2 (kW tp Tn (n + 1)) [] D M M1 := ⟨f1.up W43.fw, z1, y1, fun p hp => absurd hp (by simp)⟩
  refine clp [(if kdO tp Tn (n + 2) = 4 then 1 else 0, n + 2)] [(wO tp Tn (n + 3) 5, n + 3), (numO tp Tn (n + 4) 1 20, n + 4), (wO tp Tn (n + 5) 6, n + 5), (numO tp Tn (n + 6) 1 99, n + 6), (wO tp Tn (n + 7) 7, n + 7), (numO tp Tn (n + 8) 0 99, n + 8), (wO tp Tn (n + 9) 8, n + 9), (namO tp Tn (n + 10) (D.cs 1) (D.nm 1), n + 10), (sO tp Tn (n + 11) 59, n + 11)] (sp59c (d := d) hs i6 rfl t1) (W51.dw (by omega) (by omega)) (P1.1.up (FWn.dw (by omega))) (fun M2 f2 a2 q2 => ?_)
  obtain ⟨t2, z2⟩ := a2
  obtain ⟨o3, -⟩ := chk_no q2
  have P2 := P1.add (by omega) (show rwq 36 2 by unfold rwq; omega) f2 z2 (fun p hp => absurd hp (by simp))
  refine clp [(wO tp Tn (n + 3) 5, n + 3), (numO tp Tn (n + 4) 1 20, n + 4)] [(wO tp Tn (n + 5) 6, n + 5), (numO tp Tn (n + 6) 1 99, n + 6), (wO tp Tn (n + 7) 7, n + 7), (numO tp Tn (n + 8) 0 99, n + 8), (wO tp Tn (n + 9) 8, n + 9), (namO tp Tn (n + 10) (D.cs 1) (D.nm 1), n + 10), (sO tp Tn (n + 11) 59, n + 11)] (sp51c (d := d) (w := 5) (lo := 1) (hi := 20) hs (by omega) (by omega) (by omega) rfl rfl rfl (by omega) (by omega) (by omega) i6 rfl t2) (W51.dw (by omega) (by omega)) (P2.1.up (FWn.dw (by omega))) (fun M3 f3 a3 q3 => ?_)
  obtain ⟨t3, z3⟩ := a3
  obtain ⟨o4, q3⟩ := chk_no q3
  obtain ⟨o5, -⟩ := chk_no q3
  have P3 := P2.add (by omega) (show rwq 37 2 by unfold rwq; omega) f3 z3 (fun p hp => by simp at hp; subst hp; show (36 : Nat) ≠ 37; omega)
  refine clp [(wO tp Tn (n + 5) 6, n + 5), (numO tp Tn (n + 6) 1 99, n + 6)] [(wO tp Tn (n + 7) 7, n + 7), (numO tp Tn (n + 8) 0 99, n + 8), (wO tp Tn (n + 9) 8, n + 9), (namO tp Tn (n + 10) (D.cs 1) (D.nm 1), n + 10), (sO tp Tn (n + 11) 59, n + 11)] (sp51c (d := d) (w := 6) (lo := 1) (hi := 99) hs (by omega) (by omega) (by omega) rfl rfl rfl (by omega) (by omega) (by omega) i6 rfl t3) (W51.dw (by omega) (by omega)) (P3.1.up (FWn.dw (by omega))) (fun M4 f4 a4 q4 => ?_)
  obtain ⟨t4, z4⟩ := a4
  obtain ⟨o6, q4⟩ := chk_no q4
  obtain ⟨o7, -⟩ := chk_no q4
  have P4 := P3.add (by omega) (show rwq 38 2 by unfold rwq; omega) f4 z4 (fun p hp => by simp at hp; rcases hp with rfl | rfl <;> simp)
  refine clp [(wO tp Tn (n + 7) 7, n + 7), (numO tp Tn (n + 8) 0 99, n + 8)] [(wO tp Tn (n + 9) 8, n + 9), (namO tp Tn (n + 10) (D.cs 1) (D.nm 1), n + 10), (sO tp Tn (n + 11) 59, n + 11)] (sp51c (d := d) (w := 7) (lo := 0) (hi := 99) hs (by omega) (by omega) (by omega) rfl rfl rfl (by omega) (by omega) (by omega) i6 rfl t4) (W51.dw (by omega) (by omega)) (P4.1.up (FWn.dw (by omega))) (fun M5 f5 a5 q5 => ?_)
  obtain ⟨t5, z5⟩ := a5
  obtain ⟨o8, q5⟩ := chk_no q5
  obtain ⟨o9, -⟩ := chk_no q5
  have P5 := P4.add (by omega) (show rwq 39 2 by unfold rwq; omega) f5 z5 (fun p hp => by simp at hp; rcases hp with rfl | rfl | rfl <;> simp)
  refine clp [(wO tp Tn (n + 9) 8, n + 9)] [(namO tp Tn (n + 10) (D.cs 1) (D.nm 1), n + 10), (sO tp Tn (n + 11) 59, n + 11)] (sp52c (d := d + 1) (w := 8) hs (by omega) (by omega) (by omega) rfl t5) TVdw (P5.1.up (FWn.dw (by omega))) (fun M6 f6 t6 q6 => ?_)
  obtain ⟨o10, -⟩ := chk_no q6
  have P6 := P5.tv f6
  have R6 : RL 29 (D.cs 1) (D.nm 1) M6 := hD.1.2.1.fr P6.1 (fun z => by unfold FWn TV rwq at z; omega) (fun j _ z => by unfold FWn TV rwq at z; omega)
  refine clp [(namO tp Tn (n + 10) (D.cs 1) (D.nm 1), n + 10)] [(sO tp Tn (n + 11) 59, n + 11)] (sp60c (d := d) hs i6 rfl t6 R6) (W51.dw (by omega) (by omega)) (P6.1.up (FWn.dw (by omega))) (fun M7 f7 a7 q7 => ?_)
  obtain ⟨t7, z7⟩ := a7
  obtain ⟨o11, -⟩ := chk_no q7
  have P7 := P6.add (by omega) (show rwq 40 2 by unfold rwq; omega) f7 z7 (fun p hp => by simp at hp; rcases hp with rfl | rfl | rfl | rfl <;> simp)
  refine clp [(sO tp Tn (n + 11) 59, n + 11)] [] (sp54c (d := d + 1) (c := 59) rfl hs (by omega) t7) TVdw (P7.1.up (FWn.dw (by omega))) (fun M8 f8 t8 q8 => ?_)
  obtain ⟨o12, -⟩ := chk_no q8
  have P8 := P7.tv f8
  have k2 : kS tp Tn (n + 1) = 1 := newO_k o2
  have k5 := (numO_k o5).1
  have k7 := (numO_k o7).1
  have k9 := (numO_k o9).1
  refine Hm_some ⟨P8.1.up (FWn.dw (by omega)), rfl, t8, ?_, P8.end hD (by omega) i6 (wd_isW k2) (fun c hc => ?_)⟩
  · exact vis_s (vis_s (vis_s (vis_s (vis_s (vis_s (vis_s (vis_s (vis_s (vis_s (vis_s (vis_s hv hk) (by omega)) (kdO_k o3).1) (wO_k o4)) (by omega)) (wO_k o6)) (by omega)) (wO_k o8)) (by omega)) (wO_k o10)) (namO_k o11)) (sO_k o12)
  · have : c = 36 ∨ c = 37 ∨ c = 38 ∨ c = 39 ∨ c = 40 := by unfold rwq at hc; omega
    rcases this with rfl | rfl | rfl | rfl | rfl <;> simp
end CLINE2
