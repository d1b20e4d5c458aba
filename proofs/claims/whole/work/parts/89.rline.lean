/-! YARD: the reference's draft; spots, carvers, acts -/
section RLINE
variable {tp : Nat → Int32} {Tn d n cd : Nat} {M M' M'' : Mem} {D : Dr} {l : List (Nat × Nat)}
def rpos (c i : Nat) : Nat := if c = 33 then 118 + i else if c = 34 then 124 + 2 * i else if c = 35 then 125 + 2 * i else 136 + 5 * i + (c - 36)
theorem rpos_x {c q : Nat} (h : rwq c q) (i : Nat) : (c = 33 ∧ q = 0 ∧ rpos c i = 118 + i) ∨ (c = 34 ∧ q = 1 ∧ rpos c i = 124 + 2 * i) ∨ (c = 35 ∧ q = 1 ∧ rpos c i = 125 + 2 * i) ∨ (36 ≤ c ∧ c ≤ 40 ∧ q = 2 ∧ rpos c i = 136 + 5 * i + (c - 36)) := by
  unfold rwq at h
  have hc : c = 33 ∨ c = 34 ∨ c = 35 ∨ (36 ≤ c ∧ c ≤ 40) := by omega
  rcases hc with rfl | rfl | rfl | hc
  · exact .inl ⟨rfl, by omega, rfl⟩
  · exact .inr (.inl ⟨rfl, by omega, rfl⟩)
  · exact .inr (.inr (.inl ⟨rfl, by omega, rfl⟩))
  · refine .inr (.inr (.inr ⟨hc.1, hc.2, by omega, ?_⟩))
    unfold rpos; rw [if_neg (by omega), if_neg (by omega), if_neg (by omega)]
def inrow (q i j : Nat) : Prop := (q = 0 ∧ j = 118 + i) ∨ (q = 1 ∧ (j = 124 + 2 * i ∨ j = 125 + 2 * i)) ∨ (q = 2 ∧ 136 + 5 * i ≤ j ∧ j ≤ 140 + 5 * i)
def LRd (ml : Bool) (o : Option (List Nat)) (cd : Nat) (M : Mem) : Prop := match o with | none => M.1 259 (if ml then 116 else 117) = -1 | some c => ∃ f, M.1 259 (if ml then 116 else 117) = Int32.ofNat f ∧ f + c.length < cd ∧ M.1 260 (1100 + (f + c.length)) = 0 ∧ ∀ i, i < c.length → CEt ml (f + i) (c.getD i 0) M
def DRn (D : Dr) (M : Mem) : Prop := (D.nw = 0 → M.1 259 114 = 1 ∧ M.1 259 202 = 3) ∧ (D.nw ≠ 0 → M.1 259 114 = Int32.ofNat D.nw ∧ ∀ i, i < D.nw → M.1 259 (202 + i) = Int32.ofNat (D.g 42 i))
def oncb (D : Dr) (k : Nat) : Bool := if k = 0 then decide (D.nw ≠ 0) else if k = 1 then D.mt else if k = 2 then D.lm.isSome else D.lk.isSome
def DRf (D : Dr) (cd : Nat) (M : Mem) : Prop := ((∀ q, q < 3 → M.1 259 (110 + q) = Int32.ofNat (D.cs q)) ∧ M.1 259 113 = Int32.ofNat D.pr ∧ M.1 259 115 = Int32.ofNat D.mv) ∧ (∀ c q, rwq c q → ∀ i, i < D.cs q → M.1 259 (rpos c i) = Int32.ofNat (D.g c i)) ∧ (∀ a b, a < 6 → b < 6 → M.1 259 (166 + 6 * a + b) = b2 (D.cl a b)) ∧ DRn D M ∧ (∀ k, k < 4 → bt (M.1 253 20) k = oncb D k) ∧ (LRd true D.lm cd M ∧ LRd false D.lk cd M) ∧ M.1 253 13 = Int32.ofNat cd ∧ NTp 1 D.cs D.nm (D.cs 0 + D.cs 1 + D.cs 2) M
theorem LRd.fr {W : Nat → Nat → Prop} {ml : Bool} {o : Option (List Nat)} (h : LRd ml o cd M) (hf : Fr W M M') (h1 : ¬ W 259 (if ml then 116 else 117)) (h2 : ∀ j, j < 1100 + cd → ¬ W 260 j ∧ ¬ W 261 j) : LRd ml o cd M' := by
  cases o with
  | none => exact (hf.i h1).trans h
  | some c =>
    obtain ⟨f, a1, a2, a3, a4⟩ := h
    refine ⟨f, (hf.i h1).trans a1, a2, (hf.i (h2 _ (by omega)).1).trans a3, fun i hi => ?_⟩
    obtain ⟨b1, b2', b3⟩ := a4 i hi
    have e := hf.i (h2 (1100 + (f + i)) (by omega)).2
    exact ⟨(hf.i (h2 _ (by omega)).1).trans b1, fun z => e.trans (b2' z), fun z z' => e.trans (b3 z z')⟩
def FRn (q i kn c j : Nat) : Prop := NWr kn c j ∨ (c = 259 ∧ (j = 110 + q ∨ inrow q i j))
theorem NTb_new {a b kn q : Nat} {w : List Nat} {val : Nat → Nat} (h : NTb a b D.cs D.nm kn M) (hq : q < 3) (h1 : M'.1 b kn = Int32.ofNat (20 * q + D.cs q)) (h2 : M'.2.1 a kn = wc 37 w) (hk : ∀ k, k < kn → M'.1 b k = M.1 b k ∧ M'.2.1 a k = M.2.1 a k) : NTb a b (D.new q w val).cs (D.new q w val).nm (kn + 1) M' := by
  refine ⟨fun k hk' => ?_, fun x i hx hi => ?_⟩
  · by_cases y : k = kn
    · subst y
      refine ⟨q, D.cs q, hq, by rw [new_cs, if_pos rfl]; omega, h1, ?_⟩
      rw [new_nm, if_pos ⟨rfl, rfl⟩]; exact h2
    · obtain ⟨x, i, a1, a2, a3, a4⟩ := h.1 k (by omega)
      obtain ⟨b1, b2'⟩ := hk k (by omega)
      refine ⟨x, i, a1, Nat.lt_of_lt_of_le a2 (new_le x), b1.trans a3, ?_⟩
      rw [new_nm, if_neg (fun z => by have := z.1; subst this; omega)]; exact b2'.trans a4
  · rcases new_lt hi with y | y
    · obtain ⟨rfl, rfl⟩ := y
      refine ⟨kn, by omega, h1, ?_⟩
      rw [new_nm, if_pos ⟨rfl, rfl⟩]; exact h2
    · obtain ⟨k, a1, a2, a3⟩ := h.2 x i hx y.1
      obtain ⟨b1, b2'⟩ := hk k a1
      refine ⟨k, by omega, b1.trans a2, ?_⟩
      rw [new_nm, if_neg y.2]; exact b2'.trans a3
theorem DRf.new {q : Nat} {w : List Nat} {val : Nat → Nat} (h : DRf D cd M) (hO : DO1 D) (hq : q < 3) (h6 : D.cs q < 6) (hf : Fr (FRn q (D.cs q) (D.cs 0 + D.cs 1 + D.cs 2)) M M') (h0 : M'.1 259 (110 + q) = Int32.ofNat (D.cs q + 1)) (hv : ∀ c, rwq c q → M'.1 259 (rpos c (D.cs q)) = Int32.ofNat (val c)) (h19 : M'.1 253 19 = Int32.ofNat (D.cs 0 + D.cs 1 + D.cs 2 + 1)) (hE : M'.1 265 (D.cs 0 + D.cs 1 + D.cs 2) = Int32.ofNat (20 * q + D.cs q)) (hJ : M'.2.1 263 (D.cs 0 + D.cs 1 + D.cs 2) = wc 37 w) : DRf (D.new q w val) cd M' := by
  obtain ⟨⟨a1, a2, a3⟩, a4, a5, a6, a7, ⟨a8, a9⟩, a10, a11⟩ := h
  have c0 := hO.1.1 0 (by omega)
  have c1 := hO.1.1 1 (by omega)
  have c2 := hO.1.1 2 (by omega)
  have no : ∀ c j, (c = 259 → j ≠ 110 + q ∧ ¬ inrow q (D.cs q) j) → (c = 253 → j ≠ 7 ∧ j ≠ 8 ∧ j ≠ 19) → c ≠ 263 → c ≠ 265 → ¬ FRn q (D.cs q) (D.cs 0 + D.cs 1 + D.cs 2) c j := fun c j x1 x2 x3 x4 z => by
    unfold FRn NWr at z
    rcases z with z | ⟨z1, z2⟩
    · omega
    · have := x1 z1; rcases z2 with z2 | z2
      · exact this.1 z2
      · exact this.2 z2
  have hi : ∀ j, (j < 118 ∨ 166 ≤ j) → j ≠ 110 + q → M'.1 259 j = M.1 259 j := fun j hj hj' => hf.i (no _ _ (fun _ => ⟨hj', fun z => by unfold inrow at z; omega⟩) (fun z => by omega) (by omega) (by omega))
  refine ⟨⟨fun x hx => ?_, (hi 113 (by omega) (by omega)).trans a2, (hi 115 (by omega) (by omega)).trans a3⟩, fun c x hc i hi' => ?_, fun a b ha hb => (hi _ (by omega) (by omega)).trans (a5 a b ha hb), ⟨fun z => ?_, fun z => ?_⟩, fun k hk => ?_, ⟨a8.fr hf ?_ ?_, a9.fr hf ?_ ?_⟩, ?_, ?_⟩
  · rw [new_cs]
    by_cases y : x = q
    · subst y; rw [if_pos rfl]; exact h0
    · rw [if_neg y]; exact (hi _ (by omega) (by omega)).trans (a1 x hx)
  · rw [new_g]
    rcases new_lt hi' with y | y
    · obtain ⟨rfl, rfl⟩ := y
      rw [if_pos ⟨hc, rfl⟩]; exact hv c hc
    · have hx3 : x < 3 := by unfold rwq at hc; omega
      have hx6 := hO.1.1 x hx3
      rw [if_neg (fun z => y.2 ⟨by have := z.1; unfold rwq at hc this; omega, z.2⟩)]
      refine (hf.i (no _ _ (fun _ => ?_) (fun z => by omega) (by omega) (by omega))).trans (a4 c x hc i y.1)
      have hp := rpos_x hc i
      have hne : ¬ (x = q ∧ i = D.cs q) := y.2
      have hil := y.1
      generalize D.cs q = Q at *
      generalize D.cs x = X at *
      generalize rpos c i = R at *
      exact ⟨by omega, fun z => by unfold inrow at z; omega⟩
  · rw [hi 114 (by omega) (by omega), hi 202 (by omega) (by omega)]; exact a6.1 z
  · have := a6.2 z
    refine ⟨(hi 114 (by omega) (by omega)).trans this.1, fun i hi' => ?_⟩
    rw [new_g, if_neg (fun z => by have := z.1; unfold rwq at this; omega)]
    exact (hi _ (by omega) (by omega)).trans (this.2 i hi')
  · rw [hf.i (no _ _ (fun z => by omega) (fun z => by omega) (by omega) (by omega))]; exact a7 k hk
  · exact no _ _ (fun _ => ⟨by show 116 ≠ _; omega, fun z => by unfold inrow at z; simp at z; omega⟩) (fun z => by omega) (by omega) (by omega)
  · exact fun j hj => ⟨no _ _ (fun z => by omega) (fun z => by omega) (by omega) (by omega), no _ _ (fun z => by omega) (fun z => by omega) (by omega) (by omega)⟩
  · exact no _ _ (fun _ => ⟨by show 117 ≠ _; omega, fun z => by unfold inrow at z; simp at z; omega⟩) (fun z => by omega) (by omega) (by omega)
  · exact fun j hj => ⟨no _ _ (fun z => by omega) (fun z => by omega) (by omega) (by omega), no _ _ (fun z => by omega) (fun z => by omega) (by omega) (by omega)⟩
  · rw [hf.i (no _ _ (fun z => by omega) (fun z => by omega) (by omega) (by omega))]; exact a10
  · have ek : (D.new q w val).cs 0 + (D.new q w val).cs 1 + (D.new q w val).cs 2 = D.cs 0 + D.cs 1 + D.cs 2 + 1 := by
      rw [new_cs, new_cs, new_cs]
      have : q = 0 ∨ q = 1 ∨ q = 2 := by omega
      rcases this with rfl | rfl | rfl
      · simp; omega
      · simp; omega
      · simp; omega
    rw [ek]
    have hb : NTb 263 265 D.cs D.nm (D.cs 0 + D.cs 1 + D.cs 2) M := by
      rcases a11.2 with ⟨z, -⟩ | ⟨-, -, z⟩
      · exact absurd z (by decide)
      · exact z
    have hkk : D.cs 0 + D.cs 1 + D.cs 2 + 1 ≤ 18 := by
      have : q = 0 ∨ q = 1 ∨ q = 2 := by omega
      rcases this with rfl | rfl | rfl <;> omega
    refine ⟨hkk, .inr ⟨by decide, h19, NTb_new hb hq hE hJ (fun k hk => ?_)⟩⟩
    have n1 : ¬ FRn q (D.cs q) (D.cs 0 + D.cs 1 + D.cs 2) 265 k := fun z => by unfold FRn NWr at z; omega
    have n2 : ¬ FRn q (D.cs q) (D.cs 0 + D.cs 1 + D.cs 2) 263 k := fun z => by unfold FRn NWr at z; omega
    exact ⟨hf.i n1, hf.j n2⟩
/-- cells of the reference that a line may write -/
def QWr (c j : Nat) : Prop := (c = 253 ∧ (j = 7 ∨ j = 8 ∨ j = 13 ∨ j = 19 ∨ j = 20 ∨ j = 21)) ∨ (c = 259 ∧ 110 ≤ j) ∨ (c = 260 ∧ 1100 ≤ j) ∨ (c = 261 ∧ 1100 ≤ j) ∨ c = 263 ∨ c = 265
theorem FRn.q {q i kn : Nat} : ∀ c j, FRn q i kn c j → QWr c j := fun c j z => by unfold FRn NWr inrow at z; unfold QWr; omega
theorem R78.q : ∀ c j, R78 c j → QWr c j := fun c j z => by unfold R78 at z; unfold QWr; omega
def RLo (tp : Nat → Int32) (Tn : Nat) (o : Option Nat) (D' : Dr) (cd n' : Nat) (M' : Mem) : Prop := RS tp Tn o n' M' ∧ (o = none → DRf D' cd M')
theorem chk_pre {l1 l2 : List (Nat × Nat)} (h : chk tp Tn (l1 ++ l2) = none) : chk tp Tn l1 = none := by
  cases hc : chk tp Tn l1 with
  | none => rfl
  | some e => rw [chk_ap.2 e hc] at h; exact absurd h (by simp)
theorem W259 {A : Mem} {j : Nat} {v : Int32} : Fr (fun c _ => c = 259) A (sI A 259 j v) := Fr.rf.sI rfl
theorem RS.w {o : Option Nat} {j : Nat} {v : Int32} (h : RS tp Tn o n M) : RS tp Tn o n (sI M 259 j v) := h.fr W259 (fun c i hc z => by omega)
theorem WT33.w {j : Nat} {v : Int32} (h : WT33 M) : WT33 (sI M 259 j v) := h.fr W259 (fun j z => by omega)
theorem WT33.r (h : WT33 M) (hf : Fr R78 M M') : WT33 M' := h.fr hf (fun j z => by unfold R78 at z; omega)
theorem fullO_5 {q : Nat} (h : D.cs q = 6) : fullO D q = 5 := by unfold fullO; rw [if_pos (by omega)]
theorem fullO_0 {q : Nat} (h : D.cs q < 6) : fullO D q = 0 := by unfold fullO; rw [if_neg (by omega)]
theorem r253 {c j : Nat} (h : c ≠ 253) : ¬ R78 c j := fun z => h z.1
theorem nwr {kn c j : Nat} (h : c ≠ 253) (h1 : c ≠ 263) (h2 : c ≠ 265) : ¬ NWr kn c j := fun z => by unfold NWr at z; omega
theorem sp207 (hs : SG tp Tn) (hW : WT33 M) (h : TB tp Tn n M) (hk : kS tp Tn n ≠ 0) (hD : DRf D cd M) (hO : DO1 D) : Hm (evD (d + 5) 207 [vR 12 0 253] M) (fun r M' => r = none ∧ Fr QWr M M' ∧ RLo tp Tn (chk tp Tn [(fullO D 0, n), (newO tp Tn D (n + 1), n + 1), (wO tp Tn (n + 2) 1, n + 2), (numO tp Tn (n + 3) 0 9, n + 3)]) (D.new 0 (kW tp Tn (n + 1)) (fun _ => kV tp Tn (n + 3))) cd (n + 4) M') := by
  have e0 : M.1 259 110 = Int32.ofNat (D.cs 0) := hD.1.1 0 (by omega)
  have c6 := hO.1.1 0 (by omega)
  have c61 := hO.1.1 1 (by omega)
  have c62 := hO.1.1 2 (by omega)
  rw [e207, e0, show (6 : Int32) = Int32.ofNat 6 from rfl, i_eq (by omega) (by omega)]
  by_cases hf : D.cs 0 = 6
  · rw [ic_t hf, sp208 (e := 5) (E := 5) rfl hs h, cVd_s, fullO_5 hf, chk_1 (by omega)]
    exact Hm_some ⟨rfl, (R78i (.inr rfl)).up R78.q, TB.f hs (by omega) (by omega), fun z => absurd z (by simp)⟩
  have i6 : D.cs 0 < 6 := by omega
  rw [ic_f hf, chk_0 (fullO_0 i6)]
  refine Hm_cVv (sp209 (d := d) hs hO.1 hD.2.2.2.2.2.2.2 (by omega) hW h hk) (fun M1 ⟨f1, r1, nn⟩ => ?_)
  have W1 : WT33 M1 := hW.fr f1 (fun j z => by unfold NWr at z; omega)
  refine Hm_cIn (op213 (d := d) (w := 1) (lo := 0) (hi := 9) rfl rfl rfl hs (by omega) W1 (by omega) (by omega) r1) (fun r M2 ⟨f2, r2, v, hr, hv⟩ => ⟨v, hr, ?_⟩)
  have e2 : M2.1 259 110 = Int32.ofNat (D.cs 0) := by rw [f2.i (r253 (by omega)), f1.i (nwr (by omega) (by omega) (by omega))]; exact e0
  rw [i_addr, ck (show 118 + D.cs 0 < 220 by omega) (by omega), i_nat (by omega), sI_ne (by omega), e2, i_addl]
  have F : Fr (FRn 0 (D.cs 0) (D.cs 0 + D.cs 1 + D.cs 2)) M (sI (sI M2 259 (118 + D.cs 0) v) 259 110 (Int32.ofNat (D.cs 0 + 1))) := (((f1.up (fun c j z => .inl z)).tr ((R78_N f2).up (fun c j z => .inl z))).sI (.inr ⟨rfl, .inr (by unfold inrow; omega)⟩)).sI (.inr ⟨rfl, .inl rfl⟩)
  refine Hm_some ⟨rfl, F.up FRn.q, r2.w.w, fun z => ?_⟩
  obtain ⟨o1, -⟩ := chk_no z
  obtain ⟨n1, n2, n3⟩ := nn o1
  refine hD.new hO (by omega) i6 F sI_eq (fun c hc => ?_) ?_ ?_ ?_
  · have : c = 33 := by unfold rwq at hc; omega
    subst this
    rw [sI_ne (by right; show 118 + D.cs 0 ≠ 110; omega)]
    show (sI M2 259 (118 + D.cs 0) v).1 259 (118 + D.cs 0) = _
    rw [sI_eq]; exact hv z
  · rw [sI_ne (by omega), sI_ne (by omega), f2.i (fun z => by unfold R78 at z; omega)]; exact n1
  · rw [sI_ne (by omega), sI_ne (by omega), f2.i (r253 (by omega)), n2, show 20 * 0 + D.cs 0 = D.cs 0 by omega]
  · show M2.2.1 263 _ = _
    rw [f2.j (r253 (by omega))]; exact n3
theorem sp217 (hs : SG tp Tn) (hW : WT33 M) (h : TB tp Tn n M) (hk : kS tp Tn n ≠ 0) (hD : DRf D cd M) (hO : DO1 D) : Hm (evD (d + 5) 217 [vR 12 0 253] M) (fun r M' => r = none ∧ Fr QWr M M' ∧ RLo tp Tn (chk tp Tn [(fullO D 1, n), (newO tp Tn D (n + 1), n + 1), (if sdO tp Tn (n + 2) = 2 then 1 else 0, n + 2), (wO tp Tn (n + 3) 3, n + 3), (numO tp Tn (n + 4) 0 9, n + 4)]) (D.new 1 (kW tp Tn (n + 1)) (fun c => if c = 34 then sdO tp Tn (n + 2) else kV tp Tn (n + 4))) cd (n + 5) M') := by
  have e0 : M.1 259 111 = Int32.ofNat (D.cs 1) := hD.1.1 1 (by omega)
  have c6 := hO.1.1 1 (by omega)
  have c60 := hO.1.1 0 (by omega)
  have c62 := hO.1.1 2 (by omega)
  rw [e217, e0, show (6 : Int32) = Int32.ofNat 6 from rfl, i_eq (by omega) (by omega)]
  by_cases hf : D.cs 1 = 6
  · rw [ic_t hf, sp208 (e := 5) (E := 5) rfl hs h, cVd_s, fullO_5 hf, chk_1 (by omega)]
    exact Hm_some ⟨rfl, (R78i (.inr rfl)).up R78.q, TB.f hs (by omega) (by omega), fun z => absurd z (by simp)⟩
  have i6 : D.cs 1 < 6 := by omega
  rw [ic_f hf, chk_0 (fullO_0 i6), i_mulr, i_addr, i_addr]
  refine Hm_cVv (sp209 (d := d) hs hO.1 hD.2.2.2.2.2.2.2 (by omega) hW h hk) (fun M1 ⟨f1, r1, nn⟩ => ?_)
  have W1 : WT33 M1 := hW.fr f1 (fun j z => by unfold NWr at z; omega)
  refine Hm_cIn (op218 (d := d + 1) (f := 19) (m := 2) (x := sdO tp Tn (n + 2)) rfl rfl hs (by omega) W1 whr_sd sdO_le (fun z => (sdO_k z).1) r1) (fun r M2 ⟨f2, r2, v2, hr2, hv2⟩ => ⟨v2, hr2, ?_⟩)
  rw [ck (show 124 + 2 * D.cs 1 < 220 by omega) (by omega), i_nat (by omega)]
  have W2 : WT33 (sI M2 259 (124 + 2 * D.cs 1) v2) := (W1.r f2).w
  refine Hm_cIn (op213 (d := d) (w := 3) (lo := 0) (hi := 9) rfl rfl rfl hs (by omega) W2 (by omega) (by omega) r2.w) (fun r M3 ⟨f3, r3, v3, hr3, hv3⟩ => ⟨v3, hr3, ?_⟩)
  have e2 : M3.1 259 111 = Int32.ofNat (D.cs 1) := by rw [f3.i (r253 (by omega)), sI_ne (by omega), f2.i (r253 (by omega)), f1.i (nwr (by omega) (by omega) (by omega))]; exact e0
  rw [i_addl, ck (show 124 + 2 * D.cs 1 + 1 < 220 by omega) (by omega), i_nat (by omega), sI_ne (by omega), e2, i_addl]
  have F : Fr (FRn 1 (D.cs 1) (D.cs 0 + D.cs 1 + D.cs 2)) M (sI (sI M3 259 (124 + 2 * D.cs 1 + 1) v3) 259 111 (Int32.ofNat (D.cs 1 + 1))) := (((((f1.up (fun c j z => .inl z)).tr ((R78_N f2).up (fun c j z => .inl z))).sI (.inr ⟨rfl, .inr (by unfold inrow; omega)⟩)).tr ((R78_N f3).up (fun c j z => .inl z))).sI (.inr ⟨rfl, .inr (by unfold inrow; omega)⟩)).sI (.inr ⟨rfl, .inl rfl⟩)
  refine Hm_some ⟨rfl, F.up FRn.q, r3.w.w, fun z => ?_⟩
  obtain ⟨o1, -⟩ := chk_no z
  obtain ⟨n1, n2, n3⟩ := nn o1
  refine hD.new hO (by omega) i6 F sI_eq (fun c hc => ?_) ?_ ?_ ?_
  · have : c = 34 ∨ c = 35 := by unfold rwq at hc; omega
    rcases this with rfl | rfl
    · rw [sI_ne (by right; show 124 + 2 * D.cs 1 ≠ 111; omega), sI_ne (by right; show 124 + 2 * D.cs 1 ≠ _; omega), f3.i (r253 (by omega))]
      show (sI M2 259 (124 + 2 * D.cs 1) v2).1 259 (124 + 2 * D.cs 1) = _
      rw [sI_eq]; exact hv2 (chk_pre (l2 := [(wO tp Tn (n + 3) 3, n + 3), (numO tp Tn (n + 4) 0 9, n + 4)]) z)
    · have p35 : rpos 35 (D.cs 1) = 124 + 2 * D.cs 1 + 1 := by show 125 + 2 * D.cs 1 = _; omega
      rw [p35, sI_ne (by omega), sI_eq]; exact hv3 z
  · rw [sI_ne (by omega), sI_ne (by omega), f3.i (fun z => by unfold R78 at z; omega), sI_ne (by omega), f2.i (fun z => by unfold R78 at z; omega)]; exact n1
  · rw [sI_ne (by omega), sI_ne (by omega), f3.i (r253 (by omega)), sI_ne (by omega), f2.i (r253 (by omega)), n2]
  · show M3.2.1 263 _ = _
    rw [f3.j (r253 (by omega))]
    show M2.2.1 263 _ = _
    rw [f2.j (r253 (by omega))]; exact n3
end RLINE
