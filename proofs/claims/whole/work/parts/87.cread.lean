/-! YARD: the class's laws; a line; the whole -/
section CREAD
variable {tp : Nat → Int32} {Tn d n : Nat} {M M' M'' M0 : Mem} {D D' : Dr} {ml : Bool}
def RE (e : Nat) : Prop := 1 ≤ e ∧ e ≤ 16005
theorem flt_re {e : Nat} (hs : SG tp Tn) (h1 : 1 ≤ e) (h5 : e ≤ 5) : RE (flt tp Tn e n) := ⟨flt_pos h1, flt_lt hs.1 h5⟩
theorem chk_re (hs : SG tp Tn) : ∀ (l : List (Nat × Nat)) e, (∀ p ∈ l, p.1 ≤ 5) → chk tp Tn l = some e → RE e
  | [], e, _, h => by have h : (none : Option Nat) = some e := h; exact absurd h (by simp)
  | (x, k) :: l, e, hl, h => by
    by_cases h0 : x = 0
    · rw [chk_0 h0] at h; exact chk_re hs l e (fun p hp => hl p (by simp [hp])) h
    · rw [chk_1 h0] at h
      have h := Option.some.inj h
      subst h
      exact flt_re hs (by omega) (hl (x, k) (by simp))
theorem fin1_re {o : Option Nat} {e n1 : Nat} {D1 : Dr} (h : fin1 o D1 n1 = .inr e) : o = some e := by
  cases o with
  | none => exact absurd h (by simp [fin1])
  | some x => have h : Sum.inr x = (Sum.inr e : OD) := h; rw [Sum.inr.inj h]
theorem fullO_le {q : Nat} : fullO D q ≤ 5 := by unfold fullO; split <;> omega
theorem newO_le : newO tp Tn D n ≤ 5 := by
  by_cases h1 : isNN tp Tn n = true
  · by_cases hx : ∃ q i, q < 3 ∧ i < D.cs q ∧ D.nm q i = kW tp Tn n
    · rw [newO_3 h1 hx]; omega
    · rw [newO_0 h1 hx]; omega
  · rw [newO_1 h1]; omega
theorem wO_le {w : Nat} : wO tp Tn n w ≤ 5 := by unfold wO; split <;> omega
theorem sO_le {w : Nat} : sO tp Tn n w ≤ 5 := by unfold sO; split <;> omega
theorem numO_le {lo hi : Nat} : numO tp Tn n lo hi ≤ 5 := by unfold numO; split; omega; split <;> omega
theorem namO_le5 {m : Nat} {f : Nat → List Nat} : namO tp Tn n m f ≤ 5 := Nat.le_trans namO_le (by omega)
theorem ifO_le {P : Prop} [Decidable P] {a : Nat} (h : a ≤ 5) : (if P then a else 0) ≤ 5 := by split <;> omega
theorem pSpot_re {e : Nat} (hs : SG tp Tn) (h : pSpot tp Tn D n = .inr e) : RE e := by
  refine chk_re hs _ e (fun p hp => ?_) (fin1_re h)
  simp only [List.mem_cons, List.not_mem_nil, or_false] at hp
  rcases hp with rfl | rfl | rfl | rfl | rfl
  · exact fullO_le
  · exact newO_le
  · exact wO_le
  · exact numO_le
  · exact sO_le
theorem pCarv_re {e : Nat} (hs : SG tp Tn) (h : pCarv tp Tn D n = .inr e) : RE e := by
  refine chk_re hs _ e (fun p hp => ?_) (fin1_re h)
  simp only [List.mem_cons, List.not_mem_nil, or_false] at hp
  rcases hp with rfl | rfl | rfl | rfl | rfl | rfl
  · exact fullO_le
  · exact newO_le
  · exact ifO_le (by omega)
  · exact wO_le
  · exact numO_le
  · exact sO_le
theorem pAct_re {e : Nat} (hs : SG tp Tn) (h : pAct tp Tn D n = .inr e) : RE e := by
  refine chk_re hs _ e (fun p hp => ?_) (fin1_re h)
  simp only [List.mem_cons, List.not_mem_nil, or_false] at hp
  rcases hp with rfl | rfl | rfl | rfl | rfl | rfl | rfl | rfl | rfl | rfl | rfl | rfl
  · exact fullO_le
  · exact newO_le
  · exact ifO_le (by omega)
  · exact wO_le
  · exact numO_le
  · exact wO_le
  · exact numO_le
  · exact wO_le
  · exact numO_le
  · exact wO_le
  · exact namO_le5
  · exact sO_le
theorem pCla_re {e : Nat} (hs : SG tp Tn) (h : pCla tp Tn D n = .inr e) : RE e := by
  refine chk_re hs _ e (fun p hp => ?_) (fin1_re h)
  simp only [List.mem_cons, List.not_mem_nil, or_false] at hp
  rcases hp with rfl | rfl | rfl | rfl
  · exact namO_le5
  · exact namO_le5
  · exact ifO_le (by omega)
  · exact sO_le
theorem pNts_re (hs : SG tp Tn) : ∀ f k e, 15 ≤ f + k → k ≤ 14 → pNts tp Tn f n k = .inr e → RE e
  | 0, k, e, h, h', _ => by omega
  | f + 1, k, e, h, h', hp => by
    rw [pNts_s] at hp
    by_cases y : k ≠ 0 ∧ kS tp Tn (n + k) ≠ 2
    · rw [if_pos y] at hp; exact absurd hp (by simp)
    rw [if_neg y] at hp
    by_cases hn : numO tp Tn (n + k) 0 9 = 0
    · rw [if_neg (by omega)] at hp
      by_cases k14 : k = 14
      · rw [if_pos k14] at hp
        rw [← Sum.inr.inj hp]; exact flt_re hs (by omega) (by omega)
      · rw [if_neg k14] at hp
        exact pNts_re hs f (k + 1) e (by omega) (by omega) hp
    · rw [if_pos hn] at hp
      rw [← Sum.inr.inj hp]; exact flt_re hs (by omega) numO_le
theorem pNi_re {e : Nat} (hs : SG tp Tn) (h : pNi tp Tn D n = .inr e) : RE e := by
  unfold pNi at h
  by_cases hw : D.nw = 0
  · rw [if_neg (by omega)] at h
    cases hk : pNts tp Tn 16 (n + 1) 0 with
    | inr x =>
      rw [hk] at h
      have h : Sum.inr x = (Sum.inr e : OD) := h
      rw [← Sum.inr.inj h]; exact pNts_re hs 16 0 x (by omega) (by omega) hk
    | inl k =>
      rw [hk] at h
      refine chk_re hs _ e (fun p hp => ?_) (fin1_re h)
      simp only [List.mem_cons, List.not_mem_nil, or_false] at hp
      rw [hp]; exact sO_le
  · rw [if_pos hw] at h
    rw [← Sum.inr.inj h]; exact flt_re hs (by omega) (by omega)
theorem pMi_re {e : Nat} (hs : SG tp Tn) (h : pMi tp Tn D n = .inr e) : RE e := by
  unfold pMi at h
  by_cases hm : D.mt = true
  · rw [if_pos hm] at h
    rw [← Sum.inr.inj h]; exact flt_re hs (by omega) (by omega)
  · rw [if_neg hm] at h
    refine chk_re hs _ e (fun p hp => ?_) (fin1_re h)
    simp only [List.mem_cons, List.not_mem_nil, or_false] at hp
    rcases hp with rfl | rfl
    · exact numO_le
    · exact sO_le
/-- the machine's faults -/
def MFe (x : MX) : Prop := match x with | .inr (.inr e) => RE e | _ => True
theorem MFe_st {s : MS} (hs : SG tp Tn) : MFe (mst tp Tn ml s) := by
  obtain ⟨m, n, st, c⟩ := s
  have md : ∀ (p : List Nat × List Nat) (e : List Nat → MX) (f : List Nat → List Nat → MX), (∀ c, MFe (e c)) → (∀ s c, MFe (f s c)) → MFe (mend1 p e f) := fun p e f h1 h2 => by
    obtain ⟨p1, p2⟩ := p
    cases p1 with
    | nil => exact h1 _
    | cons a b => exact h2 _ _
  have r1 : RE (flt tp Tn 1 n) := flt_re hs (by omega) (by omega)
  have r5 : RE (flt tp Tn 5 n) := flt_re hs (by omega) (by omega)
  unfold mst
  simp only
  split
  · split
    · split
      · exact r5
      · trivial
    · split
      · exact r1
      · split
        · exact r5
        · trivial
  · split
    · split
      · trivial
      · trivial
    · split
      · exact md _ _ _ (fun c => trivial) (fun s c => trivial)
      · split
        · exact md _ _ _ (fun c => trivial) (fun s c => r1)
        · split
          · exact r1
          · trivial
theorem MFe_it (hs : SG tp Tn) : ∀ k x, MFe x → MFe (mit tp Tn ml k x)
  | 0, x, h => h
  | k + 1, x, h => by
    refine MFe_it hs k _ ?_
    cases x with
    | inl s => exact MFe_st hs
    | inr o => exact h
theorem Rch_re {e : Nat} (hs : SG tp Tn) (h : Rch tp Tn ml (.inl (0, n, [], [])) (.inr (.inr e))) : RE e := by
  obtain ⟨k, hk⟩ := h
  have := MFe_it (tp := tp) (Tn := Tn) (ml := ml) hs k (.inl (0, n, [], [])) trivial
  rw [hk] at this
  exact this
theorem thru {F : Mem → Prop} {R : Res} {o : OD} {B : Prop} (h : Hm R (fun r M' => F M' ∧ lpst tp Tn o r M' ∧ B)) : Hm (cIn R fun v M => ic (v &&& 1 = v) (some (some (vI v), M)) none) (fun r M' => F M' ∧ lpst tp Tn o r M' ∧ B) := by
  refine Hm_cIn h (fun r M' ⟨f, x, b⟩ => ?_)
  have x' := x
  cases o with
  | inl p =>
    obtain ⟨D', n'⟩ := p
    obtain ⟨rfl, -⟩ := x
    exact ⟨1, rfl, by rw [ic_t (by decide)]; exact Hm_some ⟨f, x', b⟩⟩
  | inr e =>
    obtain ⟨rfl, -⟩ := x
    exact ⟨0, rfl, by rw [ic_t (by decide)]; exact Hm_some ⟨f, x', b⟩⟩
/-- what a line leaves beside: laws are right, faults are faults -/
def BLn (o : OD) (D : Dr) : Prop := (∀ D' n', o = .inl (D', n') → LD2 D → LD2 D') ∧ ∀ e, o = .inr e → RE e
theorem LWr.dw {kL : Nat} (hk : kLo kL) : ∀ c j, LWr kL c j → DWc c j := fun c j z => by
  unfold kLo at hk
  unfold LWr KWr at z
  rcases z with z | z
  · exact .inl z
  · exact .inr (by omega)
def kLm (ml : Bool) : Nat := if ml then 43 else 46
theorem kLm_k : kLo (kLm ml) := by cases ml; exact .inr rfl; exact .inl rfl
theorem sp70L {p : Int32} (hs : SG tp Tn) (hp : p = b2 ml) (h : TA tp Tn n M) (hv : vis tp Tn n) (hk : kS tp Tn n ≠ 0) (hD : DCl D M) : Hm (evD (d + 11) 70 [vR 2 0 50, vR 1 0 (kLm ml), vI p] M) (fun r M' => Fr DWc M M' ∧ lpst tp Tn (pLw tp Tn D ml n) r M' ∧ BLn (pLw tp Tn D ml n) D) := by
  have h0 : M.1 (kLm ml) 0 = b2 (if ml then D.lm else D.lk).isSome := by
    cases ml
    · exact hD.2.2.2.2.2.1
    · exact hD.2.2.2.2.1.1
  by_cases ht : (if ml then D.lm else D.lk).isSome = true
  · have ep : pLw tp Tn D ml n = .inr (flt tp Tn 3 n) := by unfold pLw; rw [if_pos ht]
    rw [ht] at h0
    rw [e70, ic_f (by rw [h0]; decide), ep]
    exact Hm_mono (sp45c (d := d + 9) (e := 3) rfl h) (fun r M' ⟨x, y, z⟩ => ⟨z.up TVdw, ⟨x, y⟩, fun D' n' z => absurd z (by simp), fun e z => by rw [← Sum.inr.inj z]; exact flt_re hs (by omega) (by omega)⟩)
  rw [nf ht] at h0
  have ep : pLw tp Tn D ml n = pLw2 D ml (lwS tp Tn (lwO tp Tn ml (n + 1))) := by unfold pLw; rw [if_neg ht]
  rw [ep]
  refine Hm_mono (sp70 (d := d) hs kLm_k hp h hv hk h0) (fun r M' ⟨f1, x⟩ => ⟨f1.up (LWr.dw kLm_k), ?_⟩)
  rcases x with ⟨rfl, e, e1, e2⟩ | ⟨rfl, n', c', r1, y1, t1, v1, k1, o1, l1⟩
  · have el : lwS tp Tn (lwO tp Tn ml (n + 1)) = .inr e ∧ RE e := by
      rcases e2 with e2 | ⟨n', c', e2, e3, rfl⟩
      · rw [lwO_eq e2]; exact ⟨rfl, Rch_re hs e2⟩
      · rw [lwO_eq e2]
        refine ⟨?_, flt_re hs (by omega) (by omega)⟩
        show (if isSN tp Tn n' 59 then _ else _) = _
        rw [e3]; rfl
    rw [el.1]
    exact ⟨⟨rfl, e1⟩, fun D' n' z => absurd z (by simp [pLw2]), fun x z => by have z : Sum.inr e = (Sum.inr x : OD) := z; rw [← Sum.inr.inj z]; exact el.2⟩
  · have el : lwS tp Tn (lwO tp Tn ml (n + 1)) = .inl (n' + 1, c') := by
      rw [lwO_eq r1]
      show (if isSN tp Tn n' 59 then _ else _) = _
      rw [if_pos y1]
    have hn1 := vis_le v1
    have h1000 := hs.1
    have ok : LOK c' := ⟨o1, by omega⟩
    rw [el]
    have kp : ∀ c j, 26 ≤ c → c ≤ 49 → c ≠ kLm ml → c ≠ kLm ml + 1 → ¬ LWr (kLm ml) c j := fun c j x1 x2 x3 x4 z => by unfold LWr KWr TV at z; omega
    have hkl : (ml = true ∧ kLm ml = 43) ∨ (ml = false ∧ kLm ml = 46) := by cases ml; exact .inr ⟨rfl, rfl⟩; exact .inl ⟨rfl, rfl⟩
    obtain ⟨⟨r0, r1', r2⟩, a2, a3, ⟨a4, a5, a6, a7, a8⟩, a9, a10⟩ := hD
    have rl : ∀ {kR m : Nat} {f : Nat → List Nat}, 27 ≤ kR → kR ≤ 32 → RL kR m f M → RL kR m f M' := fun x y z => z.fr f1 (kp _ _ (by omega) (by omega) (by omega) (by omega)) (fun j _ => kp _ _ (by omega) (by omega) (by omega) (by omega))
    have b1 : RLd D.cs D.nm M' := ⟨rl (by omega) (by omega) r0, rl (by omega) (by omega) r1', rl (by omega) (by omega) r2⟩
    have b2' : ∀ c q, rwq c q → ∀ i, i < D.cs q → M'.1 c i = Int32.ofNat (D.g c i) := fun c q hc i hi => by
      have := rwq_b hc
      exact (f1.i (kp _ _ (by omega) (by omega) (by omega) (by omega))).trans (a2 c q hc i hi)
    have b3 : ∀ a b, a < 6 → b < 32 → bt (M'.1 41 a) b = D.cl a b := fun a b ha hb => by
      rw [f1.i (kp _ _ (by omega) (by omega) (by omega) (by omega))]; exact a3 a b ha hb
    have b4 : M'.1 26 12 = Int32.ofNat D.pr ∧ M'.1 26 14 = Int32.ofNat D.nw ∧ (∀ i, i < D.nw → M'.1 42 i = Int32.ofNat (D.g 42 i)) ∧ M'.1 26 15 = Int32.ofNat D.mv ∧ M'.1 49 3 = b2 D.mt := ⟨(f1.i (kp _ _ (by omega) (by omega) (by omega) (by omega))).trans a4, (f1.i (kp _ _ (by omega) (by omega) (by omega) (by omega))).trans a5, fun i hi => (f1.i (kp _ _ (by omega) (by omega) (by omega) (by omega))).trans (a6 i hi), (f1.i (kp _ _ (by omega) (by omega) (by omega) (by omega))).trans a7, (f1.i (kp _ _ (by omega) (by omega) (by omega) (by omega))).trans a8⟩
    have new : ∀ df, LCd (kLm ml) df (some c') M' := fun df => ⟨k1.2.2.2.2.2.2.2, k1.2.2.2.2.2.1, k1.2.2.2.2.2.2.1⟩
    cases ml with
    | true =>
      refine ⟨⟨rfl, t1, v1, b1, b2', b3, b4, new dM, a10.fr f1 (fun j => ⟨kp _ _ (by omega) (by omega) (by decide) (by decide), kp _ _ (by omega) (by omega) (by decide) (by decide)⟩)⟩, fun D' n'' z hl => ?_, fun e z => absurd z (by simp [pLw2])⟩
      have z := Sum.inl.inj z
      have z1 : _ = D' := congrArg (fun z => z.1) z
      rw [← z1]
      exact ⟨ok, hl.2⟩
    | false =>
      refine ⟨⟨rfl, t1, v1, b1, b2', b3, b4, a9.fr f1 (fun j => ⟨kp _ _ (by omega) (by omega) (by decide) (by decide), kp _ _ (by omega) (by omega) (by decide) (by decide)⟩), new dK⟩, fun D' n'' z hl => ?_, fun e z => absurd z (by simp [pLw2])⟩
      have z := Sum.inl.inj z
      have z1 : _ = D' := congrArg (fun z => z.1) z
      rw [← z1]
      exact ⟨hl.1, ok⟩
theorem BLn_f {o : Option Nat} {D1 : Dr} {n1 : Nat} (h1 : D1.lm = D.lm) (h2 : D1.lk = D.lk) (h3 : ∀ e, fin1 o D1 n1 = .inr e → RE e) : BLn (fin1 o D1 n1) D := ⟨fun D' n' z hl => by
  obtain ⟨-, rfl, -⟩ := fin1_i z
  unfold LD2; rw [h1, h2]; exact hl, h3⟩
/-- a line -/
theorem sp34 (hs : SG tp Tn) (h : TA tp Tn n M) (hv : vis tp Tn n) (hk : kS tp Tn n ≠ 0) (hD : DCl D M) (h14 : D.nw ≤ 14) : Hm (evD (d + 12) 34 [vR 10 0 49] M) (fun r M' => Fr DWc M M' ∧ lpst tp Tn (pLn tp Tn D n) r M' ∧ BLn (pLn tp Tn D n) D) := by
  have w0 : kwd 0 = stW 1 := rfl
  have w2 : kwd 2 = stW 4 := rfl
  have w4 : kwd 4 = stW 8 := rfl
  have w9 : kwd 9 = stW 17 := rfl
  have w10 : kwd 10 = stW 18 := rfl
  have w11 : kwd 11 = stW 19 := rfl
  have w12 : kwd 12 = stW 20 := rfl
  have w13 : kwd 13 = stW 29 := rfl
  unfold pLn
  rw [e34, sp35 (is := 1) (d := d + 6) hs (by omega) (by omega) (by omega) h, cIn_s, w0]
  by_cases c0 : isWN tp Tn n (stW 1) = true
  · rw [c0, ic_f (by decide), if_pos rfl]
    exact thru (Hm_mono (sp42 (d := d + 1) hs h hv hk hD) (fun r M' x => ⟨x.1, x.2, BLn_f rfl rfl (fun e z => pSpot_re hs z)⟩))
  rw [nf c0, ic_t (by decide), if_neg (by decide), sp35 (is := 4) (d := d + 6) hs (by omega) (by omega) (by omega) h, cIn_s, w2]
  by_cases c1 : isWN tp Tn n (stW 4) = true
  · rw [c1, ic_f (by decide), if_pos rfl]
    exact thru (Hm_mono (sp56 (d := d + 1) hs h hv hk hD) (fun r M' x => ⟨x.1, x.2, BLn_f rfl rfl (fun e z => pCarv_re hs z)⟩))
  rw [nf c1, ic_t (by decide), if_neg (by decide), sp35 (is := 8) (d := d + 6) hs (by omega) (by omega) (by omega) h, cIn_s, w4]
  by_cases c2 : isWN tp Tn n (stW 8) = true
  · rw [c2, ic_f (by decide), if_pos rfl]
    exact thru (Hm_mono (sp58 (d := d + 1) hs h hv hk hD) (fun r M' x => ⟨x.1, x.2, BLn_f rfl rfl (fun e z => pAct_re hs z)⟩))
  rw [nf c2, ic_t (by decide), if_neg (by decide), sp35 (is := 17) (d := d + 6) hs (by omega) (by omega) (by omega) h, cIn_s, w9]
  by_cases c3 : isWN tp Tn n (stW 17) = true
  · rw [c3, ic_f (by decide), if_pos rfl]
    exact thru (Hm_mono (sp62 (d := d + 1) hs h hv hk hD) (fun r M' x => ⟨x.1, x.2, BLn_f rfl rfl (fun e z => pCla_re hs z)⟩))
  rw [nf c3, ic_t (by decide), if_neg (by decide), sp35 (is := 18) (d := d + 6) hs (by omega) (by omega) (by omega) h, cIn_s, w10]
  by_cases c4 : isWN tp Tn n (stW 18) = true
  · rw [c4, ic_f (by decide), if_pos rfl]
    refine thru (Hm_mono (sp66 (d := d + 1) hs h hv hk hD h14) (fun r M' x => ⟨x.1, x.2, fun D' n' z hl => ?_, fun e z => pNi_re hs z⟩))
    unfold pNi at z
    by_cases hw : D.nw = 0
    · rw [if_neg (by omega)] at z
      cases hkk : pNts tp Tn 16 (n + 1) 0 with
      | inr e => rw [hkk] at z; exact absurd z (by simp [pNi2])
      | inl k =>
        rw [hkk] at z
        obtain ⟨-, rfl, -⟩ := fin1_i z
        exact hl
    · rw [if_pos hw] at z; exact absurd z (by simp)
  rw [nf c4, ic_t (by decide), if_neg (by decide), sp35 (is := 19) (d := d + 6) hs (by omega) (by omega) (by omega) h, cIn_s, w11]
  by_cases c5 : isWN tp Tn n (stW 19) = true
  · rw [c5, ic_f (by decide), if_pos rfl]
    refine thru (Hm_mono (sp69 (d := d + 1) hs h hv hk hD) (fun r M' x => ⟨x.1, x.2, fun D' n' z hl => ?_, fun e z => pMi_re hs z⟩))
    unfold pMi at z
    by_cases hm : D.mt = true
    · rw [if_pos hm] at z; exact absurd z (by simp)
    · rw [if_neg hm] at z
      obtain ⟨-, rfl, -⟩ := fin1_i z
      exact hl
  rw [nf c5, ic_t (by decide), if_neg (by decide), sp35 (is := 20) (d := d + 6) hs (by omega) (by omega) (by omega) h, cIn_s, w12]
  by_cases c6 : isWN tp Tn n (stW 20) = true
  · rw [c6, ic_f (by decide), if_pos rfl]
    exact thru (sp70L (d := d) (ml := true) hs rfl h hv hk hD)
  rw [nf c6, ic_t (by decide), if_neg (by decide), sp35 (is := 29) (d := d + 6) hs (by omega) (by omega) (by omega) h, cIn_s, w13]
  by_cases c7 : isWN tp Tn n (stW 29) = true
  · rw [c7, ic_f (by decide), if_pos rfl]
    exact thru (sp70L (d := d) (ml := false) hs rfl h hv hk hD)
  rw [nf c7, ic_t (by decide), if_neg (by decide)]
  exact Hm_mono (sp45c (d := d + 10) (e := 1) rfl h) (fun r M' ⟨x, y, z⟩ => ⟨z.up TVdw, ⟨x, y⟩, fun D' n' z => absurd z (by simp), fun e z => by rw [← Sum.inr.inj z]; exact flt_re hs (by omega) (by omega)⟩)
/-- all lines -/
def pYn (o : OD) (k : Dr → Nat → Dr ⊕ Nat) : Dr ⊕ Nat := match o with | .inr e => .inr e | .inl (D', n') => k D' n'
noncomputable def pY (tp : Nat → Int32) (Tn : Nat) : Nat → Dr → Nat → Dr ⊕ Nat
  | 0, _, _ => .inr 0
  | f + 1, D, n => if kS tp Tn n = 0 then .inl D else pYn (pLn tp Tn D n) (fun D' n' => pY tp Tn f D' n')
theorem pY_e {f : Nat} (h : kS tp Tn n = 0) : pY tp Tn (f + 1) D n = .inl D := by
  show (if kS tp Tn n = 0 then _ else _) = _; rw [if_pos h]
theorem pY_s {f : Nat} (h : ¬ kS tp Tn n = 0) : pY tp Tn (f + 1) D n = pYn (pLn tp Tn D n) (fun D' n' => pY tp Tn f D' n') := by
  show (if kS tp Tn n = 0 then _ else _) = _; rw [if_neg h]
def D0 : Dr := (fun _ => 0, fun _ _ => [], fun _ _ => 0, fun _ _ => false, 0, 0, false, 0, none, none)
theorem D0_1 : DO1 D0 := ⟨⟨fun q hq => by show 0 ≤ 6; omega, fun q i hq hi => by have : i < 0 := hi; omega, fun q i q' i' hq hi => by have : i < 0 := hi; omega⟩, fun i hi => by have : i < 0 := hi; omega, fun i hi => by have : i < 0 := hi; omega, fun i hi => by have : i < 0 := hi; omega, fun a b => rfl, fun a => rfl, fun a b h => absurd h (by simp [D0]), by show 0 ≤ 14; omega, fun i hi => by have : i < 0 := hi; omega, by show 0 ≤ 10; omega⟩
theorem D0_2 : LD2 D0 := by
  have m1 : COk [10000] 1 := COk.lf (c := []) COk.nil (by omega) (by omega)
  have m2 : COk [10000, 10001] 2 := COk.lf (c := [10000]) m1 (by omega) (by omega)
  have m3 : COk [10000, 10001, 10006] 1 := COk.jo (c := [10000, 10001]) m2 (by omega) (by omega) (by omega) (by omega)
  exact ⟨⟨m3, by decide⟩, ⟨m1, by decide⟩⟩
def clM (M : Mem) : Mem := flI (sI (sI (sI M 27 0 0) 29 0 0) 31 0 0) 41 6 0
theorem sp0d : Hm (evD (d + 2) 0 [vR 9 0 26] M) (fun r M' => r = none ∧ Fr (fun c j => 26 ≤ c ∧ c ≤ 48) M M' ∧ M'.1 27 0 = 0 ∧ M'.1 29 0 = 0 ∧ M'.1 31 0 = 0 ∧ (∀ a, a < 6 → M'.1 41 a = 0) ∧ M'.1 26 12 = 0 ∧ M'.1 26 14 = 0 ∧ M'.1 26 15 = 0 ∧ LCd 43 dM none M' ∧ LCd 46 dK none M') := by
  rw [e0, e1, cVd_s, e1, cVd_s, e1, cVd_s, sp2 (by omega), cVd_s]
  generalize hA : flI (sI (sI (sI M (26 + 1) 0 0) (26 + 3) 0 0) (26 + 5) 0 0) (26 + 15) 6 0 = A
  have fA : Fr (fun c j => 26 ≤ c ∧ c ≤ 48) M A := by rw [← hA]; exact (((Fr.rf.sI (by omega)).sI (by omega)).sI (by omega)).flI (fun j _ => by omega)
  have a1 : A.1 27 0 = 0 ∧ A.1 29 0 = 0 ∧ A.1 31 0 = 0 ∧ ∀ a, a < 6 → A.1 41 a = 0 := by
    rw [← hA]
    refine ⟨?_, ?_, ?_, fun a ha => flI_eq ha⟩
    · rw [flI_ne (by omega), sI_ne (by omega), sI_ne (by omega)]; exact sI_eq
    · rw [flI_ne (by omega), sI_ne (by omega)]; exact sI_eq
    · rw [flI_ne (by omega)]; exact sI_eq
  rw [e3, cVd_s]
  generalize hB : sI (sI (sI (sI (sI A 26 12 0) 26 14 0) 26 15 0) (26 + 17) 2 0) (26 + 17) 0 0 = B
  have b2' : B.1 43 2 = Int32.ofNat 0 := by rw [← hB, sI_ne (by omega)]; exact sI_eq
  rw [show (10000 : Int32) = Int32.ofNat 10000 from rfl, show (10001 : Int32) = Int32.ofNat 10001 from rfl, show (10006 : Int32) = Int32.ofNat 10006 from rfl]
  rw [sp4k (kL := 26 + 17) (k := 0) b2' (by omega), cVd_s, sp4k (kL := 26 + 17) (k := 1) sI_eq (by omega), cVd_s, sp4k (kL := 26 + 17) (k := 2) sI_eq (by omega), cVd_s, e3, cVd_s, sp4k (kL := 26 + 20) (k := 0) (by rw [sI_ne (by omega)]; exact sI_eq) (by omega), cVd_s]
  have fB : Fr (fun c j => 26 ≤ c ∧ c ≤ 48) M B := by rw [← hB]; exact ((((fA.sI (by omega)).sI (by omega)).sI (by omega)).sI (by omega)).sI (by omega)
  have bb : B.1 27 0 = 0 ∧ B.1 29 0 = 0 ∧ B.1 31 0 = 0 ∧ (∀ a, a < 6 → B.1 41 a = 0) ∧ B.1 26 12 = 0 ∧ B.1 26 14 = 0 ∧ B.1 26 15 = 0 ∧ B.1 43 0 = 0 := by
    rw [← hB]
    refine ⟨?_, ?_, ?_, fun a ha => ?_, ?_, ?_, ?_, sI_eq⟩
    · simp (disch := omega) only [sI_ne]; exact a1.1
    · simp (disch := omega) only [sI_ne]; exact a1.2.1
    · simp (disch := omega) only [sI_ne]; exact a1.2.2.1
    · simp (disch := omega) only [sI_ne]; exact a1.2.2.2 a ha
    · rw [sI_ne (by omega), sI_ne (by omega), sI_ne (by omega), sI_ne (by omega)]; exact sI_eq
    · rw [sI_ne (by omega), sI_ne (by omega), sI_ne (by omega)]; exact sI_eq
    · rw [sI_ne (by omega), sI_ne (by omega)]; exact sI_eq
  refine Hm_some ⟨rfl, ?_, ?_, ?_, ?_, fun a ha => ?_, ?_, ?_, ?_, ⟨?_, ?_, fun i hi => ?_⟩, ⟨?_, ?_, fun i hi => ?_⟩⟩
  · exact (((((((((fB.sI (by omega)).sI (by omega)).sI (by omega)).sI (by omega)).sI (by omega)).sI (by omega)).sI (by omega)).sI (by omega)).sI (by omega)).sI (by omega)
  · simp (disch := omega) only [sI_ne]; exact bb.1
  · simp (disch := omega) only [sI_ne]; exact bb.2.1
  · simp (disch := omega) only [sI_ne]; exact bb.2.2.1
  · simp (disch := omega) only [sI_ne]; exact bb.2.2.2.1 a ha
  · simp (disch := omega) only [sI_ne]; exact bb.2.2.2.2.1
  · simp (disch := omega) only [sI_ne]; exact bb.2.2.2.2.2.1
  · simp (disch := omega) only [sI_ne]; exact bb.2.2.2.2.2.2.1
  · simp (disch := omega) only [sI_ne]; exact bb.2.2.2.2.2.2.2
  · simp (disch := omega) only [sI_ne, sI_eq']; rfl
  · have hi : i < 3 := hi
    have : i = 0 ∨ i = 1 ∨ i = 2 := by omega
    rcases this with rfl | rfl | rfl
    · simp (disch := omega) only [sI_ne, sI_eq']; rfl
    · simp (disch := omega) only [sI_ne, sI_eq']; rfl
    · simp (disch := omega) only [sI_ne, sI_eq']; rfl
  · simp (disch := omega) only [sI_ne, sI_eq']; rfl
  · simp (disch := omega) only [sI_eq']; rfl
  · have hi : i < 1 := hi
    have : i = 0 := by omega
    subst this
    simp (disch := omega) only [sI_ne, sI_eq']; rfl
theorem vis_end (hs : SG tp Tn) (h : vis tp Tn n) (hk : kS tp Tn n ≠ 0) : n < 1000 := by
  have h1 := kS_lt hk
  have h2 := tP_ge (tp := tp) (Tn := Tn) n h1
  have := hs.1
  omega
/-- a yard is read -/
theorem sp9 (hs : SG tp Tn) (hT : TC Tn tp M) : Hm (evD (d + 14) 9 [vR 10 0 49] M) (fun r M' => Fr DWc M M' ∧ match pY tp Tn 1001 D0 0 with | .inl D => r = some (vI 0) ∧ DCl D M' ∧ DO1 D ∧ LD2 D | .inr e => r = some (vI (Int32.ofNat e)) ∧ RE e) := by
  rw [e9]
  refine Hm_cVv (sp0d (d := d + 11)) (fun M1 ⟨f1, a0, a1, a2, a3, a4, a5, a6, a7, a8⟩ => ?_)
  have fw1 : Fr DWc M (sI M1 49 3 0) := (f1.up (fun c j z => .inr (by omega))).sI (.inr (by omega))
  have T1 : TC Tn tp (sI M1 49 3 0) := by
    have g : Fr (fun c j => 26 ≤ c) M (sI M1 49 3 0) := (f1.up (fun c j z => by omega)).sI (by omega)
    exact ⟨(g.i (by omega)).trans hT.1, fun i hi => (g.i (by omega)).trans (hT.2 i hi)⟩
  have no : ∀ c j, c ≠ 1 → ¬ TV c j := fun c j hc z => hc z.1
  refine Hm_cVv (sp10 (d := d + 5) hs T1) (fun M2 ⟨t2, f2⟩ => ?_)
  have dd : DCl D0 M2 := by
    have w : ∀ c j, c ≠ 1 → (c ≠ 49 ∨ j ≠ 3) → M2.1 c j = M1.1 c j := fun c j x y => (f2.i (no _ _ x)).trans (sI_ne y)
    have lc : ∀ kL df o, kL ≠ 1 → kL + 1 ≠ 1 → kL ≠ 49 → kL + 1 ≠ 49 → LCd kL df o M1 → LCd kL df o M2 := fun kL df o x1 x2 x3 x4 z => ⟨(w _ _ x1 (.inl x3)).trans z.1, (w _ _ x1 (.inl x3)).trans z.2.1, fun i hi => (w _ _ x2 (.inl x4)).trans (z.2.2 i hi)⟩
    refine ⟨⟨⟨(w _ _ (by omega) (by omega)).trans a0, by show 0 ≤ 6; omega, fun i hi => by have : i < 0 := hi; omega⟩, ⟨(w _ _ (by omega) (by omega)).trans a1, by show 0 ≤ 6; omega, fun i hi => by have : i < 0 := hi; omega⟩, ⟨(w _ _ (by omega) (by omega)).trans a2, by show 0 ≤ 6; omega, fun i hi => by have : i < 0 := hi; omega⟩⟩, fun c q hc i hi => by have : i < 0 := hi; omega, fun a b ha hb => ?_, ⟨(w _ _ (by omega) (by omega)).trans a4, (w _ _ (by omega) (by omega)).trans a5, fun i hi => by have : i < 0 := hi; omega, (w _ _ (by omega) (by omega)).trans a6, ?_⟩, lc _ _ _ (by omega) (by omega) (by omega) (by omega) a7, lc _ _ _ (by omega) (by omega) (by omega) (by omega) a8⟩
    · rw [w _ _ (by omega) (by omega), a3 a ha, bt_0]; rfl
    · rw [f2.i (no _ _ (by omega))]; exact sI_eq
  generalize hP : pY tp Tn 1001 D0 0 = P
  rw [lp0_eq]
  refine lp_ms (d := d + 13) (x := 9) (pc := 21) 1 10 (fun m lv M3 => ∃ i n D, lv = [some (vR 10 0 49), some (vI (Int32.ofNat i))] ∧ m = 1000 - i ∧ i ≤ n ∧ i ≤ 1000 ∧ Fr DWc M M3 ∧ TA tp Tn n M3 ∧ vis tp Tn n ∧ DCl D M3 ∧ DO1 D ∧ LD2 D ∧ P = pY tp Tn (1001 - i) D n) ?_ 1000 _ _ 20000 (by omega) ⟨0, 0, D0, rfl, rfl, by omega, by omega, fw1.tr (f2.up TVdw), t2, fun i hi => by omega, dd, D0_1, D0_2, hP.symm⟩
  rintro m lv M3 F hF ⟨i, n, D, rfl, rfl, hin, hi, f3, t3, v3, d3, o3, l3, ep⟩ z
  obtain ⟨G, rfl⟩ : ∃ G, F = G + 1 := ⟨F - 1, by omega⟩
  have hn := vis_le v3
  have h1000 := hs.1
  rw [show 1001 - i = (1000 - i) + 1 by omega] at ep
  rw [e9_21, show (1000 : Int32) = Int32.ofNat 1000 from rfl, i_lt (by omega) (by omega)]
  by_cases k0 : kS tp Tn n = 0
  · rw [pY_e k0] at ep
    rw [ep]
    by_cases i1 : i < 1000
    · rw [ic_t i1, sp33 (d := d + 12) t3, cIn_s, show decide (kS tp Tn n = 0) = true from decide_eq_true k0, ic_f (by decide)]
      exact Hm_some ⟨f3, rfl, d3, o3, l3⟩
    · rw [ic_f i1]
      exact Hm_some ⟨f3, rfl, d3, o3, l3⟩
  · have hlt := vis_end hs v3 k0
    rw [pY_s k0] at ep
    rw [ic_t (by omega), sp33 (d := d + 12) t3, cIn_s, show decide (kS tp Tn n = 0) = false from decide_eq_false k0, ic_t (by decide)]
    refine Hm_cIn (sp34 (d := d + 1) hs t3 v3 k0 d3 o3.2.2.2.2.2.2.2.1) (fun r M4 ⟨f4, x4, b4⟩ => ?_)
    cases hl : pLn tp Tn D n with
    | inr e =>
      rw [hl] at x4 ep b4
      obtain ⟨rfl, y⟩ := x4
      refine ⟨0, rfl, ?_⟩
      rw [ic_t rfl, y, ep]
      exact Hm_some ⟨f3.tr f4, rfl, b4.2 e rfl⟩
    | inl p =>
      obtain ⟨D', n'⟩ := p
      have ok := pLn_ok o3 hl
      rw [hl] at x4 ep b4
      obtain ⟨rfl, t4, v4, d4⟩ := x4
      refine ⟨1, rfl, ?_⟩
      rw [ic_f (by decide), i_addl]
      exact z (1000 - (i + 1)) _ _ G (by omega) (by omega) ⟨i + 1, n', D', rfl, rfl, by omega, by omega, f3.tr f4, t4, v4, d4, ok.1, b4.1 D' n' rfl l3, by rw [show 1001 - (i + 1) = 1000 - i by omega]; exact ep⟩
end CREAD
