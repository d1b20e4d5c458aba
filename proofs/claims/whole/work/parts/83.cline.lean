/-! YARD: the class's lines of spots, carvers, acts -/
section CLINE
variable {tp : Nat → Int32} {Tn d n : Nat} {M M' M0 : Mem} {D D' : Dr}
theorem chk_0 {e n : Nat} {l : List (Nat × Nat)} (h : e = 0) : chk tp Tn ((e, n) :: l) = chk tp Tn l := by
  show (if e = 0 then _ else _) = _; rw [if_pos h]
theorem chk_1 {e n : Nat} {l : List (Nat × Nat)} (h : ¬ e = 0) : chk tp Tn ((e, n) :: l) = some (flt tp Tn e n) := by
  show (if e = 0 then _ else _) = _; rw [if_neg h]
theorem chk_ap {l1 l2 : List (Nat × Nat)} : (chk tp Tn l1 = none → chk tp Tn (l1 ++ l2) = chk tp Tn l2) ∧ (∀ e, chk tp Tn l1 = some e → chk tp Tn (l1 ++ l2) = some e) := by
  induction l1 with
  | nil => exact ⟨fun _ => rfl, fun e h => by have h : (none : Option Nat) = some e := h; exact absurd h (by simp)⟩
  | cons p l ih =>
    obtain ⟨e, n⟩ := p
    by_cases h0 : e = 0
    · have a : chk tp Tn ((e, n) :: l) = chk tp Tn l := chk_0 h0
      have b : chk tp Tn ((e, n) :: l ++ l2) = chk tp Tn (l ++ l2) := chk_0 h0
      rw [a, b]; exact ih
    · have a : chk tp Tn ((e, n) :: l) = some (flt tp Tn e n) := chk_1 h0
      have b : chk tp Tn ((e, n) :: l ++ l2) = some (flt tp Tn e n) := chk_1 h0
      rw [a, b]; exact ⟨fun h => absurd h (by simp), fun e' h => h⟩
def opst (o : Option Nat) (A : Prop) (r : Option AV) (M : Mem) : Prop := match o with | none => r = some (vI 1) ∧ A | some e => r = some (vI 0) ∧ M.1 1 1 = Int32.ofNat e
def pst (tp : Nat → Int32) (Tn : Nat) (o : Option Nat) (D : Dr) (n : Nat) (r : Option AV) (M : Mem) : Prop := opst o (TA tp Tn n M ∧ vis tp Tn n ∧ DCl D M) r M
/-- one step of a line -/
theorem clp {R : Res} {k : Mem → Res} {W : Nat → Nat → Prop} {A : Mem → Prop} (l1 l2 : List (Nat × Nat)) {D' : Dr} {n' : Nat} (h : Hm R (fun r M' => Fr W M M' ∧ opst (chk tp Tn l1) (A M') r M')) (hw : ∀ c j, W c j → DWc c j) (f0 : Fr DWc M0 M) (hok : ∀ M', Fr W M M' → A M' → chk tp Tn l1 = none → Hm (k M') (fun r M'' => Fr DWc M0 M'' ∧ pst tp Tn (chk tp Tn l2) D' n' r M'')) : Hm (cIn R fun v M' => ic (v = 0) (some (some (vI 0), M')) (k M')) (fun r M' => Fr DWc M0 M' ∧ pst tp Tn (chk tp Tn (l1 ++ l2)) D' n' r M') := by
  refine Hm_cIn h (fun r M' ⟨f1, x⟩ => ?_)
  cases hc : chk tp Tn l1 with
  | none =>
    rw [hc] at x
    obtain ⟨rfl, ha⟩ := x
    refine ⟨1, rfl, ?_⟩
    rw [ic_f (by decide), chk_ap.1 hc]
    exact hok M' f1 ha hc
  | some e =>
    rw [hc] at x
    obtain ⟨rfl, ha⟩ := x
    refine ⟨0, rfl, ?_⟩
    rw [ic_t rfl, chk_ap.2 e hc]
    exact Hm_some ⟨f0.tr (f1.up hw), rfl, ha⟩
/-- the last step of a line -/
theorem cll {R : Res} {W : Nat → Nat → Prop} {A : Mem → Prop} (l1 : List (Nat × Nat)) {D' : Dr} {n' : Nat} (h : Hm R (fun r M' => Fr W M M' ∧ opst (chk tp Tn l1) (A M') r M')) (hw : ∀ c j, W c j → DWc c j) (f0 : Fr DWc M0 M) (hok : ∀ M', Fr W M M' → A M' → chk tp Tn l1 = none → TA tp Tn n' M' ∧ vis tp Tn n' ∧ DCl D' M') : Hm (cIn R fun v M' => ic (v &&& 1 = v) (some (some (vI v), M')) none) (fun r M' => Fr DWc M0 M' ∧ pst tp Tn (chk tp Tn l1) D' n' r M') := by
  refine Hm_cIn h (fun r M' ⟨f1, x⟩ => ?_)
  cases hc : chk tp Tn l1 with
  | none =>
    rw [hc] at x
    obtain ⟨rfl, ha⟩ := x
    refine ⟨1, rfl, ?_⟩
    rw [ic_t (by decide)]
    exact Hm_some ⟨f0.tr (f1.up hw), rfl, hok M' f1 ha hc⟩
  | some e =>
    rw [hc] at x
    obtain ⟨rfl, ha⟩ := x
    refine ⟨0, rfl, ?_⟩
    rw [ic_t (by decide)]
    exact Hm_some ⟨f0.tr (f1.up hw), rfl, ha⟩
theorem op1 {e n : Nat} {A : Prop} {r : Option AV} (h : ¬ e = 0) (hr : r = some (vI 0)) (hf : FC tp Tn e n M) {l : List (Nat × Nat)} : opst (chk tp Tn ((e, n) :: l)) A r M := by rw [chk_1 h]; exact ⟨hr, hf⟩
theorem wO_0 {w : Nat} (h : isWN tp Tn n (kwd w) = true) : wO tp Tn n w = 0 := by unfold wO; rw [if_pos h]
theorem wO_1 {w : Nat} (h : ¬ isWN tp Tn n (kwd w) = true) : wO tp Tn n w = 1 := by unfold wO; rw [if_neg h]
theorem sO_0 {w : Nat} (h : isSN tp Tn n w = true) : sO tp Tn n w = 0 := by unfold sO; rw [if_pos h]
theorem sO_1 {w : Nat} (h : ¬ isSN tp Tn n w = true) : sO tp Tn n w = 1 := by unfold sO; rw [if_neg h]
theorem sp54c {c : Nat} {E : Int32} (hE : E = Int32.ofNat c) (hs : SG tp Tn) (hc : c < 1000) (h : TA tp Tn n M) : Hm (evD (d + 8) 54 [vR 7 0 1, vI E] M) (fun r M' => Fr TV M M' ∧ opst (chk tp Tn [(sO tp Tn n c, n)]) (TA tp Tn (n + 1) M') r M') := by
  by_cases hy : isSN tp Tn n c = true
  · refine Hm_mono (sp54y hE hs hc h hy) (fun r M' ⟨a, b, cc⟩ => ⟨cc, ?_⟩)
    rw [chk_0 (sO_0 hy)]; exact ⟨a, b⟩
  · refine Hm_mono (sp54n hE hs hc h (nf hy)) (fun r M' ⟨a, b, cc⟩ => ⟨cc, ?_⟩)
    rw [sO_1 hy]; exact op1 (by omega) a b
theorem sp52c {is w : Nat} (hs : SG tp Tn) (hi : is < 35) (h0 : is ≠ 0) (h2 : is ≠ 2) (hw : kwd w = stW is) (h : TA tp Tn n M) : Hm (evD (d + 8) 52 [vR 7 0 1, vR 40 is (SB + is)] M) (fun r M' => Fr TV M M' ∧ opst (chk tp Tn [(wO tp Tn n w, n)]) (TA tp Tn (n + 1) M') r M') := by
  by_cases hy : isWN tp Tn n (kwd w) = true
  · refine Hm_mono (sp52y hs hi h0 h2 h (by rw [← hw]; exact hy)) (fun r M' ⟨a, b, cc⟩ => ⟨cc, ?_⟩)
    rw [chk_0 (wO_0 hy)]; exact ⟨a, b⟩
  · refine Hm_mono (sp52n hs hi h0 h2 h (by rw [← hw]; exact nf hy)) (fun r M' ⟨a, b, cc⟩ => ⟨cc, ?_⟩)
    rw [wO_1 hy]; exact op1 (by omega) a b
def W51 (k i c j : Nat) : Prop := TV c j ∨ (c = k ∧ j = i)
theorem W51.no {k i c j : Nat} (h1 : c ≠ 1) (h2 : c ≠ k ∨ j ≠ i) : ¬ W51 k i c j := fun z => by unfold W51 TV at z; omega
theorem W51.dw {k i : Nat} (hk : 26 ≤ k) (hk' : k ≤ 51) : ∀ c j, W51 k i c j → DWc c j := fun c j z => by
  unfold W51 at z
  rcases z with z | z
  · exact .inl z
  · exact .inr (by omega)
theorem TA.w51 {k i : Nat} (h : TA tp Tn n M) (hk : 26 ≤ k) (hf : Fr (W51 k i) M M') (h1 : ∀ j, 1 ≤ j → M'.1 1 j = M.1 1 j ∧ M'.2.1 1 j = M.2.1 1 j) : TA tp Tn n M' := by
  obtain ⟨⟨t1, t1'⟩, t2, t3, t4, t5, t6⟩ := h
  have h0 : M'.1 1 0 = M.1 1 0 := hf.i (fun z => by unfold W51 TV at z; omega)
  exact ⟨⟨h0.trans t1, fun i' hi' => (hf.i (W51.no (by omega) (by omega))).trans (t1' i' hi')⟩, (h1 5 (by omega)).1.trans t2, (h1 6 (by omega)).1.trans t3, (h1 7 (by omega)).1.trans t4, fun z => (h1 8 (by omega)).2.trans (t5 z), fun z => (h1 2 (by omega)).1.trans (t6 z)⟩
/-- writing into a row and going on -/
theorem wadv {k i : Nat} {v : Int32} (hs : SG tp Tn) (hk : 26 ≤ k) (h : TA tp Tn n M) : Hm (cVd (evD (d + 7) 11 [vR 7 0 1] (sI M k i v)) fun M7 => some (some (vI 1), M7)) (fun r M' => Fr (W51 k i) M M' ∧ r = some (vI 1) ∧ TA tp Tn (n + 1) M' ∧ M'.1 k i = v) := by
  have f1 : Fr (W51 k i) M (sI M k i v) := Fr.rf.sI (.inr ⟨rfl, rfl⟩)
  have t1 : TA tp Tn n (sI M k i v) := h.fr (W := fun c j => c = k ∧ j = i) (Fr.rf.sI ⟨rfl, rfl⟩) (fun c j hc => by omega)
  refine Hm_cVv (sp11n hs t1) (fun M7 ⟨t7, f7⟩ => ?_)
  refine Hm_some ⟨f1.tr (f7.up (fun c j z => .inl z)), rfl, t7, ?_⟩
  rw [f7.i (fun z => by unfold TV at z; omega)]; exact sI_eq
theorem sp51c {is w lo hi k i : Nat} {L H E : Int32} (hs : SG tp Tn) (hi' : is < 35) (h0 : is ≠ 0) (h2 : is ≠ 2) (hw : kwd w = stW is) (hL : L = Int32.ofNat lo) (hH : H = Int32.ofNat hi) (hh : hi < 10000) (hl : lo < 10000) (hk : 26 ≤ k) (hi6 : i < 6) (hE : E = Int32.ofNat i) (h : TA tp Tn n M) : Hm (evD (d + 9) 51 [vR 7 0 1, vR 40 is (SB + is), vI L, vI H, vR 20 6 k, vI E] M) (fun r M' => Fr (W51 k i) M M' ∧ opst (chk tp Tn [(wO tp Tn n w, n), (numO tp Tn (n + 1) lo hi, n + 1)]) (TA tp Tn (n + 2) M' ∧ M'.1 k i = Int32.ofNat (kV tp Tn (n + 1))) r M') := by
  subst hL hH hE
  rw [e51]
  refine Hm_cIn (sp52c (d := d) (w := w) hs hi' h0 h2 hw h) (fun r M1 ⟨f1, x1⟩ => ?_)
  by_cases hy : isWN tp Tn n (kwd w) = true
  · rw [chk_0 (wO_0 hy)] at x1
    obtain ⟨rfl, t1⟩ := x1
    refine ⟨1, rfl, ?_⟩
    rw [ic_f (by decide)]
    refine Hm_cIn (sp53 (d := d + 6) hh hl t1) (fun r M2 x2 => ?_)
    by_cases hn : numO tp Tn (n + 1) lo hi = 0
    · rw [if_pos hn] at x2
      obtain ⟨rfl, rfl⟩ := x2
      refine ⟨1, rfl, ?_⟩
      have k2 : kS tp Tn (n + 1) = 2 := by
        unfold numO at hn
        by_cases q : kS tp Tn (n + 1) = 2
        · exact q
        · rw [if_pos q] at hn; omega
      have e12 : M2.1 1 2 = Int32.ofNat (kV tp Tn (n + 1)) := t1.2.2.2.2.2 k2
      rw [ic_f (by decide), ic_f (i_neg (by omega)), i_lt (by omega) (by omega), ic_t hi6, ck (show i < 6 by omega) (by omega), i_nat (by omega), e12]
      refine Hm_mono (wadv (d := d + 1) hs hk t1) (fun r M' ⟨a, b, cc, dd⟩ => ⟨(f1.up (fun c j z => .inl z)).tr a, ?_⟩)
      rw [chk_0 (wO_0 hy), chk_0 hn]
      exact ⟨b, cc, dd⟩
    · rw [if_neg hn] at x2
      obtain ⟨rfl, a, b⟩ := x2
      refine ⟨0, rfl, ?_⟩
      rw [ic_t rfl]
      refine Hm_some ⟨(f1.tr b).up (fun c j z => .inl z), ?_⟩
      rw [chk_0 (wO_0 hy)]; exact op1 hn rfl a
  · rw [wO_1 hy] at x1
    rw [chk_1 (by omega)] at x1
    obtain ⟨rfl, t1⟩ := x1
    refine ⟨0, rfl, ?_⟩
    rw [ic_t rfl]
    refine Hm_some ⟨f1.up (fun c j z => .inl z), ?_⟩
    rw [wO_1 hy]; exact op1 (by omega) rfl t1
/-- a new name -/
theorem sp48 {w : List Nat} (hR : RLd D.cs D.nm M) (hw : isW w) : Hm (evD (d + 2) 48 [vR 9 0 26, vJ (wc 32 w)] M) (fun r M' => M' = M ∧ ∃ v, r = some (vI v) ∧ (v = 0 ↔ ¬ ∃ q i, q < 3 ∧ i < D.cs q ∧ D.nm q i = w)) := by
  have a : ∀ q kR, q < 3 → RL kR (D.cs q) (D.nm q) M → ∃ v, (∀ d, evD (d + 1) 49 [vR 4 0 kR, vJ (wc 32 w)] M = some (some (vI v), M)) ∧ (v = -1 ↔ ¬ ∃ i, i < D.cs q ∧ D.nm q i = w) := by
    intro q kR hq hr
    refine ⟨_, fun d => sp49 hr hw, ?_⟩
    obtain ⟨g1, g2, g3⟩ := fnd_le (f := D.nm q) (w := w) (D.cs q)
    have h6 := hr.2.1
    by_cases y : fnd (D.nm q) w (D.cs q) < D.cs q
    · rw [if_pos y]
      refine ⟨fun z => ?_, fun z => absurd ⟨_, y, g3 y⟩ z⟩
      have := congrArg (fun x : Int32 => x.toInt) z
      simp only [i_toInt (show fnd (D.nm q) w (D.cs q) < 2147483648 by omega)] at this
      have e : (-1 : Int32).toInt = -1 := by decide
      rw [e] at this; omega
    · rw [if_neg y]
      refine ⟨fun _ => ?_, fun _ => rfl⟩
      rintro ⟨i, hi, he⟩
      exact g2 i (by omega) hi he
  obtain ⟨v0, s0, c0⟩ := a 0 27 (by omega) hR.1
  obtain ⟨v1, s1, c1⟩ := a 1 29 (by omega) hR.2.1
  obtain ⟨v2, s2, c2⟩ := a 2 31 (by omega) hR.2.2
  rw [e48, s0, cIn_s]
  by_cases y0 : v0 = -1
  · rw [ic_t y0, s1, cIn_s]
    by_cases y1 : v1 = -1
    · rw [ic_t y1, s2, cIn_s]
      by_cases y2 : v2 = -1
      · rw [ic_t y2]
        refine Hm_some ⟨rfl, 0, rfl, fun _ => ?_, fun _ => rfl⟩
        rintro ⟨q, i, hq, hi, he⟩
        rcases q with _ | _ | _ | q
        · exact c0.mp y0 ⟨i, hi, he⟩
        · exact c1.mp y1 ⟨i, hi, he⟩
        · exact c2.mp y2 ⟨i, hi, he⟩
        · omega
      · rw [ic_f y2]
        refine Hm_some ⟨rfl, 1, rfl, fun z => absurd z (by decide), fun z => ?_⟩
        exact absurd (c2.mpr (fun ⟨i, hi, he⟩ => z ⟨2, i, by omega, hi, he⟩)) y2
    · rw [ic_f y1]
      refine Hm_some ⟨rfl, 1, rfl, fun z => absurd z (by decide), fun z => ?_⟩
      exact absurd (c1.mpr (fun ⟨i, hi, he⟩ => z ⟨1, i, by omega, hi, he⟩)) y1
  · rw [ic_f y0]
    refine Hm_some ⟨rfl, 1, rfl, fun z => absurd z (by decide), fun z => ?_⟩
    exact absurd (c0.mpr (fun ⟨i, hi, he⟩ => z ⟨0, i, by omega, hi, he⟩)) y0
theorem newO_1 (h : ¬ isNN tp Tn n = true) : newO tp Tn D n = 1 := by unfold newO; rw [if_neg h]
theorem newO_3 (h : isNN tp Tn n = true) (hx : ∃ q i, q < 3 ∧ i < D.cs q ∧ D.nm q i = kW tp Tn n) : newO tp Tn D n = 3 := by unfold newO; rw [if_pos h, if_pos hx]
theorem newO_0 (h : isNN tp Tn n = true) (hx : ¬ ∃ q i, q < 3 ∧ i < D.cs q ∧ D.nm q i = kW tp Tn n) : newO tp Tn D n = 0 := by unfold newO; rw [if_pos h, if_neg hx]
theorem newO_o (h : newO tp Tn D n = 0) : isNN tp Tn n = true ∧ ¬ ∃ q i, q < 3 ∧ i < D.cs q ∧ D.nm q i = kW tp Tn n := by
  by_cases h1 : isNN tp Tn n = true
  · refine ⟨h1, fun hx => ?_⟩
    rw [newO_3 h1 hx] at h; omega
  · rw [newO_1 h1] at h; omega
def W43 (q i c j : Nat) : Prop := TV c j ∨ (c = 27 + 2 * q ∧ j = 0) ∨ (c = 28 + 2 * q ∧ j = i)
theorem sp43 {q kR : Nat} (hk : kR = 27 + 2 * q) (hq : q < 3) (hs : SG tp Tn) (h : TA tp Tn n M) (hR : RLd D.cs D.nm M) (h6 : D.cs q ≤ 6) (h0 : M.1 kR 0 = Int32.ofNat (D.cs q)) : Hm (evD (d + 9) 43 [vR 10 0 49, vR 4 0 kR] M) (fun r M' => Fr (W43 q (D.cs q)) M M' ∧ opst (chk tp Tn [(fullO D q, n), (newO tp Tn D (n + 1), n + 1)]) (TA tp Tn (n + 2) M' ∧ M'.1 (27 + 2 * q) 0 = Int32.ofNat (D.cs q + 1) ∧ M'.2.1 (28 + 2 * q) (D.cs q) = wc 32 (kW tp Tn (n + 1))) r M') := by
  subst hk
  rw [e43, e44, h0, i_lt (by omega) (by omega)]
  have up : ∀ {A B : Mem}, Fr TV A B → Fr (W43 q (D.cs q)) A B := fun z => z.up (fun c j z => .inl z)
  by_cases hf : D.cs q < 6
  rotate_left
  · have e5 : fullO D q = 5 := by unfold fullO; rw [if_pos (by omega)]
    rw [ic_f hf, cIn_s, ic_f (by decide)]
    refine Hm_mono (sp45c (d := d + 7) (e := 5) rfl h) (fun r M' ⟨a, b, cc⟩ => ⟨up cc, ?_⟩)
    rw [e5]; exact op1 (by omega) a b
  have e0 : fullO D q = 0 := by unfold fullO; rw [if_neg (by omega)]
  rw [ic_t hf, cIn_s, ic_t rfl]
  refine Hm_cVv (sp11n (d := d + 1) hs h) (fun M1 ⟨t1, f1⟩ => ?_)
  rw [e46, sp47 (d := d + 2) hs t1, cIn_s]
  by_cases h1 : isNN tp Tn (n + 1) = true
  rotate_left
  · rw [nf h1, ic_t (show b2 false = 0 from rfl)]
    refine Hm_cIn (sp45c (d := d + 6) (e := 1) rfl t1) (fun r M' ⟨a, b, cc⟩ => ⟨0, a, ?_⟩)
    rw [ic_t (by decide)]
    refine Hm_some ⟨up (f1.tr cc), ?_⟩
    rw [chk_0 e0, newO_1 h1]; exact op1 (by omega) rfl b
  have kW1 : kS tp Tn (n + 1) = 1 := (isNN_o h1).1
  have e18 : M1.2.1 1 8 = wc 32 (kW tp Tn (n + 1)) := t1.2.2.2.2.1 kW1
  have tvn : ∀ c j, c ≠ 1 → ¬ TV c j := fun c j hc z => hc z.1
  have rl : ∀ {kR m : Nat} {f : Nat → List Nat}, kR ≠ 1 → kR + 1 ≠ 1 → RL kR m f M → RL kR m f M1 := fun a b z => z.fr f1 (tvn _ _ a) (fun j _ => tvn _ _ b)
  have hR1 : RLd D.cs D.nm M1 := ⟨rl (by omega) (by omega) hR.1, rl (by omega) (by omega) hR.2.1, rl (by omega) (by omega) hR.2.2⟩
  rw [h1, ic_f (by decide), e18]
  refine Hm_cIn (Hm_cIn (sp48 (d := d + 5) hR1 (wd_isW kW1)) (fun r M2 ⟨e2, v, hv, hi⟩ => ⟨v, hv, ?_⟩) : Hm _ (fun r M' => Fr (W43 q (D.cs q)) M M' ∧ opst (chk tp Tn [(fullO D q, n), (newO tp Tn D (n + 1), n + 1)]) (TA tp Tn (n + 2) M' ∧ M'.1 (27 + 2 * q) 0 = Int32.ofNat (D.cs q + 1) ∧ M'.2.1 (28 + 2 * q) (D.cs q) = wc 32 (kW tp Tn (n + 1))) r M')) (fun r M' x => ?_)
  · subst e2
    by_cases hx : ∃ q i, q < 3 ∧ i < D.cs q ∧ D.nm q i = kW tp Tn (n + 1)
    · rw [ic_f (fun z => hi.mp z hx)]
      refine Hm_mono (sp45c (d := d + 6) (e := 3) rfl t1) (fun r M' ⟨a, b, cc⟩ => ⟨up (f1.tr cc), ?_⟩)
      rw [chk_0 e0, newO_3 h1 hx]; exact op1 (by omega) a b
    · rw [ic_t (hi.mpr hx), e18]
      have k0 : M2.1 (27 + 2 * q) 0 = Int32.ofNat (D.cs q) := (f1.i (tvn _ _ (by omega))).trans h0
      rw [e50, k0, i_lt (by omega) (by omega), ic_t hf, ck (show D.cs q < 6 by omega) (by omega), i_nat (by omega), sJ_1, k0, i_addl, cVd_s]
      have f2 : Fr (W43 q (D.cs q)) M2 (sI (sJ M2 (27 + 2 * q + 1) (D.cs q) (wc 32 (kW tp Tn (n + 1)))) (27 + 2 * q) 0 (Int32.ofNat (D.cs q + 1))) := (Fr.rf.sJ (.inr (.inr (by omega)))).sI (.inr (.inl (by omega)))
      have t2 : TA tp Tn (n + 1) (sI (sJ M2 (27 + 2 * q + 1) (D.cs q) (wc 32 (kW tp Tn (n + 1)))) (27 + 2 * q) 0 (Int32.ofNat (D.cs q + 1))) := t1.fr (W := fun c j => 26 ≤ c) ((Fr.rf.sJ (by omega)).sI (by omega)) (fun c j hc => by omega)
      refine Hm_cVv (sp11n (d := d) hs t2) (fun M3 ⟨t3, f3⟩ => ?_)
      refine Hm_some ⟨((up f1).tr f2).tr (up f3), ?_⟩
      rw [chk_0 e0, chk_0 (newO_0 h1 hx)]
      refine ⟨rfl, t3, ?_, ?_⟩
      · rw [f3.i (tvn _ _ (by omega))]; exact sI_eq
      · rw [f3.j (tvn _ _ (by omega)), show 28 + 2 * q = 27 + 2 * q + 1 by omega]; simp [sI, sJ]
  · obtain ⟨x1, x2⟩ := x
    cases hc : chk tp Tn [(fullO D q, n), (newO tp Tn D (n + 1), n + 1)] with
    | none =>
      rw [hc] at x2
      obtain ⟨rfl, y2⟩ := x2
      exact ⟨1, rfl, by rw [ic_t (by decide)]; exact Hm_some ⟨x1, rfl, y2⟩⟩
    | some e =>
      rw [hc] at x2
      obtain ⟨rfl, y2⟩ := x2
      exact ⟨0, rfl, by rw [ic_t (by decide)]; exact Hm_some ⟨x1, rfl, y2⟩⟩
end CLINE
