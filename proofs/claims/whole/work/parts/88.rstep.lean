/-! YARD: the reference's steps, also behind a fault -/
section RSTEP
variable {tp : Nat → Int32} {Tn d n : Nat} {M M' M'' : Mem} {D : Dr} {l : List (Nat × Nat)}
def RS (tp : Nat → Int32) (Tn : Nat) (o : Option Nat) (n : Nat) (M : Mem) : Prop := match o with | none => TB tp Tn n M | some e => TFa e M
theorem RS.fr {W : Nat → Nat → Prop} {o : Option Nat} (h : RS tp Tn o n M) (hf : Fr W M M') (hw : ∀ c i, (c = 255 ∨ c = 256 ∨ c = 257 ∨ (c = 253 ∧ (i = 7 ∨ i = 8))) → ¬ W c i) : RS tp Tn o n M' := by
  cases o with
  | none => exact TB.fr h hf hw
  | some e => exact ⟨(hf.i (hw 253 8 (by omega))).trans h.1, h.2⟩
theorem WT33.fr {W : Nat → Nat → Prop} (h : WT33 M) (hf : Fr W M M') (hw : ∀ j, ¬ W 258 j) : WT33 M' := fun i hi => (hf.j (hw i)).trans (h i hi)
theorem R78i {A : Mem} {j : Nat} {v : Int32} (hj : j = 7 ∨ j = 8) : Fr R78 A (sI A 253 j v) := Fr.rf.sI ⟨rfl, hj⟩
theorem op214 {w : Nat} {E : Int32} (hE : E = Int32.ofNat w) (hs : SG tp Tn) (hw : w < 33) (hW : WT33 M) (h : RS tp Tn (chk tp Tn l) n M) : Hm (evD (d + 3) 214 [vR 12 0 253, vI E] M) (fun r M' => r = none ∧ Fr R78 M M' ∧ RS tp Tn (chk tp Tn (l ++ [(wO tp Tn n w, n)])) (n + 1) M') := by
  cases hc : chk tp Tn l with
  | some e =>
    rw [hc] at h; rw [chk_ap.2 e hc]
    exact Hm_eq (sp214f h) ⟨rfl, Fr.rf, h⟩
  | none =>
    rw [hc] at h; rw [chk_ap.1 hc]
    by_cases hy : isWN tp Tn n (kwd w) = true
    · rw [chk_0 (wO_0 hy)]
      exact Hm_eq (sp214y hE hs hw hW h hy) ⟨rfl, R78i (.inl rfl), TB.s h (isWN_k hy)⟩
    · rw [wO_1 hy, chk_1 (by omega)]
      exact Hm_eq (sp214n hE hs hw hW h (nf hy)) ⟨rfl, R78i (.inr rfl), TB.f hs (by omega) (by omega)⟩
theorem op234 {k : Nat} {E : Int32} (hE : E = Int32.ofNat k) (hs : SG tp Tn) (hk : k < 1000) (h : RS tp Tn (chk tp Tn l) n M) : Hm (evD (d + 2) 234 [vR 12 0 253, vI E] M) (fun r M' => r = none ∧ Fr R78 M M' ∧ RS tp Tn (chk tp Tn (l ++ [(sO tp Tn n k, n)])) (n + 1) M') := by
  cases hc : chk tp Tn l with
  | some e =>
    rw [hc] at h; rw [chk_ap.2 e hc]
    exact Hm_eq (sp234f h) ⟨rfl, Fr.rf, h⟩
  | none =>
    rw [hc] at h; rw [chk_ap.1 hc]
    by_cases hy : isSN tp Tn n k = true
    · rw [chk_0 (sO_0 hy)]
      exact Hm_eq (sp234y hE hs hk h hy) ⟨rfl, R78i (.inl rfl), TB.s h (isSN_k hy)⟩
    · rw [sO_1 hy, chk_1 (by omega)]
      exact Hm_eq (sp234n hE hs hk h (nf hy)) ⟨rfl, R78i (.inr rfl), TB.f hs (by omega) (by omega)⟩
theorem lcmp_n {a b : Nat} (ha : a < 10000) (hb : b < 10000) : (lg_cmp (Int64.ofNat a) (Int64.ofNat b) < 0 ↔ a < b) ∧ (0 < lg_cmp (Int64.ofNat a) (Int64.ofNat b) ↔ b < a) := by
  have hg : (Int64.ofNat a > Int64.ofNat b) ↔ b < a := by
    show Int64.ofNat b < Int64.ofNat a ↔ _
    rw [Int64.lt_iff_toInt_lt, l_ti (by omega), l_ti (by omega)]; omega
  have he : (Int64.ofNat a = Int64.ofNat b) ↔ a = b := ⟨fun z => by
    have := congrArg Int64.toInt z
    rw [l_ti (by omega), l_ti (by omega)] at this; omega, fun z => by rw [z]⟩
  unfold lg_cmp
  by_cases h1 : b < a
  · rw [if_pos (hg.mpr h1)]
    exact ⟨⟨fun z => absurd z (by decide), fun z => by omega⟩, ⟨fun _ => h1, fun _ => by decide⟩⟩
  · rw [if_neg (fun z => h1 (hg.mp z))]
    by_cases h2 : a = b
    · rw [if_pos (he.mpr h2)]
      exact ⟨⟨fun z => absurd z (by decide), fun z => by omega⟩, ⟨fun z => absurd z (by decide), fun z => by omega⟩⟩
    · rw [if_neg (fun z => h2 (he.mp z))]
      exact ⟨⟨fun _ => by omega, fun _ => by decide⟩, ⟨fun z => absurd z (by decide), fun z => by omega⟩⟩
theorem kval_2 (h : kS tp Tn n = 2) : kval tp Tn n = Int64.ofNat (kV tp Tn n) := by unfold kval; rw [if_neg (by omega), if_pos h]
theorem kval_1 (h : kS tp Tn n = 1) : kval tp Tn n = wc 37 (kW tp Tn n) := by unfold kval; rw [if_pos h]
theorem sp216f {e : Nat} {p q : Int32} (h : TFa e M) : evD (d + 2) 216 [vR 12 0 253, vI p, vI q] M = some (some (vI 0), M) := by
  rw [e216, ic_f h.ne.1, lp0_eq, show (20000 : Nat) = 19999 + 1 from rfl, e216_28, ic_f h.ne.1, show (19999 : Nat) = 19998 + 1 from rfl, e216_70, ic_t h.ne.2]
theorem sp216o {lo hi : Nat} {L H : Int32} (hL : L = Int32.ofNat lo) (hH : H = Int32.ofNat hi) (hs : SG tp Tn) (hl : lo < 10000) (hh : hi < 10000) (h : TB tp Tn n M) (h0 : numO tp Tn n lo hi = 0) : evD (d + 2) 216 [vR 12 0 253, vI L, vI H] M = some (some (vI (Int32.ofNat (kV tp Tn n))), sI M 253 7 (Int32.ofNat (n + 1))) := by
  subst hL hH
  have hn := h.le hs
  obtain ⟨t1, t2, t3⟩ := h.1 n h.2.1
  obtain ⟨k2, l1, l2⟩ := numO_k h0
  have hv := kV_lt k2
  have c1 := lcmp_n (a := kV tp Tn n) (b := lo) hv hl
  have c2 := lcmp_n (a := kV tp Tn n) (b := hi) hv hh
  have ev : M.2.1 257 n = Int64.ofNat (kV tp Tn n) := by rw [t3 (by omega) (by omega), kval_2 k2]
  rw [e216, ic_t h.2.2.2, h.2.2.1, ck (show n < 1002 by omega) (by omega), i_nat (by omega), t1, (i_s1 (a := kS tp Tn n) so_le).2.1, ic_t k2, lp0_eq, show (20000 : Nat) = 19999 + 1 from rfl, e216_28, ic_t h.2.2.2, h.2.2.1, ck (show n < 1002 by omega) (by omega), i_nat (by omega), ev, toI64 (by omega), toI64 (by omega), ic_f (fun z => by have := c1.1.mp z; omega), ckn (show n < 1002 by omega) (by omega), ic_f (fun z => by have := c2.2.mp z; omega), show (19999 : Nat) = 19998 + 1 from rfl, e216_70, h.2.2.2, ic_f n0, h.2.2.1, i_addl, sI_eq, ip1, ck (show n < 1002 by omega) (by omega), i_nat (by omega), sI_2, ev, l_i32 hv]
theorem sp216n {lo hi : Nat} {L H : Int32} (hL : L = Int32.ofNat lo) (hH : H = Int32.ofNat hi) (hs : SG tp Tn) (hl : lo < 10000) (hh : hi < 10000) (h : TB tp Tn n M) (h0 : ¬ numO tp Tn n lo hi = 0) : evD (d + 2) 216 [vR 12 0 253, vI L, vI H] M = some (some (vI 0), sI M 253 8 (Int32.ofNat (flt tp Tn (numO tp Tn n lo hi) n))) := by
  subst hL hH
  have hn := h.le hs
  obtain ⟨t1, t2, t3⟩ := h.1 n h.2.1
  have h0' := h0
  unfold numO at h0
  by_cases k2 : kS tp Tn n = 2
  · rw [if_neg (by omega)] at h0
    have hr : ¬ (lo ≤ kV tp Tn n ∧ kV tp Tn n ≤ hi) := fun z => by rw [if_pos z] at h0; exact h0 rfl
    have e4 : numO tp Tn n lo hi = 4 := by unfold numO; rw [if_neg (by omega), if_neg hr]
    have hv := kV_lt k2
    have c1 := lcmp_n (a := kV tp Tn n) (b := lo) hv hl
    have c2 := lcmp_n (a := kV tp Tn n) (b := hi) hv hh
    have ev : M.2.1 257 n = Int64.ofNat (kV tp Tn n) := by rw [t3 (by omega) (by omega), kval_2 k2]
    have hF := TB.f (M := M) (n := n) (tp := tp) hs (e := 4) (by omega) (by omega)
    have fin : ∀ F o1 o2, lp (d + 1) 216 (F + 2) 65 [some (vR 12 0 253), o1, o2] M = some (some (vI 0), sI M 253 8 (Int32.ofNat (flt tp Tn 4 n))) := fun F o1 o2 => by
      rw [e216_65, sp208 (e := 4) (E := 4) rfl hs h, cVd_s, e216_70, ic_t hF.ne.2]
    rw [e216, ic_t h.2.2.2, h.2.2.1, ck (show n < 1002 by omega) (by omega), i_nat (by omega), t1, (i_s1 (a := kS tp Tn n) so_le).2.1, ic_t k2, lp0_eq, show (20000 : Nat) = 19999 + 1 from rfl, e216_28, ic_t h.2.2.2, h.2.2.1, ck (show n < 1002 by omega) (by omega), i_nat (by omega), ev, toI64 (by omega), toI64 (by omega), e4]
    by_cases y : kV tp Tn n < lo
    · rw [ic_t (c1.1.mpr y), show (19999 : Nat) = 19997 + 2 from rfl, fin]
    · rw [ic_f (fun z => y (c1.1.mp z)), ckn (show n < 1002 by omega) (by omega), ic_t (c2.2.mpr (by omega)), show (19999 : Nat) = 19997 + 2 from rfl, fin]
  · have e1 : numO tp Tn n lo hi = 1 := by unfold numO; rw [if_pos k2]
    have hF := TB.f (M := M) (n := n) (tp := tp) hs (e := 1) (by omega) (by omega)
    rw [e216, ic_t h.2.2.2, h.2.2.1, ck (show n < 1002 by omega) (by omega), i_nat (by omega), t1, (i_s1 (a := kS tp Tn n) so_le).2.1, ic_f k2, sp208 (e := 1) (E := 1) rfl hs h, cVd_s, lp0_eq, show (20000 : Nat) = 19999 + 1 from rfl, e216_70, ic_t hF.ne.2, e1]
theorem op216 {lo hi : Nat} {L H : Int32} (hL : L = Int32.ofNat lo) (hH : H = Int32.ofNat hi) (hs : SG tp Tn) (hl : lo < 10000) (hh : hi < 10000) (h : RS tp Tn (chk tp Tn l) n M) : Hm (evD (d + 2) 216 [vR 12 0 253, vI L, vI H] M) (fun r M' => Fr R78 M M' ∧ RS tp Tn (chk tp Tn (l ++ [(numO tp Tn n lo hi, n)])) (n + 1) M' ∧ ∃ v, r = some (vI v) ∧ (chk tp Tn (l ++ [(numO tp Tn n lo hi, n)]) = none → v = Int32.ofNat (kV tp Tn n))) := by
  cases hc : chk tp Tn l with
  | some e =>
    rw [hc] at h; rw [chk_ap.2 e hc]
    exact Hm_eq (sp216f h) ⟨Fr.rf, h, 0, rfl, fun z => absurd z (by simp)⟩
  | none =>
    rw [hc] at h; rw [chk_ap.1 hc]
    by_cases hy : numO tp Tn n lo hi = 0
    · rw [chk_0 hy]
      exact Hm_eq (sp216o hL hH hs hl hh h hy) ⟨R78i (.inl rfl), TB.s h (by have := (numO_k hy).1; omega), _, rfl, fun _ => rfl⟩
    · rw [chk_1 hy]
      exact Hm_eq (sp216n hL hH hs hl hh h hy) ⟨R78i (.inr rfl), TB.f hs (by omega) numO_le, 0, rfl, fun z => absurd z (by simp)⟩
theorem op213 {w lo hi : Nat} {E L H : Int32} (hE : E = Int32.ofNat w) (hL : L = Int32.ofNat lo) (hH : H = Int32.ofNat hi) (hs : SG tp Tn) (hw : w < 33) (hW : WT33 M) (hl : lo < 10000) (hh : hi < 10000) (h : RS tp Tn (chk tp Tn l) n M) : Hm (evD (d + 4) 213 [vR 12 0 253, vI E, vI L, vI H] M) (fun r M' => Fr R78 M M' ∧ RS tp Tn (chk tp Tn (l ++ [(wO tp Tn n w, n)] ++ [(numO tp Tn (n + 1) lo hi, n + 1)])) (n + 2) M' ∧ ∃ v, r = some (vI v) ∧ (chk tp Tn (l ++ [(wO tp Tn n w, n)] ++ [(numO tp Tn (n + 1) lo hi, n + 1)]) = none → v = Int32.ofNat (kV tp Tn (n + 1)))) := by
  rw [e213]
  refine Hm_cVv (op214 (d := d) hE hs hw hW h) (fun M1 ⟨f1, r1⟩ => ?_)
  refine Hm_cIn (op216 (d := d + 1) hL hH hs hl hh r1) (fun r M2 ⟨f2, r2, v, hr, hv⟩ => ⟨v, hr, ?_⟩)
  exact Hm_some ⟨f1.tr f2, r2, v, rfl, hv⟩
/-- one of some words -/
theorem sp218f {e : Nat} {p q : Int32} (h : TFa e M) : evD (d + 3) 218 [vR 12 0 253, vI p, vI q] M = some (some (vI 0), M) := by
  rw [e218, ic_t h.ne.2, lp0_eq, show (20000 : Nat) = 19999 + 1 from rfl, e218_18, ic_f h.ne.1, show (19999 : Nat) = 19998 + 1 from rfl, e218_34, ic_t h.ne.2, Int32.add_zero, sI_id, show (19998 : Nat) = 19997 + 1 from rfl, e218_55, ic_t h.ne.2]
theorem op218 {f m x : Nat} {E E' : Int32} (hE : E = Int32.ofNat f) (hE' : E' = Int32.ofNat m) (hs : SG tp Tn) (hm : f + m ≤ 33) (hW : WT33 M) (hx : whr tp Tn n f m = if x = m then -1 else Int32.ofNat x) (hxm : x ≤ m) (hk : (if x = m then 1 else 0) = 0 → kS tp Tn n ≠ 0) (h : RS tp Tn (chk tp Tn l) n M) : Hm (evD (d + 3) 218 [vR 12 0 253, vI E, vI E'] M) (fun r M' => Fr R78 M M' ∧ RS tp Tn (chk tp Tn (l ++ [(if x = m then 1 else 0, n)])) (n + 1) M' ∧ ∃ v, r = some (vI v) ∧ (chk tp Tn (l ++ [(if x = m then 1 else 0, n)]) = none → v = Int32.ofNat x)) := by
  cases hc : chk tp Tn l with
  | some e =>
    rw [hc] at h; rw [chk_ap.2 e hc]
    exact Hm_eq (sp218f h) ⟨Fr.rf, h, 0, rfl, fun z => absurd z (by simp)⟩
  | none =>
    rw [hc] at h; rw [chk_ap.1 hc]
    have h : TB tp Tn n M := h
    rw [e218, h.2.2.2, ic_f n0, sp211 hE hE' hs hm hW h, cIn_s, hx, lp0_eq, show (20000 : Nat) = 19999 + 1 from rfl, e218_18, ic_t h.2.2.2]
    by_cases y : x = m
    · have hF := TB.f (M := M) (n := n) (tp := tp) hs (e := 1) (by omega) (by omega)
      rw [if_pos y, if_pos y, ic_t (by decide), sp208 (e := 1) (E := 1) rfl hs h, cVd_s, show (19999 : Nat) = 19998 + 1 from rfl, e218_34, ic_t hF.ne.2, Int32.add_zero, sI_id, show (19998 : Nat) = 19997 + 1 from rfl, e218_55, ic_t hF.ne.2, chk_1 (by omega)]
      exact Hm_some ⟨R78i (.inr rfl), hF, 0, rfl, fun z => absurd z (by simp)⟩
    · rw [if_neg y] at hk
      rw [if_neg y, if_neg y, ic_f (i_neg (by omega)), show (19999 : Nat) = 19998 + 1 from rfl, e218_34, h.2.2.2, ic_f n0, h.2.2.1, i_addl, show (19998 : Nat) = 19997 + 1 from rfl, e218_55, sI_ne (by omega), h.2.2.2, ic_f n0, chk_0 rfl]
      exact Hm_some ⟨R78i (.inl rfl), TB.s h (hk rfl), _, rfl, fun _ => rfl⟩
theorem whr_sd : whr tp Tn n 19 2 = if sdO tp Tn n = 2 then -1 else Int32.ofNat (sdO tp Tn n) := by
  unfold sdO
  by_cases c0 : isWN tp Tn n (kwd 19) = true
  · rw [whr_y (f := 19) (i := 0) c0 2 (by omega) (by omega), if_pos c0]; rfl
  by_cases c1 : isWN tp Tn n (kwd 20) = true
  · rw [whr_y (f := 19) (i := 1) c1 2 (by omega) (by omega), if_neg c0, if_pos c1]; rfl
  · rw [whr_no 2 (fun k hk => ?_), if_neg c0, if_neg c1]; rfl
    rcases k with _ | _ | k
    · exact nf c0
    · exact nf c1
    · omega
theorem whr_kd : whr tp Tn n 21 4 = if kdO tp Tn n = 4 then -1 else Int32.ofNat (kdO tp Tn n) := by
  unfold kdO
  by_cases c0 : isWN tp Tn n (kwd 21) = true
  · rw [whr_y (f := 21) (i := 0) c0 4 (by omega) (by omega), if_pos c0]; rfl
  by_cases c1 : isWN tp Tn n (kwd 22) = true
  · rw [whr_y (f := 21) (i := 1) c1 4 (by omega) (by omega), if_neg c0, if_pos c1]; rfl
  by_cases c2 : isWN tp Tn n (kwd 23) = true
  · rw [whr_y (f := 21) (i := 2) c2 4 (by omega) (by omega), if_neg c0, if_neg c1, if_pos c2]; rfl
  by_cases c3 : isWN tp Tn n (kwd 24) = true
  · rw [whr_y (f := 21) (i := 3) c3 4 (by omega) (by omega), if_neg c0, if_neg c1, if_neg c2, if_pos c3]; rfl
  · rw [whr_no 4 (fun k hk => ?_), if_neg c0, if_neg c1, if_neg c2, if_neg c3]; rfl
    rcases k with _ | _ | _ | _ | k
    · exact nf c0
    · exact nf c1
    · exact nf c2
    · exact nf c3
    · omega
/-- a told name, also behind a fault -/
theorem op220 {c : Nat → Nat} {nm : Nat → Nat → List Nat} {p : Int32} {kn q : Nat} {E : Int32} (hE : E = Int32.ofNat (20 * q)) (hq : q < 3) (hs : SG tp Tn) (hN : NOk c nm) (hT : NTp p c nm kn M ∨ ∃ e, chk tp Tn l = some e) (hW : WT33 M) (h : RS tp Tn (chk tp Tn l) n M) : Hm (evD (d + 5) 220 [vR 12 0 253, vI p, vI E] M) (fun r M' => Fr R78 M M' ∧ RS tp Tn (chk tp Tn (l ++ [(namO tp Tn n (c q) (nm q), n)])) (n + 1) M' ∧ ∃ v, r = some (vI v) ∧ (chk tp Tn (l ++ [(namO tp Tn n (c q) (nm q), n)]) = none → v = Int32.ofNat (fnd (nm q) (kW tp Tn n) (c q)))) := by
  cases hc : chk tp Tn l with
  | some e =>
    rw [hc] at h; rw [chk_ap.2 e hc]
    exact Hm_eq (sp220f h) ⟨Fr.rf, h, 0, rfl, fun z => absurd z (by simp)⟩
  | none =>
    rw [hc] at h; rw [chk_ap.1 hc]
    have hT : NTp p c nm kn M := hT.elim id (fun ⟨e, he⟩ => by rw [hc] at he; exact absurd he (by simp))
    refine Hm_mono (sp220 hE hq hs hN hT hW h) (fun r M' ⟨a, b⟩ => ⟨a, ?_⟩)
    by_cases hy : namO tp Tn n (c q) (nm q) = 0
    · rw [if_pos hy] at b
      rw [chk_0 hy]
      exact ⟨b.2, _, b.1, fun _ => rfl⟩
    · rw [if_neg hy] at b
      rw [chk_1 hy]
      exact ⟨b.2, 0, b.1, fun z => absurd z (by simp)⟩
/-- a new name -/
def NWr (kn c j : Nat) : Prop := (c = 253 ∧ (j = 7 ∨ j = 8 ∨ j = 19)) ∨ (c = 263 ∧ j = kn) ∨ (c = 265 ∧ j = kn)
theorem R78_N {kn : Nat} (h : Fr R78 M M') : Fr (NWr kn) M M' := h.up (fun c j z => by unfold R78 at z; unfold NWr; omega)
theorem sp209 {kn : Nat} {E : Int32} (hs : SG tp Tn) (hN : NOk D.cs D.nm) (hT : NTp 1 D.cs D.nm kn M) (hkn : kn < 18) (hW : WT33 M) (h : TB tp Tn n M) (hk : kS tp Tn n ≠ 0) : Hm (evD (d + 4) 209 [vR 12 0 253, vI E] M) (fun r M' => r = none ∧ Fr (NWr kn) M M' ∧ RS tp Tn (chk tp Tn [(newO tp Tn D (n + 1), n + 1)]) (n + 2) M' ∧ (newO tp Tn D (n + 1) = 0 → M'.1 253 19 = Int32.ofNat (kn + 1) ∧ M'.1 265 kn = E ∧ M'.2.1 263 kn = wc 37 (kW tp Tn (n + 1)))) := by
  have e19 : M.1 253 19 = Int32.ofNat kn := by
    rcases hT.2 with ⟨z, -⟩ | ⟨-, z, -⟩
    · exact absurd z (by decide)
    · exact z
  rw [e209, h.2.2.1, i_addl]
  have h1 := h.s hk
  have f1 : Fr R78 M (sI M 253 7 (Int32.ofNat (n + 1))) := R78i (.inl rfl)
  have W1 : WT33 (sI M 253 7 (Int32.ofNat (n + 1))) := hW.fr f1 (fun j z => by unfold R78 at z; omega)
  have T1 : NTp 1 D.cs D.nm kn (sI M 253 7 (Int32.ofNat (n + 1))) := hT.fr f1 (fun c j hc z => by unfold R78 at z; omega)
  have g19 : (sI M 253 7 (Int32.ofNat (n + 1))).1 253 19 = Int32.ofNat kn := by rw [sI_ne (by omega)]; exact e19
  generalize hA : sI M 253 7 (Int32.ofNat (n + 1)) = A at *
  rw [sp210 (d := d) hs W1 h1, cIn_s]
  by_cases hy : isNN tp Tn (n + 1) = true
  · have k1 := (isNN_o hy).1
    rw [hy, ic_f (by decide)]
    refine Hm_cIn (sp212 (d := d + 2) hs hN T1 h1 k1) (fun r M1 ⟨eM, x⟩ => ?_)
    subst M1
    rcases x with ⟨q, i, hq, hi, he, rfl⟩ | ⟨hno, rfl⟩
    · have en : newO tp Tn D (n + 1) = 3 := newO_3 hy ⟨q, i, hq, hi, he⟩
      have h6 := hN.1 q hq
      have hF := TB.f (M := A) (n := n + 1) (tp := tp) hs (e := 3) (by omega) (by omega)
      refine ⟨_, rfl, ?_⟩
      rw [ic_f (i_neg (by omega)), sp208 (e := 3) (E := 3) rfl hs h1, cVd_s, lp0_eq, show (20000 : Nat) = 19999 + 1 from rfl, e209_38, ic_f hF.ne.1, en, chk_1 (by omega)]
      exact Hm_some ⟨rfl, R78_N (f1.tr (R78i (.inr rfl))), hF, fun z => by omega⟩
    · have hx : ¬ ∃ q i, q < 3 ∧ i < D.cs q ∧ D.nm q i = kW tp Tn (n + 1) := fun ⟨q, i, a, b, c⟩ => hno q i a b c
      have en : newO tp Tn D (n + 1) = 0 := newO_0 hy hx
      have hn := h1.le hs
      obtain ⟨t1, t2, t3⟩ := h1.1 (n + 1) h1.2.1
      refine ⟨_, rfl, ?_⟩
      rw [ic_t (by decide), lp0_eq, show (20000 : Nat) = 19999 + 1 from rfl, e209_38, ic_t h1.2.2.2, h1.2.2.1, ck (show n + 1 < 1002 by omega) (by omega), i_nat (by omega), t3 (by omega) (by omega), kval_1 k1, g19, ck (show kn < 18 by omega) (by omega), i_nat (by omega), sJ_1, g19, ck (show kn < 18 by omega) (by omega), i_nat (by omega), sI_ne (by omega), sJ_1, g19, i_addl, sI_ne (by omega), sI_ne (by omega), sJ_1, h1.2.2.1, i_addl, chk_0 en]
      have fB : Fr (NWr kn) A (sI (sI (sI (sJ A 263 kn (wc 37 (kW tp Tn (n + 1)))) 265 kn E) 253 19 (Int32.ofNat (kn + 1))) 253 7 (Int32.ofNat (n + 1 + 1))) := (((Fr.rf.sJ (by unfold NWr; omega)).sI (by unfold NWr; omega)).sI (by unfold NWr; omega)).sI (by unfold NWr; omega)
      refine Hm_some ⟨rfl, (R78_N f1).tr fB, ?_, fun _ => ⟨?_, ?_, ?_⟩⟩
      · refine TB.s (M := sI (sI (sJ A 263 kn (wc 37 (kW tp Tn (n + 1)))) 265 kn E) 253 19 (Int32.ofNat (kn + 1))) (h1.fr (W := fun c j => c = 263 ∨ c = 265 ∨ (c = 253 ∧ j = 19)) (((Fr.rf.sJ (by omega)).sI (by omega)).sI (by omega)) (fun c i hc => by omega)) (by omega)
      · rw [sI_ne (by omega)]; exact sI_eq
      · rw [sI_ne (by omega), sI_ne (by omega)]; exact sI_eq
      · simp [sI, sJ]
  · have en : newO tp Tn D (n + 1) = 1 := newO_1 hy
    have hF := TB.f (M := A) (n := n + 1) (tp := tp) hs (e := 1) (by omega) (by omega)
    rw [nf hy, ic_t (by decide), sp208 (e := 1) (E := 1) rfl hs h1, cVd_s, lp0_eq, show (20000 : Nat) = 19999 + 1 from rfl, e209_38, ic_f hF.ne.1, en, chk_1 (by omega)]
    exact Hm_some ⟨rfl, R78_N (f1.tr (R78i (.inr rfl))), hF, fun z => by omega⟩
end RSTEP
