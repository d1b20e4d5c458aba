/-! SESSION alike -/
section SESS
variable {tp : Nat → Int32} {Tn n sz t : Nat} {M M' : Mem} {c : Nat → Nat} {nm : Nat → Nat → List Nat} {g : Nat → Nat → Nat}
def gok (c : Nat → Nat) (sz : Nat) (g : Nat → Nat → Nat) : Prop := ∀ i, i < sz → (g 0 i = 0 ∧ g 1 i < c 2 ∧ g 2 i < c 0) ∨ (g 0 i = 1 ∧ g 1 i < c 1 ∧ g 2 i < c 2) ∨ ((g 0 i = 2 ∨ g 0 i = 3) ∧ g 1 i < c 2) ∨ g 0 i = 4
theorem namO_f {m : Nat} {f : Nat → List Nat} (h : namO tp Tn n m f = 0) : fnd f (kW tp Tn n) m < m := by
  unfold namO at h
  by_cases hy : isNN tp Tn n = true
  · rw [if_pos hy] at h
    by_cases z : fnd f (kW tp Tn n) m < m
    · exact z
    · rw [if_neg z] at h; omega
  · rw [if_neg hy] at h; omega
theorem pNm_ok {x m a b : Nat} (hx : x < 5) (h : pNm tp Tn c nm x n = .inl (m, a, b)) : (x = 0 ∧ a < c 2 ∧ b < c 0) ∨ (x = 1 ∧ a < c 1 ∧ b < c 2) ∨ ((x = 2 ∨ x = 3) ∧ a < c 2) ∨ x = 4 := by
  unfold pNm at h
  by_cases x4 : x = 4
  · exact .inr (.inr (.inr x4))
  rw [if_neg x4] at h
  by_cases o1 : namO tp Tn n (c (rq1 x)) (nm (rq1 x)) = 0
  · rw [if_pos o1] at h
    have f1 := namO_f o1
    by_cases x23 : x = 2 ∨ x = 3
    · rw [if_pos x23] at h
      have h := Sum.inl.inj h
      have ea : fnd (nm (rq1 x)) (kW tp Tn n) (c (rq1 x)) = a := congrArg (fun z => z.2.1) h
      have r : rq1 x = 2 := by unfold rq1; rw [if_neg (by omega)]
      rw [r] at ea f1
      exact .inr (.inr (.inl ⟨x23, by omega⟩))
    · rw [if_neg x23] at h
      by_cases o2 : namO tp Tn (n + 1) (c (rq2 x)) (nm (rq2 x)) = 0
      · rw [if_pos o2] at h
        have f2 := namO_f o2
        have h := Sum.inl.inj h
        have ea : fnd (nm (rq1 x)) (kW tp Tn n) (c (rq1 x)) = a := congrArg (fun z => z.2.1) h
        have eb : fnd (nm (rq2 x)) (kW tp Tn (n + 1)) (c (rq2 x)) = b := congrArg (fun z => z.2.2) h
        by_cases x1 : x = 1
        · have r : rq1 x = 1 := by unfold rq1; rw [if_pos x1]
          have r2 : rq2 x = 2 := by unfold rq2; rw [if_pos x1]
          rw [r] at ea f1; rw [r2] at eb f2
          exact .inr (.inl ⟨x1, by omega, by omega⟩)
        · have r : rq1 x = 2 := by unfold rq1; rw [if_neg x1]
          have r2 : rq2 x = 0 := by unfold rq2; rw [if_neg x1]
          rw [r] at ea f1; rw [r2] at eb f2
          exact .inl ⟨by omega, by omega, by omega⟩
      · rw [if_neg o2] at h; exact absurd h (by simp)
  · rw [if_neg o1] at h; exact absurd h (by simp)
theorem pS_ok : ∀ f n sz g sz' g', sz ≤ 40 → gok c sz g → pS tp Tn c nm f n sz g = .inl (sz', g') → gok c sz' g' ∧ sz' ≤ 40
  | 0, n, sz, g, sz', g', _, _, h => by exact absurd h (by simp [pS])
  | f + 1, n, sz, g, sz', g', h40, hg, h => by
    by_cases k0 : kS tp Tn n = 0
    · rw [pS_e k0] at h
      have h := Sum.inl.inj h
      have e1 : sz = sz' := congrArg (fun z => z.1) h
      have e2 : g = g' := congrArg (fun z => z.2) h
      subst e1 e2; exact ⟨hg, h40⟩
    · rw [pS_s k0] at h
      by_cases d5 : dd tp Tn n = 5
      · have : pSL tp Tn c nm n sz = .inr (flt tp Tn 1 n) := by unfold pSL; rw [if_pos d5]
        rw [this] at h; exact absurd h (by simp [pSn])
      by_cases z40 : 40 ≤ sz
      · have : pSL tp Tn c nm n sz = .inr (flt tp Tn 5 n) := by unfold pSL; rw [if_neg d5, if_pos z40]
        rw [this] at h; exact absurd h (by simp [pSn])
      rw [pSL_g d5 z40] at h
      have hd := dd_le (tp := tp) (Tn := Tn) (n := n)
      cases hp : pNm tp Tn c nm (dd tp Tn n) (n + 1) with
      | inr e => rw [hp] at h; exact absurd h (by simp [pSn, pSg])
      | inl q =>
        obtain ⟨m, a, b⟩ := q
        rw [hp] at h
        have ok := pNm_ok (by omega) hp
        by_cases hy : isSN tp Tn m 59 = true
        · have : pSg tp Tn (.inl (m, a, b)) = .inl (m + 1, a, b) := by unfold pSg; simp only [hy, if_true]
          rw [this] at h
          refine pS_ok f _ _ _ _ _ (by omega) ?_ h
          intro i hi
          by_cases y : i = sz
          · subst y; rw [gad_0.1, gad_0.2.1, gad_0.2.2]; exact ok
          · rw [gad_n y, gad_n y, gad_n y]; exact hg i (by omega)
        · have : pSg tp Tn (.inl (m, a, b)) = .inr (flt tp Tn 1 m) := by unfold pSg; simp only [nf hy]; rfl
          rw [this] at h; exact absurd h (by simp [pSn])
theorem NOk_of {Y N : YT} {u L : Nat} {P K : Nat → YT} {mk : Int32} {ln : Nat → Nat → Int32} (hp : PI t Y N u P mk K L ln Tn tp nm) : NOk (nsz Y) nm := by
  refine ⟨fun q hq => ?_, hp.2.2.2.2.2.2.1, hp.2.2.2.2.2.2.2⟩
  have := hp.1.1.A6
  have := hp.1.1.B6
  have := hp.1.1.C6
  unfold nsz; split
  · omega
  · split <;> omega
theorem RLs_of {Y N : YT} {u L : Nat} {P K : Nat → YT} {mk : Int32} {ln : Nat → Nat → Int32} (hp : PI t Y N u P mk K L ln Tn tp nm) (hc : CI Y N u P mk K L ln Tn tp nm M) : RLs (nsz Y) nm M := by
  have hn := hc.2.2.2.2.2.2
  have hw := hp.2.2.2.2.2.2.1
  refine ⟨⟨by rw [hc.1.2.1, hp.1.1.B]; rfl, hp.1.1.B6, fun i hi => ⟨hn.1 i hi, hw 0 i (by omega) hi⟩⟩, ⟨by rw [hc.1.2.2.1, hp.1.1.C]; rfl, hp.1.1.C6, fun i hi => ⟨hn.2.1 i hi, hw 1 i (by omega) hi⟩⟩, ⟨by rw [hc.1.2.2.2.1, hp.1.1.A]; rfl, hp.1.1.A6, fun i hi => ⟨hn.2.2 i hi, hw 2 i (by omega) hi⟩⟩⟩
theorem CI.lines {Y N : YT} {u L : Nat} {P K : Nat → YT} {mk : Int32} {ln : Nat → Nat → Int32} {L' : Nat} {ln' : Nat → Nat → Int32} {Tn' : Nat} {tp' : Nat → Int32} (h : CI Y N u P mk K L ln Tn tp nm M) (hu : u ≤ 16) (hT : TC Tn' tp' M') (hl : LC L' ln' M') (hf : Fr (fun c j => c = 1 ∨ (52 ≤ c ∧ c ≤ 59)) M M') : CI Y N u P mk K L' ln' Tn' tp' nm M' := by
  obtain ⟨h1, h2, ⟨u1, u2, u3, u4⟩, ⟨k1, k2, k3⟩, -, -, n1, n2, n3⟩ := h
  refine ⟨h1.fr hf (fun c j hc => by unfold yc at *; omega), h2.fr hf (fun c j a1 a2 => by omega), ⟨(hf.i (by omega)).trans u1, fun i hi => ?_, fun i i' a1 a2 a3 => ?_, fun i hi => ?_⟩, ⟨(hf.i (by omega)).trans k1, fun m hm => (hf.r (by omega)).trans (k2 m hm), fun m hm hb => (k3 m hm hb).fr hf (fun c j a1 a2 => by omega)⟩, hl, hT, fun i hi => (hf.j (by omega)).trans (n1 i hi), fun i hi => (hf.j (by omega)).trans (n2 i hi), fun i hi => (hf.j (by omega)).trans (n3 i hi)⟩
  · rw [hf.r (by omega)]; exact u2 i hi
  · rw [hf.r (by omega), hf.r (by omega)]; exact u3 i i' a1 a2 a3
  · rw [hf.r (by omega)]
    obtain ⟨j, hj, e⟩ := u2 i (by omega)
    exact (u4 i hi).fr hf (fun c j a1 a2 => by omega)
theorem RI.lines {Y N : YT} {u L : Nat} {P K : Nat → YT} {mk : Int32} {ln : Nat → Nat → Int32} {L' : Nat} {ln' : Nat → Nat → Int32} {Tn' : Nat} {tp' : Nat → Int32} (h : RI Y N u P mk K L ln Tn tp nm M) (hN : YN Y) (hT : TRr Tn' tp' M') (hl : LRr L' ln' M') (hf : Fr ZW M M') : RI Y N u P mk K L' ln' Tn' tp' nm M' := by
  have hA := hN.A6
  obtain ⟨h1, h2, ⟨u1, u2⟩, k, -, -, ⟨kn, n0, n1, n2, n3⟩, w⟩ := h
  refine ⟨h1.fr hf (fun c j b1 b2' => by unfold ZW CW; omega), h2.fr hA hf (fun j a1 a2 => by unfold ZW CW; omega), ⟨(hf.i (by unfold ZW CW; omega)).trans u1, fun i hi => (u2 i hi).fr hA hf (fun j a1 a2 => by unfold ZW CW; omega)⟩, fun m hm => ⟨(hf.i (by unfold ZW CW; omega)).trans (k m hm).1, fun hb => ((k m hm).2 hb).fr hA hf (fun j a1 a2 => by unfold ZW CW; omega)⟩, hl, hT, ⟨kn, n0, (hf.i (by unfold ZW CW; omega)).trans n1, fun k' hk => ?_, fun q i hq hi' => ?_⟩, fun i hi' => (hf.j (by unfold ZW CW; omega)).trans (w i hi')⟩
  · rw [hf.i (by unfold ZW CW; omega), hf.j (by unfold ZW CW; omega)]; exact n2 k' hk
  · obtain ⟨k', a1, a2, a3⟩ := n3 q i hq hi'
    exact ⟨k', a1, by rw [hf.i (by unfold ZW CW; omega)]; exact a2, by rw [hf.j (by unfold ZW CW; omega)]; exact a3⟩
theorem two_session : Two t t 87 235 [vR 11 0 0] [vR 12 0 253] := by
  rintro M ⟨Y, N, u, P, mk, K, L, ln, Tn, tp, nm, hp, hc, hr⟩
  have hN := hp.1.1
  have hu := hp.2.2.1.1
  have hL := hp.2.2.2.2.1.1
  have hs : SG tp Tn := SG_of hp.2.2.2.2.2.1.1 hp.2.2.2.2.2.1.2
  have hNO := NOk_of hp
  rw [show (60 : Nat) = 59 + 1 from rfl, e87]
  have s88 := sp88 (d := 47) hs hc.2.2.2.2.2.1 (RLs_of hp hc)
  -- the reference, from what the class leaves
  have ref : ∀ M2, RI Y N u P mk K L ln Tn tp nm M2 → Hm (evD 60 235 [vR 12 0 253] M2) (SQ M2 (pS tp Tn (nsz Y) nm 42 0 0 (fun _ _ => 0))) := by
    intro M2 hr2
    obtain ⟨kn, n0, n1, n2, n3⟩ := hr2.2.2.2.2.2.2.1
    exact sp235 (d := 52) hs hNO (kn := kn) ⟨n0, .inl ⟨rfl, n1, n2, n3⟩⟩ hr2.2.2.2.2.2.2.2 hr2.2.2.2.2.2.1
  cases hP : pS tp Tn (nsz Y) nm 42 0 0 (fun _ _ => 0) with
  | inr e =>
    rw [hP] at s88 ref
    refine Hm_cIn s88 (fun a M1 h1 => ?_)
    obtain ⟨f1, rfl, e1, e2⟩ := h1
    refine ⟨_, rfl, ?_⟩
    rw [e82, cVd_s, ic_f (by rw [show (0 : Int32) = Int32.ofNat 0 from rfl, i_eq (by omega) (by omega)]; omega)]
    have fA : Fr (fun c j => c = 1 ∨ (52 ≤ c ∧ c ≤ 59)) M (sI M1 1 0 0) := (f1.up (fun c j z => by unfold SW TV at z; omega)).sI (by omega)
    have fB : Fr (fun c j => c = 1 ∨ (56 ≤ c ∧ c ≤ 59)) M (sI M1 1 0 0) := (f1.up (fun c j z => by unfold SW TV at z; omega)).sI (by omega)
    have hc' : CI Y N u P mk K L ln 0 tp nm (sI M1 1 0 0) := hc.lines hu ⟨sI_eq, fun i hi => by omega⟩ ⟨(fB.i (by omega)).trans hc.2.2.2.2.1.1, fun i hi => by rw [fB.i (by omega), fB.i (by omega), fB.i (by omega)]; exact hc.2.2.2.2.1.2 i hi⟩ fA
    have hr' : RI Y N u P mk K L ln Tn tp nm (sI M1 1 0 0) := hr.fr hN hu hL fA (fun c j hcc => by unfold RCo at hcc; omega)
    refine Hm_some ⟨_, rfl, Hm_mono (ref _ hr') (fun r' M2 h2 => ?_)⟩
    obtain ⟨f2, t2, rfl, l2⟩ := h2
    refine ⟨rfl, Y, N, u, P, mk, K, L, ln, 0, tp, nm, ⟨hp.1, hp.2.1, hp.2.2.1, hp.2.2.2.1, hp.2.2.2.2.1, ⟨by omega, fun i hi => by omega⟩, hp.2.2.2.2.2.2⟩, hc'.fr hu hL f2 (fun c j hcc => by unfold CCo at hcc; unfold ZW CW; omega), hr'.lines hN ⟨t2, fun i hi => by omega⟩ ⟨(l2 0 (by omega)).trans hr'.2.2.2.2.1.1, fun i hi => by rw [l2 _ (by omega), l2 _ (by omega), l2 _ (by omega)]; exact hr'.2.2.2.2.1.2 i hi⟩ f2⟩
  | inl q =>
    obtain ⟨sz, g⟩ := q
    rw [hP] at s88 ref
    obtain ⟨gk, h40⟩ := pS_ok (c := nsz Y) (nm := nm) 42 0 0 (fun _ _ => 0) sz g (by omega) (fun i hi => by omega) hP
    refine Hm_cIn s88 (fun a M1 h1 => ?_)
    obtain ⟨f1, rfl, hl, -⟩ := h1
    refine ⟨_, rfl, ?_⟩
    rw [e82, cVd_s, ic_t rfl, e92, cVd_s]
    have fA1 : Fr (fun c j => c = 1 ∨ (52 ≤ c ∧ c ≤ 59)) M (sI M1 1 0 0) := (f1.up (fun c j z => by unfold SW TV at z; omega)).sI (by omega)
    generalize hMA : sI (cpI (cpI (cpI (sI M1 1 0 0) (56 + 1) 0 (52 + 1) 0 40) (56 + 2) 0 (52 + 2) 0 40) (56 + 3) 0 (52 + 3) 0 40) 52 3 ((cpI (cpI (cpI (sI M1 1 0 0) (56 + 1) 0 (52 + 1) 0 40) (56 + 2) 0 (52 + 2) 0 40) (56 + 3) 0 (52 + 3) 0 40).1 56 3) = MA
    have r3 : MA.1 52 3 = Int32.ofNat sz := by
      rw [← hMA, sI_eq, cp_ne (by omega), cp_ne (by omega), cp_ne (by omega), sI_ne (by omega)]; exact hl.1
    have r53 : ∀ i, i < 40 → MA.1 53 i = M1.1 57 i := fun i hi => by
      rw [← hMA, sI_ne (by omega), cp_ne (by omega), cp_ne (by omega), cp_eq hi, sI_ne (by omega)]
    have r54 : ∀ i, i < 40 → MA.1 54 i = M1.1 58 i := fun i hi => by
      rw [← hMA, sI_ne (by omega), cp_ne (by omega), cp_eq hi, cp_ne (by omega), sI_ne (by omega)]
    have r55 : ∀ i, i < 40 → MA.1 55 i = M1.1 59 i := fun i hi => by
      rw [← hMA, sI_ne (by omega), cp_eq hi, cp_ne (by omega), cp_ne (by omega), sI_ne (by omega)]
    have fA : Fr (fun c j => c = 1 ∨ (52 ≤ c ∧ c ≤ 59)) M MA := by
      rw [← hMA]; exact (((fA1.cp (fun j => by omega)).cp (fun j => by omega)).cp (fun j => by omega)).sI (by omega)
    have t0 : MA.1 1 0 = 0 := by rw [← hMA, sI_ne (by omega), cp_ne (by omega), cp_ne (by omega), cp_ne (by omega), sI_eq]
    have hc' : CI Y N u P mk K sz (fun j i => MA.1 (53 + j) i) 0 tp nm MA := hc.lines hu ⟨t0, fun i hi => by omega⟩ ⟨r3, fun i hi => ⟨rfl, rfl, rfl⟩⟩ fA
    have hr' : RI Y N u P mk K L ln Tn tp nm MA := hr.fr hN hu hL fA (fun c j hcc => by unfold RCo at hcc; omega)
    have lk : ∀ i, i < sz → MA.1 53 i = Int32.ofNat (g 0 i) ∧ (g 0 i ≠ 4 → MA.1 54 i = Int32.ofNat (g 1 i)) ∧ (g 0 i < 2 → MA.1 55 i = Int32.ofNat (g 2 i)) := fun i hi => by
      rw [r53 i (by omega), r54 i (by omega), r55 i (by omega)]; exact hl.2 i hi
    have hA6 := hN.A6
    have hB6 := hN.B6
    have hC6 := hN.C6
    refine Hm_some ⟨_, rfl, Hm_mono (ref _ hr') (fun r' M2 h2 => ?_)⟩
    obtain ⟨f2, t2, rfl, l0, l2⟩ := h2
    refine ⟨rfl, Y, N, u, P, mk, K, sz, fun j i => MA.1 (53 + j) i, 0, tp, nm, ⟨hp.1, hp.2.1, hp.2.2.1, hp.2.2.2.1, ⟨h40, fun i hi => ?_⟩, ⟨by omega, fun i hi => by omega⟩, hp.2.2.2.2.2.2⟩, hc'.fr hu h40 f2 (fun c j hcc => by unfold CCo at hcc; unfold ZW CW; omega), hr'.lines hN ⟨t2, fun i hi => by omega⟩ ⟨l0, fun i hi => ?_⟩ f2⟩
    · obtain ⟨a1, a2, a3⟩ := lk i hi
      show (MA.1 53 i = 0 ∧ ∃ a s, a < nA Y ∧ s < nB Y ∧ MA.1 54 i = Int32.ofNat a ∧ MA.1 55 i = Int32.ofNat s) ∨ (MA.1 53 i = 1 ∧ ∃ c a, c < nC Y ∧ a < nA Y ∧ MA.1 54 i = Int32.ofNat c ∧ MA.1 55 i = Int32.ofNat a) ∨ ((MA.1 53 i = 2 ∨ MA.1 53 i = 3) ∧ ∃ a, a < nA Y ∧ MA.1 54 i = Int32.ofNat a) ∨ MA.1 53 i = 4
      rcases gk i hi with ⟨q0, q1, q2⟩ | ⟨q0, q1, q2⟩ | ⟨q0, q1⟩ | q0
      · exact .inl ⟨by rw [a1, q0]; rfl, g 1 i, g 2 i, q1, q2, a2 (by omega), a3 (by omega)⟩
      · exact .inr (.inl ⟨by rw [a1, q0]; rfl, g 1 i, g 2 i, q1, q2, a2 (by omega), a3 (by omega)⟩)
      · exact .inr (.inr (.inl ⟨by rw [a1]; exact q0.imp (fun h => by rw [h]; rfl) (fun h => by rw [h]; rfl), g 1 i, q1, a2 (by omega)⟩))
      · exact .inr (.inr (.inr (by rw [a1, q0]; rfl)))
    · obtain ⟨a1, a2, a3⟩ := lk i hi
      obtain ⟨b1, b2', b3⟩ := l2 i hi
      have g4 : g 0 i ≤ 4 := by have := gk i hi; omega
      show M2.1 266 (1 + 3 * i) = MA.1 53 i ∧ (MA.1 53 i ≠ 4 → M2.1 266 (2 + 3 * i) = MA.1 54 i) ∧ (MA.1 53 i = 0 ∨ MA.1 53 i = 1 → M2.1 266 (3 + 3 * i) = MA.1 55 i)
      refine ⟨by rw [b1, a1], fun h => ?_, fun h => ?_⟩
      · have : g 0 i ≠ 4 := fun z => h (by rw [a1, z]; rfl)
        rw [b2' this, a2 this]
      · have : g 0 i < 2 := by
          rw [a1, (i_s1 g4).1, (i_s1 g4).2.2.2] at h; omega
        rw [b3 this, a3 this]
end SESS
