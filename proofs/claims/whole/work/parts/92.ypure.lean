/-! YARD: from a draft to a yard, as pure things -/
section YPURE
variable {tp : Nat → Int32} {Tn n : Nat} {D D' : Dr} {ml : Bool} {Y : YT}
/-- the words of a law are small -/
theorem sttl_mem {q : Nat} {P : Nat → Prop} : ∀ (st c : List Nat), (∀ w ∈ st, P w) → (∀ w ∈ c, P w) → (∀ w ∈ (sttl q st c).1, P w) ∧ ∀ w ∈ (sttl q st c).2, P w
  | [], c, h1, h2 => ⟨h1, h2⟩
  | x :: st, c, h1, h2 => by
    show (∀ w ∈ (if q ≤ wrk x then sttl q st (c ++ [x]) else (x :: st, c)).1, P w) ∧ ∀ w ∈ (if q ≤ wrk x then sttl q st (c ++ [x]) else (x :: st, c)).2, P w
    by_cases hq : q ≤ wrk x
    · rw [if_pos hq]
      refine sttl_mem st (c ++ [x]) (fun w hw => h1 w (by simp [hw])) (fun w hw => ?_)
      rcases List.mem_append.mp hw with z | z
      · exact h2 w z
      · have : w = x := by simpa using z
        subst this; exact h1 w (by simp)
    · rw [if_neg hq]; exact ⟨h1, h2⟩
def sml (c : List Nat) : Prop := ∀ w ∈ c, w < 20000
def MSm (x : MX) : Prop := match x with | .inl s => sml s.2.2.1 ∧ sml s.2.2.2 | .inr (.inl p) => sml p.2 | .inr (.inr _) => True
theorem sml_c {c : List Nat} {w : Nat} (h : sml c) (hw : w < 20000) : sml (w :: c) := fun x hx => by
  rcases List.mem_cons.mp hx with rfl | z
  · exact hw
  · exact h x z
theorem sml_a {c : List Nat} {w : Nat} (h : sml c) (hw : w < 20000) : sml (c ++ [w]) := fun x hx => by
  rcases List.mem_append.mp hx with z | z
  · exact h x z
  · have : x = w := by simpa using z
    omega
theorem MSm_st {s : MS} (h1 : sml s.2.2.1) (h2 : sml s.2.2.2) : MSm (mst tp Tn ml s) := by
  obtain ⟨m, n, st, c⟩ := s
  have h1 : sml st := h1
  have h2 : sml c := h2
  have md : ∀ (q : Nat) (e : List Nat → MX) (f : List Nat → List Nat → MX), (∀ c, sml c → MSm (e c)) → (∀ s c, sml s → sml c → MSm (f s c)) → MSm (mend1 (sttl q st c) e f) := fun q e f a b => by
    obtain ⟨m1, m2⟩ := sttl_mem (q := q) (P := fun w => w < 20000) st c h1 h2
    unfold mend1
    cases hp : (sttl q st c).1 with
    | nil => exact a _ m2
    | cons x y =>
      rw [hp] at m1
      exact b _ _ (fun w hw => m1 w (by simp [hw])) m2
  unfold mst
  simp only
  split
  · split
    · split
      · trivial
      · exact ⟨sml_c h1 (by split <;> omega), h2⟩
    · split
      · trivial
      · split
        · trivial
        · rename_i hl _
          exact ⟨h1, sml_a h2 (by have := (lfw_lt hl).1; omega)⟩
  · split
    · split
      · exact ⟨fun w hw => h1 w (List.mem_of_mem_tail hw), sml_a h2 (by omega)⟩
      · exact ⟨h1, h2⟩
    · split
      · exact md 1 _ _ (fun c hc => hc) (fun s c a b => ⟨a, b⟩)
      · split
        · exact md 1 _ _ (fun c hc => hc) (fun s c a b => trivial)
        · split
          · trivial
          · rename_i hj _
            have := (jnw_rk hj).2.2.2.2
            obtain ⟨m1, m2⟩ := sttl_mem (q := if wrk (jnw tp Tn n) = 2 then 3 else wrk (jnw tp Tn n)) (P := fun w => w < 20000) st c h1 h2
            exact ⟨sml_c m1 (by omega), m2⟩
theorem MSm_it : ∀ k x, MSm x → MSm (mit tp Tn ml k x)
  | 0, x, h => h
  | k + 1, x, h => by
    refine MSm_it k _ ?_
    cases x with
    | inl s => exact MSm_st h.1 h.2
    | inr o => exact h
theorem Rch_sm {n' : Nat} {c : List Nat} (h : Rch tp Tn ml (.inl (0, n, [], [])) (.inr (.inl (n', c)))) : sml c := by
  obtain ⟨k, hk⟩ := h
  have := MSm_it (tp := tp) (Tn := Tn) (ml := ml) k (.inl (0, n, [], [])) ⟨fun w hw => absurd hw (by simp), fun w hw => absurd hw (by simp)⟩
  rw [hk] at this
  exact this
def DSm (D : Dr) : Prop := (∀ c, D.lm = some c → sml c) ∧ ∀ c, D.lk = some c → sml c
theorem DSm_eq (h : DSm D) (h1 : D'.lm = D.lm) (h2 : D'.lk = D.lk) : DSm D' := by unfold DSm; rw [h1, h2]; exact h
theorem pLn_sm {n' : Nat} (h : DSm D) (hp : pLn tp Tn D n = .inl (D', n')) : DSm D' := by
  unfold pLn at hp
  by_cases c0 : isWN tp Tn n (kwd 0) = true
  · rw [if_pos c0] at hp; obtain ⟨-, rfl, -⟩ := fin1_i hp; exact DSm_eq h rfl rfl
  rw [if_neg c0] at hp
  by_cases c2 : isWN tp Tn n (kwd 2) = true
  · rw [if_pos c2] at hp; obtain ⟨-, rfl, -⟩ := fin1_i hp; exact DSm_eq h rfl rfl
  rw [if_neg c2] at hp
  by_cases c4 : isWN tp Tn n (kwd 4) = true
  · rw [if_pos c4] at hp; obtain ⟨-, rfl, -⟩ := fin1_i hp; exact DSm_eq h rfl rfl
  rw [if_neg c4] at hp
  by_cases c9 : isWN tp Tn n (kwd 9) = true
  · rw [if_pos c9] at hp; obtain ⟨-, rfl, -⟩ := fin1_i hp; exact DSm_eq h rfl rfl
  rw [if_neg c9] at hp
  by_cases c10 : isWN tp Tn n (kwd 10) = true
  · rw [if_pos c10] at hp
    unfold pNi at hp
    by_cases hw : D.nw = 0
    · rw [if_neg (by omega)] at hp
      cases hk : pNts tp Tn 16 (n + 1) 0 with
      | inr e => rw [hk] at hp; exact absurd hp (by simp [pNi2])
      | inl k =>
        rw [hk] at hp
        obtain ⟨-, rfl, -⟩ := fin1_i hp
        exact DSm_eq h rfl rfl
    · rw [if_pos hw] at hp; exact absurd hp (by simp)
  rw [if_neg c10] at hp
  by_cases c11 : isWN tp Tn n (kwd 11) = true
  · rw [if_pos c11] at hp
    unfold pMi at hp
    by_cases hm : D.mt = true
    · rw [if_pos hm] at hp; exact absurd hp (by simp)
    · rw [if_neg hm] at hp
      obtain ⟨-, rfl, -⟩ := fin1_i hp
      exact DSm_eq h rfl rfl
  rw [if_neg c11] at hp
  by_cases c12 : isWN tp Tn n (kwd 12) = true
  · rw [if_pos c12] at hp
    obtain ⟨-, c, hc, rfl⟩ := pLw_i hp
    obtain ⟨-, m, -, -, hr⟩ := lwO_ge hc
    exact ⟨fun x hx => by have hx : some c = some x := hx; rw [← Option.some.inj hx]; exact Rch_sm hr, h.2⟩
  rw [if_neg c12] at hp
  by_cases c13 : isWN tp Tn n (kwd 13) = true
  · rw [if_pos c13] at hp
    obtain ⟨-, c, hc, rfl⟩ := pLw_i hp
    obtain ⟨-, m, -, -, hr⟩ := lwO_ge hc
    exact ⟨h.1, fun x hx => by have hx : some c = some x := hx; rw [← Option.some.inj hx]; exact Rch_sm hr⟩
  rw [if_neg c13] at hp
  exact absurd hp (by simp)
theorem pY_sm : ∀ f D n, DSm D → pY tp Tn f D n = .inl D' → DSm D'
  | 0, D, n, _, h => by exact absurd h (by simp [pY])
  | f + 1, D, n, hD, h => by
    by_cases k0 : kS tp Tn n = 0
    · rw [pY_e k0] at h; rw [← Sum.inl.inj h]; exact hD
    · rw [pY_s k0] at h
      cases hl : pLn tp Tn D n with
      | inr e => rw [hl] at h; exact absurd h (by simp [pYn])
      | inl p =>
        obtain ⟨D1, n1⟩ := p
        rw [hl] at h
        exact pY_sm f D1 n1 (pLn_sm hD hl) h
theorem D0_3 : DSm D0 := ⟨fun c h => absurd h (by simp [D0]), fun c h => absurd h (by simp [D0])⟩
/-- a yard that is a draft's -/
def YD (Y : YT) (D : Dr) : Prop := (Y 4 0 = Int32.ofNat (D.cs 0) ∧ Y 6 0 = Int32.ofNat (D.cs 1) ∧ Y 8 0 = Int32.ofNat (D.cs 2) ∧ Y 3 12 = Int32.ofNat D.pr ∧ Y 3 14 = Int32.ofNat D.nw ∧ Y 3 15 = Int32.ofNat D.mv) ∧ (∀ c q, rwq c q → ∀ i, i < D.cs q → Y (c - 23) i = Int32.ofNat (D.g c i)) ∧ (∀ a b, a < 6 → b < 32 → bt (Y 18 a) b = D.cl a b) ∧ (∀ i, i < D.nw → Y 19 i = Int32.ofNat (D.g 42 i)) ∧ (Y 20 2 = Int32.ofNat (lwc dM D.lm).length ∧ ∀ i, i < (lwc dM D.lm).length → Y 21 i = cfn (lwc dM D.lm) i) ∧ (Y 23 2 = Int32.ofNat (lwc dK D.lk).length ∧ ∀ i, i < (lwc dK D.lk).length → Y 24 i = cfn (lwc dK D.lk) i)
theorem YD.sz (h : YD Y D) (hO : DO1 D) : nA Y = D.cs 2 ∧ nB Y = D.cs 0 ∧ nC Y = D.cs 1 ∧ nW Y = D.nw := by
  have c0 := hO.1.1 0 (by omega)
  have c1 := hO.1.1 1 (by omega)
  have c2 := hO.1.1 2 (by omega)
  have c3 := hO.2.2.2.2.2.2.2.1
  unfold nA nB nC nW
  rw [h.1.1, h.1.2.1, h.1.2.2.1, h.1.2.2.2.2.1, i_nat (by omega), i_nat (by omega), i_nat (by omega), i_nat (by omega)]
  exact ⟨rfl, rfl, rfl, rfl⟩
theorem LW_cg {a b : Nat → Int32} {m : Nat} (h : LW b m) (he : ∀ i, i < m → a i = b i) : LW a m := by
  refine ⟨h.1, (ldep_cg m he).trans h.2.1, fun i hi => ?_⟩
  rw [ldep_cg i (fun j hj => he j (by omega)), he i hi]; exact h.2.2 i hi
theorem rg_of {v : Nat} {lo hi : Int} (hv : v < 1000) (h1 : lo ≤ v) (h2 : (v : Int) ≤ hi) : rg (Int32.ofNat v) lo hi := by
  unfold rg; rw [i_toInt (by omega)]; exact ⟨h1, h2⟩
theorem YD.ok (h : YD Y D) (hO : DO1 D) (hL : LD2 D) : YN Y ∧ YL Y ∧ YG Y := by
  obtain ⟨nA', nB', nC', nW'⟩ := h.sz hO
  have c0 := hO.1.1 0 (by omega)
  have c1 := hO.1.1 1 (by omega)
  have c2 := hO.1.1 2 (by omega)
  obtain ⟨⟨y4, y6, y8, y12, y14, y15⟩, yr, yc', yw, ⟨ym, ym'⟩, yk, yk'⟩ := h
  obtain ⟨a1, a2, a3, a4, a5, a6, a7, a8, a9, a10⟩ := hO
  have r0 : ∀ i, i < D.cs 0 → Y 10 i = Int32.ofNat (D.g 33 i) := fun i hi => yr 33 0 (.inl ⟨rfl, rfl⟩) i hi
  have r1 : ∀ c, 34 ≤ c → c ≤ 35 → ∀ i, i < D.cs 1 → Y (c - 23) i = Int32.ofNat (D.g c i) := fun c x y i hi => yr c 1 (.inr (.inl ⟨x, y, rfl⟩)) i hi
  have r2 : ∀ c, 36 ≤ c → c ≤ 40 → ∀ i, i < D.cs 2 → Y (c - 23) i = Int32.ofNat (D.g c i) := fun c x y i hi => yr c 2 (.inr (.inr ⟨x, y, rfl⟩)) i hi
  have m17 : ∀ a, a < D.cs 2 → Y 17 a = Int32.ofNat (D.g 40 a) := fun a ha => r2 40 (by omega) (by omega) a ha
  have lm := hL.1.2
  have lk := hL.2.2
  have eM : nM Y = (lwc dM D.lm).length := by unfold nM; rw [ym, i_nat (by omega)]
  have eK : nK Y = (lwc dK D.lk).length := by unfold nK; rw [yk, i_nat (by omega)]
  refine ⟨⟨by rw [nA']; exact y8, by rw [nB']; exact y4, by rw [nC']; exact y6, by rw [nW']; exact y14, by omega, by omega, by omega, by omega, fun a ha => ?_⟩, ⟨by rw [eM]; exact ym, ?_, by rw [eK]; exact yk, ?_⟩, fun a ha => ?_, fun s hs => ?_, fun c hc => ?_, fun i hi => ?_, ?_, fun a e ha he => ?_, fun a ha => ?_, fun a ha e he hb => ?_⟩
  · rw [nA'] at ha
    have := (a4 a ha).2.2.2.2
    unfold mv
    rw [m17 a ha, i_nat (by omega)]
    exact ⟨rfl, by omega⟩
  · rw [eM]; exact LW_cg (hL.1.1.lw rfl lm) ym'
  · rw [eK]; exact LW_cg (hL.2.1.lw rfl lk) yk'
  · rw [nA'] at ha
    have v := a4 a ha
    have e14 : Y 14 a = Int32.ofNat (D.g 37 a) := r2 37 (by omega) (by omega) a ha
    have e15 : Y 15 a = Int32.ofNat (D.g 38 a) := r2 38 (by omega) (by omega) a ha
    have e16 : Y 16 a = Int32.ofNat (D.g 39 a) := r2 39 (by omega) (by omega) a ha
    rw [e14, e15, e16]
    exact ⟨rg_of (by omega) (by omega) (by omega), rg_of (by omega) (by omega) (by omega), rg_of (by omega) (by omega) (by omega)⟩
  · rw [nB'] at hs
    have v := a2 s hs
    rw [r0 s hs]; exact rg_of (by omega) (by omega) (by omega)
  · rw [nC'] at hc
    have v := a3 c hc
    have e11 : Y 11 c = Int32.ofNat (D.g 34 c) := r1 34 (by omega) (by omega) c hc
    have e12 : Y 12 c = Int32.ofNat (D.g 35 c) := r1 35 (by omega) (by omega) c hc
    rw [e11, e12]
    exact ⟨rg_of (by omega) (by omega) (by omega), rg_of (by omega) (by omega) (by omega)⟩
  · rw [nW'] at hi
    have v := a9 i hi
    rw [yw i hi]; exact rg_of (by omega) (by omega) (by omega)
  · rw [y15]; exact rg_of (by omega) (by omega) (by omega)
  · rw [nA'] at ha he
    rw [yc' a e (by omega) (by omega), yc' e a (by omega) (by omega)]; exact a5 a e
  · rw [nA'] at ha
    rw [yc' a a (by omega) (by omega)]; exact a6 a
  · rw [nA'] at ha ⊢
    rw [yc' a e (by omega) he] at hb
    exact (a7 a e hb).2
/-- the reference's yard, copied out of its draft -/
theorem lawv_M {code : Nat → Int32} (h0 : code 0 = 10000) (h1 : code 1 = 10001) (h2 : code 2 = 10006) (x y w : Int32) : lawv code 3 x y w = x - y := by
  show (lstep x y w (lstep x y w (lstep x y w (fun _ => 0, 0) (code 0)) (code 1)) (code 2)).1 0 = x - y
  rw [h0, h1, h2]
  rfl
theorem lawv_K {code : Nat → Int32} (h0 : code 0 = 10000) (x y w : Int32) : lawv code 1 x y w = x := by
  show (lstep x y w (fun _ => 0, 0) (code 0)).1 0 = x
  rw [h0]
  rfl
theorem LR_of {M M' : Mem} {cd z : Nat} {o : Option (List Nat)} {df : Int32 → Int32 → Int32 → Int32} {dl : List Nat} {code : Nat → Int32} {m : Nat} {g : Nat → Nat} (hz : z = if ml then 6 else 7) (hg : ∀ j, gFm ml j = g j) (h : LRd ml o cd M) (hcd : cd ≤ 1100) (hsm : ∀ c, o = some c → sml c) (hm : m = (lwc dl o).length) (hc : ∀ i, i < (lwc dl o).length → code i = cfn (lwc dl o) i) (hd : o = none → ∀ x y w, lawv code m x y w = df x y w) (h1 : M'.1 259 z = M.1 259 (110 + z)) (h2 : ∀ j, j < cd → M'.1 260 j = M.1 260 (1100 + j) ∧ M'.1 261 j = M.1 261 (1100 + j)) : LR z g df code m M' := by
  have ez : (if ml then 116 else 117) = 110 + z := by rw [hz]; cases ml <;> rfl
  cases o with
  | none =>
    refine .inl ⟨?_, hd rfl⟩
    have h : M.1 259 (if ml then 116 else 117) = -1 := h
    rw [h1, ← ez]; exact h
  | some c =>
    obtain ⟨f, a1, a2, a3, a4⟩ := h
    have hm : m = c.length := hm
    have hc : ∀ i, i < c.length → code i = cfn c i := hc
    refine .inr ⟨f, by rw [h1, ← ez]; exact a1, by omega, ?_, fun i hi => ?_⟩
    · rw [hm, (h2 _ (by omega)).1]; exact a3
    · rw [hm] at hi
      obtain ⟨b1, b2', b3⟩ := a4 i hi
      have hw : c.getD i 0 < 20000 := by
        refine hsm c rfl _ ?_
        rw [List.getD_eq_getElem?_getD, List.getElem?_eq_getElem hi]
        exact List.getElem_mem hi
      rw [hc i hi, (h2 _ (by omega)).1, (h2 _ (by omega)).2]
      unfold cfn
      generalize c.getD i 0 = w at *
      have e0 : (Int32.ofNat w < 10000) = (w < 10000) := i_lt (b := 10000) (by omega) (by omega)
      have e3 : (Int32.ofNat w < 10003) = (w < 10003) := i_lt (b := 10003) (by omega) (by omega)
      rw [e0, e3]
      refine ⟨b1, b2', fun x y => ⟨w - 10000, by omega, by rw [show 10000 + (w - 10000) = w by omega], ?_⟩⟩
      rw [← hg]; exact b3 x y
theorem YD.R {M M' : Mem} {cd : Nat} (h : YD Y D) (hO : DO1 D) (hL : LD2 D) (hS : DSm D) (hD : DRf D cd M) (hcd : cd ≤ 1100) (h1 : ∀ j, j < 110 → M'.1 259 j = M.1 259 (110 + j)) (h2 : ∀ j, j < cd → M'.1 260 j = M.1 260 (1100 + j) ∧ M'.1 261 j = M.1 261 (1100 + j)) : YR Y M' := by
  obtain ⟨nA', nB', nC', nW'⟩ := h.sz hO
  have c0 := hO.1.1 0 (by omega)
  have c1 := hO.1.1 1 (by omega)
  have c2 := hO.1.1 2 (by omega)
  have c3 := hO.2.2.2.2.2.2.2.1
  obtain ⟨⟨y4, y6, y8, y12, y14, y15⟩, yr, yc', yw, ⟨ym, ym'⟩, yk, yk'⟩ := h
  obtain ⟨⟨a1, a2, a3⟩, a4, a5, a6, a7, ⟨a8, a9⟩, a10, a11⟩ := hD
  have lm := hL.1.2
  have lk := hL.2.2
  have eM : nM Y = (lwc dM D.lm).length := by unfold nM; rw [ym, i_nat (by omega)]
  have eK : nK Y = (lwc dK D.lk).length := by unfold nK; rw [yk, i_nat (by omega)]
  have row : ∀ c q, rwq c q → ∀ i, i < D.cs q → ∀ j, 110 + j = rpos c i → j < 110 → M'.1 259 j = Y (c - 23) i := fun c q hc i hi j hj hj' => by
    rw [h1 j hj', hj, a4 c q hc i hi, yr c q hc i hi]
  have r0 : rwq 33 0 := .inl ⟨rfl, rfl⟩
  have r34 : ∀ c, 34 ≤ c → c ≤ 35 → rwq c 1 := fun c x y => .inr (.inl ⟨x, y, rfl⟩)
  have r36 : ∀ c, 36 ≤ c → c ≤ 40 → rwq c 2 := fun c x y => .inr (.inr ⟨x, y, rfl⟩)
  refine ⟨⟨⟨?_, ?_, ?_, ?_, ?_⟩, fun s hs => ?_, fun c hc => ⟨?_, ?_⟩, fun a ha => ⟨?_, ?_, ?_, ?_, ?_⟩, fun a e ha he => ?_⟩, ?_, ?_, ?_⟩
  · rw [h1 0 (by omega), y4]; exact a1 0 (by omega)
  · rw [h1 1 (by omega), y6]; exact a1 1 (by omega)
  · rw [h1 2 (by omega), y8]; exact a1 2 (by omega)
  · rw [h1 3 (by omega), y12]; exact a2
  · rw [h1 5 (by omega), y15]; exact a3
  · exact row 33 0 r0 s (by omega) (8 + s) (by show _ = 118 + s; omega) (by omega)
  · exact row 34 1 (r34 _ (by omega) (by omega)) c (by omega) (14 + 2 * c) (by show _ = 124 + 2 * c; omega) (by omega)
  · exact row 35 1 (r34 _ (by omega) (by omega)) c (by omega) (14 + 2 * c + 1) (by show _ = 125 + 2 * c; omega) (by omega)
  · exact row 36 2 (r36 _ (by omega) (by omega)) a (by omega) (26 + 5 * a) (by show _ = 136 + 5 * a + 0; omega) (by omega)
  · exact row 37 2 (r36 _ (by omega) (by omega)) a (by omega) (26 + 5 * a + 1) (by show _ = 136 + 5 * a + 1; omega) (by omega)
  · exact row 38 2 (r36 _ (by omega) (by omega)) a (by omega) (26 + 5 * a + 2) (by show _ = 136 + 5 * a + 2; omega) (by omega)
  · exact row 39 2 (r36 _ (by omega) (by omega)) a (by omega) (26 + 5 * a + 3) (by show _ = 136 + 5 * a + 3; omega) (by omega)
  · exact row 40 2 (r36 _ (by omega) (by omega)) a (by omega) (26 + 5 * a + 4) (by show _ = 136 + 5 * a + 4; omega) (by omega)
  · rw [h1 _ (by omega), show 110 + (56 + 6 * a + e) = 166 + 6 * a + e by omega, a5 a e (by omega) (by omega), yc' a e (by omega) (by omega)]
  · by_cases hw : D.nw = 0
    · obtain ⟨b1, b2'⟩ := a6.1 hw
      refine ⟨1, by omega, by omega, by rw [h1 4 (by omega)]; exact b1, fun n => ?_⟩
      rw [Nat.mod_one, h1 _ (by omega)]
      unfold warm
      rw [y14, hw, if_pos (by decide)]; exact b2'
    · obtain ⟨b1, b2'⟩ := a6.2 hw
      refine ⟨D.nw, by omega, by omega, by rw [h1 4 (by omega)]; exact b1, fun n => ?_⟩
      have hlt := Nat.mod_lt n (show 0 < D.nw by omega)
      rw [h1 _ (by omega), show 110 + (92 + n % D.nw) = 202 + n % D.nw by omega, b2' _ hlt]
      unfold warm
      rw [y14, if_neg (by rw [show (1 : Int32) = Int32.ofNat 1 from rfl, i_lt (by omega) (by omega)]; omega), nW', yw _ hlt]
  · refine LR_of (ml := true) (dl := dM) rfl (fun j => rfl) a8 hcd hS.1 eM ym' (fun z x y w => ?_) (h1 6 (by omega)) h2
    rw [z] at ym'
    rw [eM, z]
    exact lawv_M (ym' 0 (by decide)) (ym' 1 (by decide)) (ym' 2 (by decide)) x y w
  · refine LR_of (ml := false) (dl := dK) rfl (fun j => rfl) a9 hcd hS.2 eK yk' (fun z x y w => ?_) (h1 7 (by omega)) h2
    rw [z] at yk'
    rw [eK, z]
    exact lawv_K (yk' 0 (by decide)) x y w
end YPURE
