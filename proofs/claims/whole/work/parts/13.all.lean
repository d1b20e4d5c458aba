/-! THE EVALUATOR IS SOUND -/
def argL : Nat → List AV → Lv
  | n, [] => List.replicate n none
  | n, .inl v :: t => some (.inl v) :: argL (n - 1) t
  | n, .inr (.inl v) :: t => some (.inr (.inl v)) :: none :: argL (n - 2) t
  | n, .inr (.inr v) :: t => some (.inr (.inr v)) :: argL (n - 1) t
def memN (n : Nat) : List Nat → Bool
  | [] => false
  | a :: t => match Nat.beq a n with
    | true => true
    | false => memN n t
def hdL : List (List Nat) := [[], [], [5], [], [], [], [], [3, 38, 72], [], [21], [], [0, 39, 52, 114, 149, 175], [5], [5], [], [], [], [], [], [], [], [], [], [7], [], [], [], [], [], [], [3], [], [28], [], [], [41], [], [], [], [], [], [], [], [], [], [], [], [14], [], [2], [], [], [], [], [], [], [], [], [], [], [], [], [], [], [], [], [28], [], [], [], [54], [2], [], [], [24, 52, 80], [0], [2], [0], [], [], [], [21, 36, 74], [], [78, 123, 168, 199], [], [], [], [], [10], [], [], [30, 55, 80], [], [], [], [], [], [], [], [], [], [], [], [24, 26, 85], [6, 74, 119, 161], [], [], [], [], [], [4], [15], [], [], [4], [4], [], [], [], [2], [21], [], [], [], [], [], [], [], [], [], [], [], [], [4], [], [], [], [19, 65, 98], [], [], [], [], [27], [76], [], [], [], [], [6], [], [4], [], [24], [], [10, 20, 88], [7], [7], [35, 44], [], [4], [10, 45], [2], [7], [], [12], [2, 18], [45, 51, 71], [2], [32], [], [28, 130], [6], [3], [], [7], [], [], [], [8, 58], [2, 69], [2], [], [5], [4], [], [13], [12], [41], [], [], [], [], [], [3], [2], [19], [2, 25], [], [], [30, 76, 105, 153], [17, 44, 70, 123, 129, 149, 159, 212, 218, 237, 262, 265], [], [], [], [], [], [], [], [], [38], [], [5], [2, 21, 53], [], [], [], [28, 65, 70], [], [18, 34, 55], [], [], [19, 38, 59], [], [57, 62], [37, 131], [2, 26, 65, 86, 89], [5], [], [5], [5], [27, 55, 57, 91, 101, 190], [], [], [], [], [11, 123, 158, 161, 170, 191], [23], [], [], [], [], [], [75, 100, 138, 161], [], [4, 33, 65, 101, 134], [], [], [], [], [], [4], [24], [4], [], [], [], [], [5], [11], [2], [], [], [], [85, 117, 142], [], [], [], [], [], [5, 137], [], [], [31, 99, 101, 126, 128], [75, 96, 119, 146, 160], [26], [], [4, 15], [27, 64, 67, 90, 95, 97], [59], [7], [16], [10, 17, 124], [28, 64, 96], [6], [34, 71], [36], [31], [20, 52, 77, 124], [29], [28], [], [33], [19], [4], [22], [9, 45], [2, 25], [40, 43, 52, 107, 141, 144, 161, 165, 180, 186, 210], [], [63, 103], [55], [], [27, 29, 68, 84], [], [4], [4]]
def hdT (x : Nat) : List Nat := hdL.getD x []
section EVP
variable (code : Nat → Option Ent) (hd : List Nat) (call : Nat → List AV → Mem → Res)
/-- from pc on, till a head (with nothing on the stack), a jump back or the end -/
noncomputable def evj (back : Nat → Lv → Mem → Res) : Nat → Nat → Lv → List AV → Mem → Res
  | 0, _, _, _, _ => none
  | B + 1, pc, lv, st, M => match memN pc hd, st with
    | true, [] => back pc lv M
    | _, st => match code pc with
      | none => none
      | some e => stepK call back (evj back B) e pc lv st M
/-- from a head on, over at most so many heads -/
noncomputable def evp : Nat → Nat → Lv → Mem → Res
  | 0, _, _, _ => none
  | F + 1, pc, lv, M => match code pc with
    | none => none
    | some e => stepK call (evp F) (evj code hd call (evp F) 4000) e pc lv [] M
noncomputable def evp0 (pc : Nat) (lv : Lv) (M : Mem) : Res := evp code hd call 20000 pc lv M
end EVP
/-- a method by its number, at most d calls deep -/
noncomputable def evD : Nat → Nat → List AV → Mem → Res
  | 0, _, _, _ => none
  | d + 1, x, as, M => match mdT x with
    | none => none
    | some md => match recvOK md.2.2.2.2.2 as && Nat.ble (catS as) md.2.2.1 with
      | true => evj (lkE (codT x)) (hdT x) (evD d) (evp0 (lkE (codT x)) (hdT x) (evD d)) 4000 0 (argL md.2.2.1 as) [] M
      | false => none
/-- a method from one of its heads on -/
noncomputable abbrev lp0 (d x pc : Nat) (lv : Lv) (M : Mem) : Res := evp0 (lkE (codT x)) (hdT x) (evD d) pc lv M
noncomputable abbrev lp (d x F pc : Nat) (lv : Lv) (M : Mem) : Res := evp (lkE (codT x)) (hdT x) (evD d) F pc lv M
theorem lkE_mem : ∀ (l : List (Nat × Ent)) (pc : Nat) (e : Ent), lkE l pc = some e → (pc, e) ∈ l
  | [], _, _, h => by cases h
  | (p, e0) :: t, pc, e, h => by
    simp only [lkE] at h
    split at h
    · rename_i hb
      cases h
      rw [nb hb]; exact List.mem_cons_self
    · exact List.mem_cons_of_mem _ (lkE_mem t pc e h)
section ALL
variable {w : List Ref3} {d : Nat} {r : Option AV × Mem} {call : Nat → List AV → Mem → Res}
theorem evj_sound {hd : List Nat} (hclo : Clo w) (hwt : WT w) (hmd : ∀ x md, mdT x = some md → MDk md) {md : MD} {cd : List (Nat × Ent)} (hok : ∀ pe ∈ cd, okE md pe.1 pe.2 = true)
    (hcall : ∀ x as M r', call x as M = some r' → VOKs w as → MOK w M → ∃ md, mdT x = some md ∧ recvOK md.2.2.2.2.2 as = true ∧ CSem w md.1 md.2.1 md.2.2.1 md.2.2.2.1 d as M r' ∧ ROK w r')
    {back : Nat → Lv → Mem → Res} (hback : ∀ pc' lv' M', back pc' lv' M' = some r → VOKl w lv' → MOK w M' → WQ w (ownS md.2.2.2.2.1) md.2.1 md.2.2.1 md.2.2.2.1 (d + 1) pc' lv' [] M' r) :
    ∀ (B pc : Nat) (lv : Lv) (st : List AV) (M : Mem), evj (lkE cd) hd call back B pc lv st M = some r → VOKl w lv → VOKs w st → MOK w M → WQ w (ownS md.2.2.2.2.1) md.2.1 md.2.2.1 md.2.2.2.1 (d + 1) pc lv st M r
  | 0, _, _, _, _, h, _, _, _ => by cases h
  | B + 1, pc, lv, st, M, h, hvl, hvs, hm => by
    simp only [evj] at h
    split at h
    · exact hback _ _ _ h hvl hm
    · split at h
      · cases h
      · rename_i e he
        have hoke : okE md pc e = true := hok (pc, e) (lkE_mem _ _ _ he)
        exact stepK_sound (call := call) (back := back) (k := evj (lkE cd) hd call back B) hclo hwt hmd hoke hcall hback (fun pc' lv' st' M' h' => evj_sound hclo hwt hmd hok hcall hback B pc' lv' st' M' h') h hvl hvs hm
theorem evp_sound {hd : List Nat} (hclo : Clo w) (hwt : WT w) (hmd : ∀ x md, mdT x = some md → MDk md) {md : MD} {cd : List (Nat × Ent)} (hok : ∀ pe ∈ cd, okE md pe.1 pe.2 = true)
    (hcall : ∀ x as M r', call x as M = some r' → VOKs w as → MOK w M → ∃ md, mdT x = some md ∧ recvOK md.2.2.2.2.2 as = true ∧ CSem w md.1 md.2.1 md.2.2.1 md.2.2.2.1 d as M r' ∧ ROK w r') :
    ∀ (F pc : Nat) (lv : Lv) (M : Mem), evp (lkE cd) hd call F pc lv M = some r → VOKl w lv → MOK w M → WQ w (ownS md.2.2.2.2.1) md.2.1 md.2.2.1 md.2.2.2.1 (d + 1) pc lv [] M r
  | 0, _, _, _, h, _, _ => by cases h
  | F + 1, pc, lv, M, h, hvl, hm => by
    simp only [evp] at h
    split at h
    · cases h
    · rename_i e he
      have hoke : okE md pc e = true := hok (pc, e) (lkE_mem _ _ _ he)
      have hb : ∀ pc' lv' M', evp (lkE cd) hd call F pc' lv' M' = some r → VOKl w lv' → MOK w M' → WQ w (ownS md.2.2.2.2.1) md.2.1 md.2.2.1 md.2.2.2.1 (d + 1) pc' lv' [] M' r := fun pc' lv' M' h' hv' hm' => evp_sound hclo hwt hmd hok hcall F pc' lv' M' h' hv' hm'
      exact stepK_sound (call := call) (back := evp (lkE cd) hd call F) (k := evj (lkE cd) hd call (evp (lkE cd) hd call F) 4000) hclo hwt hmd hoke hcall hb (fun pc' lv' st' M' h' => evj_sound hclo hwt hmd hok hcall hb 4000 pc' lv' st' M' h') h hvl (fun _ z => by cases z) hm
end ALL
theorem lvat_rep : ∀ (n i : Nat) (v : AV), lvat (List.replicate n none) i = some v → False
  | 0, _, _, h => by simp [lvat] at h
  | n + 1, 0, _, h => by simp [List.replicate_succ, lvat] at h
  | n + 1, i + 1, v, h => lvat_rep n i v (by simpa [List.replicate_succ, lvat] using h)
theorem argL_mem : ∀ (as : List AV) (n i : Nat) (v : AV), lvat (argL n as) i = some v → v ∈ as
  | [], n, i, v, h => (lvat_rep n i v h).elim
  | .inl x :: t, n, 0, v, h => by simp [argL, lvat] at h; simp [h]
  | .inl x :: t, n, i + 1, v, h => by simp only [argL, lvat] at h; exact List.mem_cons_of_mem _ (argL_mem t _ i v h)
  | .inr (.inl x) :: t, n, 0, v, h => by simp [argL, lvat] at h; simp [h]
  | .inr (.inl x) :: t, n, 1, v, h => by simp [argL, lvat] at h
  | .inr (.inl x) :: t, n, i + 2, v, h => by simp only [argL, lvat] at h; exact List.mem_cons_of_mem _ (argL_mem t _ i v h)
  | .inr (.inr x) :: t, n, 0, v, h => by simp [argL, lvat] at h; simp [h]
  | .inr (.inr x) :: t, n, i + 1, v, h => by simp only [argL, lvat] at h; exact List.mem_cons_of_mem _ (argL_mem t _ i v h)
theorem argL_args {ρ : Nat → Nat} : ∀ (as : List AV) (n i j : Nat) (v : AV), lvat (argL n as) i = some v → (j + i, cv ρ v) ∈ lv_args j (as.map (cv ρ))
  | [], n, i, j, v, h => (lvat_rep n i v h).elim
  | .inl x :: t, n, 0, j, v, h => by simp [argL, lvat] at h; subst h; exact List.mem_cons_self
  | .inl x :: t, n, i + 1, j, v, h => by
    simp only [argL, lvat] at h
    have := argL_args (ρ := ρ) t _ i (j + 1) v h
    rw [show j + 1 + i = j + (i + 1) by omega] at this
    exact List.mem_cons_of_mem _ this
  | .inr (.inl x) :: t, n, 0, j, v, h => by simp [argL, lvat] at h; subst h; exact List.mem_cons_self
  | .inr (.inl x) :: t, n, 1, j, v, h => by simp [argL, lvat] at h
  | .inr (.inl x) :: t, n, i + 2, j, v, h => by
    simp only [argL, lvat] at h
    have := argL_args (ρ := ρ) t _ i (j + 2) v h
    rw [show j + 2 + i = j + (i + 2) by omega] at this
    exact List.mem_cons_of_mem _ this
  | .inr (.inr x) :: t, n, 0, j, v, h => by simp [argL, lvat] at h; subst h; exact List.mem_cons_self
  | .inr (.inr x) :: t, n, i + 1, j, v, h => by
    simp only [argL, lvat] at h
    have := argL_args (ρ := ρ) t _ i (j + 1) v h
    rw [show j + 1 + i = j + (i + 1) by omega] at this
    show _ ∈ (j, cv ρ (.inr (.inr x))) :: lv_args (if (cv ρ (.inr (.inr x))).category = 2 then j + 2 else j + 1) (t.map (cv ρ))
    rw [cv_cat]
    exact List.mem_cons_of_mem _ this
theorem catS_sl {ρ : Nat → Nat} : ∀ as : List AV, (lg_sl (as.map (cv ρ))).length = catS as
  | [] => rfl
  | .inl x :: t => by have := catS_sl (ρ := ρ) t; simp [lg_sl, cv, Value.category, catS] at this ⊢; omega
  | .inr (.inl x) :: t => by have := catS_sl (ρ := ρ) t; simp [lg_sl, cv, Value.category, catS] at this ⊢; omega
  | .inr (.inr x) :: t => by rcases cv_rn ρ x with hx | hx <;> (have := catS_sl (ρ := ρ) t; simp [lg_sl, hx, Value.category, catS] at this ⊢; omega)
/-- a body that is right makes a contract -/
theorem CSem_of {w : List Ref3} {md : MD} (hk : MDk md) {d : Nat} {as : List AV} {M : Mem} {r : Option AV × Mem} (hc : catS as ≤ md.2.2.1)
    (h : WPs w (ownS md.2.2.2.2.1) md.2.1 md.2.2.1 md.2.2.2.1 d 0 (argL md.2.2.1 as) [] M r) : CSem w md.1 md.2.1 md.2.2.1 md.2.2.2.1 d as M r := by
  obtain ⟨y, cc, nL, ret, ow, tg⟩ := md
  obtain ⟨k1, k2, k3, k4, k5, k6, k7⟩ := hk
  dsimp only at k1 k2 k3 k4 k5 k6 k7 h hc ⊢
  intro l dC dI cA ρ A sz
  refine va_MetF (cc := cc) (maxL := nL) (ret := ret) k5 rfl ?_
  intro p e s m args below meth c s₁ B hml hv
  obtain ⟨rfl, hsz, hA, hP, hD, hK, hF, hW⟩ := hv
  have hts := atoms_spec (ws := Cond.code y cc nL ret :: lw_g) B.pre
  have hown : s.vm.findClass (ownS ow) = some m.cls := by rw [← k3]; exact findClass_of_methodNamed B.named
  have hl := lv_entry (as.map (cv ρ)) (n := nL) (by rw [catS_sl]; exact hc)
  rw [lg_entry_eq]
  exact h p l e s m _ below meth c dC dI cA ρ A s.heap [] _ ⟨B.exec, B.bytes, hml, hown, fun w hw => hts w (List.mem_cons_of_mem _ hw), B.returns, B.notSynchronized⟩ ⟨hK, hF, hW, fun q hq => hA q (by rw [← hsz]; exact hq)⟩ hP hD va_S.rf ⟨_, hl, fun i v hv => by have := argL_args (ρ := ρ) as _ i 0 v hv; simpa using this⟩
theorem evD_sound {w : List Ref3} (hclo : Clo w) (hwt : WT w) (hmd : ∀ x md, mdT x = some md → MDk md) (hok : ∀ x md, mdT x = some md → ∀ pe ∈ codT x, okE md pe.1 pe.2 = true) :
    ∀ (d x : Nat) (as : List AV) (M : Mem) (r : Option AV × Mem), evD d x as M = some r → VOKs w as → MOK w M → ∃ md, mdT x = some md ∧ recvOK md.2.2.2.2.2 as = true ∧ CSem w md.1 md.2.1 md.2.2.1 md.2.2.2.1 d as M r ∧ ROK w r
  | 0, _, _, _, _, h, _, _ => by cases h
  | d + 1, x, as, M, r, h, hv, hm => by
    simp only [evD] at h
    split at h
    · cases h
    · rename_i md hx
      split at h
      · rename_i hb
        simp only [Bool.and_eq_true] at hb
        have hc := fun x' as' M' r' h' hv' hm' => evD_sound hclo hwt hmd hok d x' as' M' r' h' hv' hm'
        obtain ⟨w1, w2⟩ := evj_sound hclo hwt hmd (hok x md hx) hc (fun pc' lv' M' h' hv' hm' => evp_sound hclo hwt hmd (hok x md hx) hc 20000 pc' lv' M' h' hv' hm') 4000 0 _ [] M h (fun i v hi => hv v (argL_mem as _ i v hi)) (fun _ z => by cases z) hm
        exact ⟨md, hx, hb.1, CSem_of (hmd x md hx) (Nat.le_of_ble_eq_true hb.2) w1, w2⟩
      · cases h
theorem lp0_eq (d x pc : Nat) (lv : Lv) (M : Mem) : lp0 d x pc lv M = lp d x 20000 pc lv M := by unfold lp0 evp0; rfl
theorem evD_step {d x : Nat} {as : List AV} {M : Mem} {md : MD} (hx : mdT x = some md) (hr : (recvOK md.2.2.2.2.2 as && Nat.ble (catS as) md.2.2.1) = true) : evD (d + 1) x as M = evj (lkE (codT x)) (hdT x) (evD d) (evp0 (lkE (codT x)) (hdT x) (evD d)) 4000 0 (argL md.2.2.1 as) [] M := by
  simp only [evD, hx, hr]
theorem evp_step {code : Nat → Option Ent} {hd : List Nat} {call : Nat → List AV → Mem → Res} {F pc : Nat} {lv : Lv} {M : Mem} {e : Ent} (he : code pc = some e) : evp code hd call (F + 1) pc lv M = stepK call (evp code hd call F) (evj code hd call (evp code hd call F) 4000) e pc lv [] M := by
  simp only [evp, he]
theorem ic_t {P : Prop} {A B : Res} (h : P) : ic P A B = A := if_pos h
theorem ic_f {P : Prop} {A B : Res} (h : ¬ P) : ic P A B = B := if_neg h
