/-! LAWS: what the machine keeps -/
section MINV
variable {tp : Nat → Int32} {Tn n : Nat} {ml : Bool} {st c : List Nat}
def SWf : List Nat → Prop
  | [] => True
  | w :: s => SWf s ∧ (wrk w = 0 ∨ rkt s < wrk w) ∧ 10003 ≤ w ∧ w ≤ 10011
def jns : List Nat → Nat
  | [] => 0
  | w :: s => jns s + if wrk w = 0 then 0 else 1
theorem rkt_le {st : List Nat} : rkt st ≤ 4 := by
  cases st with
  | nil => show 0 ≤ 4; omega
  | cons w s => exact wrk_le
theorem SWf.len : ∀ {st : List Nat}, SWf st → st.length ≤ 5 * nst st + rkt st ∧ jns st + nst st = st.length
  | [], _ => ⟨by show 0 ≤ _; omega, rfl⟩
  | w :: s, h => by
    have ih := h.1.len
    have hr := rkt_le (st := s)
    show s.length + 1 ≤ 5 * (nst s + if wrk w = 0 then 1 else 0) + wrk w ∧ (jns s + if wrk w = 0 then 0 else 1) + (nst s + if wrk w = 0 then 1 else 0) = s.length + 1
    by_cases h0 : wrk w = 0
    · rw [if_pos h0, if_pos h0]; omega
    · rw [if_neg h0, if_neg h0]
      have := h.2.1.resolve_left h0
      omega
theorem SWf.l29 (h : SWf st) (h5 : nst st ≤ 5) : st.length ≤ 29 ∧ jns st ≤ 24 := by
  have := h.len
  have := rkt_le (st := st)
  omega
def cfn (c : List Nat) : Nat → Int32 := fun i => Int32.ofNat (c.getD i 0)
def COk (c : List Nat) (t : Nat) : Prop := ldep (cfn c) c.length = t ∧ ∀ i, i < c.length → okw (ldep (cfn c) i) (cfn c i) ∧ ldep (cfn c) i ≤ 32
theorem ldep_cg {a b : Nat → Int32} (i : Nat) : (∀ j, j < i → a j = b j) → ldep a i = ldep b i := by
  induction i with
  | zero => intro _; exact (show ldep a 0 = 0 from rfl).trans (show ldep b 0 = 0 from rfl).symm
  | succ i ih =>
    intro h
    have e1 := ih (fun j hj => h j (Nat.lt_succ_of_lt hj))
    have e2 := h i (Nat.lt_succ_self i)
    rw [ldep_s, ldep_s, e1, e2]
theorem cfn_l {w i : Nat} (h : i < c.length) : cfn (c ++ [w]) i = cfn c i := by
  unfold cfn
  rw [List.getD_eq_getElem?_getD, List.getD_eq_getElem?_getD, List.getElem?_append_left h]
theorem cfn_e {w : Nat} : cfn (c ++ [w]) c.length = Int32.ofNat w := by
  unfold cfn
  have : (c ++ [w]).getD c.length 0 = w := by simp
  rw [this]
theorem COk.em {t w : Nat} (h : COk c t) (ho : okw t (Int32.ofNat w)) (ht : t ≤ 32) : COk (c ++ [w]) (dstep t (Int32.ofNat w)) := by
  have e : ∀ i, i ≤ c.length → ldep (cfn (c ++ [w])) i = ldep (cfn c) i := fun i hi => ldep_cg i (fun j hj => cfn_l (by omega))
  have hl : (c ++ [w]).length = c.length + 1 := by rw [List.length_append]; rfl
  refine ⟨by rw [hl, ldep_s, e _ (Nat.le_refl _), h.1, cfn_e], fun i hi => ?_⟩
  rw [hl] at hi
  rw [e i (by omega)]
  by_cases y : i = c.length
  · subst y; rw [cfn_e, h.1]; exact ⟨ho, ht⟩
  · rw [cfn_l (by omega)]; exact h.2 i (by omega)
theorem i_w3 {w : Nat} (h : w < 100000) : (Int32.ofNat w < 10003) = (w < 10003) ∧ (Int32.ofNat w = 10003) = (w = 10003) := ⟨i_lt (b := 10003) (by omega) (by omega), i_eq (b := 10003) (by omega) (by omega)⟩
theorem COk.lf {t w : Nat} (h : COk c t) (hw : w < 10003) (ht : t < 32) : COk (c ++ [w]) (t + 1) := by
  have e := i_w3 (w := w) (by omega)
  have := h.em (w := w) ⟨fun _ => ht, fun z => absurd (e.1.mpr hw) z, fun z => absurd (e.1.mpr hw) z⟩ (by omega)
  unfold dstep at this; rw [if_pos (e.1.mpr hw)] at this; exact this
theorem COk.nt {t : Nat} (h : COk c t) (ht : t ≤ 32) (h1 : 1 ≤ t) : COk (c ++ [10003]) t := by
  have := h.em (w := 10003) ⟨fun z => absurd z (by decide), fun _ _ => h1, fun _ z => absurd rfl z⟩ ht
  unfold dstep at this; rw [if_neg (by decide), if_pos (by decide)] at this; exact this
theorem COk.jo {t w : Nat} (h : COk c t) (hw : 10003 < w) (hw' : w < 100000) (ht : t ≤ 32) (h1 : 2 ≤ t) : COk (c ++ [w]) (t - 1) := by
  have e := i_w3 (w := w) (by omega)
  have a : ¬ Int32.ofNat w < 10003 := by rw [e.1]; omega
  have b : ¬ Int32.ofNat w = 10003 := by rw [e.2]; omega
  have := h.em (w := w) ⟨fun z => absurd z a, fun _ z => absurd z b, fun _ _ => h1⟩ ht
  unfold dstep at this; rw [if_neg a, if_neg b] at this; exact this
theorem COk.nil : COk [] 0 := ⟨rfl, fun i hi => absurd hi (by simp)⟩
theorem COk.lw {t : Nat} (h : COk c t) (h1 : t = 1) (hl : c.length ≤ 1000) : LW (cfn c) c.length := ⟨hl, by rw [h.1, h1], h.2⟩
/-- stack and code are right; a operands wait beside the joins -/
def MIv (a : Nat) (st c : List Nat) : Prop := SWf st ∧ nst st ≤ 5 ∧ COk c (jns st + a)
theorem MIv.settle {q : Nat} (hq : 1 ≤ q) : ∀ {st c : List Nat}, MIv 1 st c → MIv 1 (sttl q st c).1 (sttl q st c).2 ∧ rkt (sttl q st c).1 < q ∧ nst (sttl q st c).1 = nst st ∧ (sttl q st c).2.length + (sttl q st c).1.length = c.length + st.length
  | [], c, h => ⟨h, by show 0 < q; omega, rfl, rfl⟩
  | w :: s, c, h => by
    show MIv 1 (if q ≤ wrk w then sttl q s (c ++ [w]) else (w :: s, c)).1 _ ∧ _
    by_cases hw : q ≤ wrk w
    · have e : sttl q (w :: s) c = sttl q s (c ++ [w]) := by show (if _ then _ else _) = _; rw [if_pos hw]
      have e0 : ¬ wrk w = 0 := by omega
      obtain ⟨⟨h1, h2, h3, h4⟩, h5, h6⟩ := h
      have en : nst (w :: s) = nst s := by show nst s + (if _ then _ else _) = _; rw [if_neg e0]; rfl
      have ej : jns (w :: s) = jns s + 1 := by show jns s + (if _ then _ else _) = _; rw [if_neg e0]
      rw [en] at h5
      rw [ej] at h6
      have hne : w ≠ 10003 := fun z => by rw [z] at e0; exact e0 (by decide)
      have h24 := h1.l29 h5
      have ih := MIv.settle hq (st := s) (c := c ++ [w]) ⟨h1, h5, by have := h6.jo (w := w) (by omega) (by omega) (by omega) (by omega); rw [show jns s + 1 + 1 - 1 = jns s + 1 by omega] at this; exact this⟩
      rw [if_pos hw, e]
      refine ⟨ih.1, ih.2.1, ih.2.2.1.trans en.symm, ih.2.2.2.trans ?_⟩
      rw [List.length_append]; show c.length + 1 + s.length = c.length + (s.length + 1); omega
    · have e : sttl q (w :: s) c = (w :: s, c) := by show (if _ then _ else _) = _; rw [if_neg hw]
      rw [if_neg hw, e]
      exact ⟨h, by show wrk w < q; omega, rfl, rfl⟩
theorem MIv.op {w : Nat} (h : MIv 0 st c) (hw : w = 10003 ∨ w = 10011) (h5 : nst st < 5) : MIv 0 (w :: st) c := by
  have w0 : wrk w = 0 := by rcases hw with rfl | rfl <;> decide
  have en : nst (w :: st) = nst st + 1 := nst_0 w0
  have ej : jns (w :: st) = jns st := by show jns st + (if _ then _ else _) = _; rw [if_pos w0]; rfl
  exact ⟨⟨h.1, .inl w0, by omega, by omega⟩, by omega, by rw [ej]; exact h.2.2⟩
theorem MIv.pop {w : Nat} (h : MIv 1 (w :: st) c) (w0 : wrk w = 0) : MIv 1 st c ∧ nst (w :: st) = nst st + 1 := by
  have en : nst (w :: st) = nst st + 1 := nst_0 w0
  have ej : jns (w :: st) = jns st := by show jns st + (if _ then _ else _) = _; rw [if_pos w0]; rfl
  refine ⟨⟨h.1.1, by have := h.2.1; omega, ?_⟩, en⟩
  have := h.2.2; rw [ej] at this; exact this
theorem MIv.nt (h : MIv 1 (10003 :: st) c) : MIv 1 st (c ++ [10003]) := by
  have h' := (h.pop (by decide)).1
  have := h'.1.l29 h'.2.1
  exact ⟨h'.1, h'.2.1, h'.2.2.nt (by omega) (by omega)⟩
theorem MIv.lf {w : Nat} (h : MIv 0 st c) (hw : w < 10003) : MIv 1 st (c ++ [w]) := by
  have := h.1.l29 h.2.1
  exact ⟨h.1, h.2.1, h.2.2.lf hw (by omega)⟩
theorem MIv.jo {w : Nat} (h : MIv 1 st c) (hr : rkt st < wrk w) (hw : 10003 ≤ w) (hw' : w ≤ 10011) : MIv 0 (w :: st) c := by
  have w0 : ¬ wrk w = 0 := by omega
  have en : nst (w :: st) = nst st := by show nst st + (if _ then _ else _) = _; rw [if_neg w0]; rfl
  have ej : jns (w :: st) = jns st + 1 := by show jns st + (if _ then _ else _) = _; rw [if_neg w0]
  exact ⟨⟨h.1, .inr hr, hw, hw'⟩, by rw [en]; exact h.2.1, by rw [ej]; exact h.2.2⟩
theorem MIv.nil : MIv 0 [] [] := ⟨trivial, by show 0 ≤ 5; omega, COk.nil⟩
theorem lfw_lt (h : lfw tp Tn ml n ≠ 20000) : lfw tp Tn ml n < 10003 ∧ kS tp Tn n ≠ 0 := by
  by_cases h2 : kS tp Tn n = 2
  · have := kV_lt h2
    unfold lfw; rw [if_pos h2]; exact ⟨by omega, by omega⟩
  · rcases fcx_lf (ml := ml) h2 with y | ⟨j, hj, y, _⟩
    · exact absurd y.1 h
    · refine ⟨by omega, fun y0 => h ?_⟩
      have : ∀ w, isWN tp Tn n w = false := fun w => nf (fun y' => isWN_k y' y0)
      unfold lfw; rw [if_neg h2, this, this, this]; rfl
end MINV
