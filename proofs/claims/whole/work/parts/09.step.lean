/-! ONE STEP IS SOUND -/
def okV (ow idx x y : Nat) (virt : Bool) : Bool := ((mT.any fun q => Nat.beq q.1 ow && Nat.beq q.2.1 idx && Nat.beq q.2.2.1 x) || (nestW.any (fun q => decide (q.1 = ownS ow) && Nat.beq q.2 idx) && decide ((mdT x).map (fun m => m.1) = some y_has) && !virt)) && (match mdT x with
  | some (yn, _, _, _, _, tg) => (if virt then !Nat.beq tg 99 && Nat.ble 1 y && decide ((parseMethodDescriptor yn.desc).map (fun d => d.parameters.length) = some (y - 1)) else Nat.beq tg 99 && decide ((parseMethodDescriptor yn.desc).map (fun d => d.parameters.length) = some y))
  | none => false)
def okI (ow nL : Nat) (ret : Option FieldType) (pc : Nat) (i : Instr) (len x y z : Nat) (cI : Int32) (cJ : Int64) : Bool := match i with
  | .iconst n => decide (Int32.ofInt n = cI) && Nat.beq len 1
  | .bipush n => decide ((Int8.ofInt n).toInt32 = cI) && Nat.beq len 2
  | .sipush n => decide ((Int16.ofInt n).toInt32 = cI) && Nat.beq len 3
  | .ldc idx => Nat.beq len 2 && (match z with
    | 0 => cT.any fun q => Nat.beq q.1 ow && Nat.beq q.2.1 idx && decide (q.2.2.1 = cI)
    | _ => Nat.blt y 35 && strW.any fun q => decide (q.1 = ownS ow) && Nat.beq q.2.1 idx && Nat.beq q.2.2.2 y)
  | .ldc_w idx => Nat.beq len 3 && cT.any fun q => Nat.beq q.1 ow && Nat.beq q.2.1 idx && decide (q.2.2.1 = cI)
  | .ldc2_w idx => Nat.beq len 3 && lT.any fun q => Nat.beq q.1 ow && Nat.beq q.2.1 idx && decide (q.2.2.1 = cJ)
  | .lconst n => decide (Int64.ofNat (n : Nat) = cJ) && Nat.beq len 1
  | .getstatic idx => Nat.beq len 3 && gT.any fun q => Nat.beq q.1 ow && Nat.beq q.2.1 idx && Nat.beq q.2.2.1 z
  | .iload_n n => Nat.beq len 1 && Nat.beq n x
  | .iload n => Nat.beq len 2 && Nat.beq n x
  | .lload_n n => Nat.beq len 1 && Nat.beq n x
  | .lload n => Nat.beq len 2 && Nat.beq n x
  | .aload_n n => Nat.beq len 1 && Nat.beq n x
  | .aload n => Nat.beq len 2 && Nat.beq n x
  | .istore_n n => Nat.beq len 1 && Nat.beq n x && Nat.blt x nL
  | .istore n => Nat.beq len 2 && Nat.beq n x && Nat.blt x nL
  | .astore_n n => Nat.beq len 1 && Nat.beq n x && Nat.blt x nL
  | .astore n => Nat.beq len 2 && Nat.beq n x && Nat.blt x nL
  | .lstore_n n => Nat.beq len 1 && Nat.beq n x && Nat.blt (x + 1) nL
  | .lstore n => Nat.beq len 2 && Nat.beq n x && Nat.blt (x + 1) nL
  | .iinc n c => Nat.beq len 3 && Nat.beq n x && Nat.blt x nL && decide (Int32.ofInt c = cI)
  | .ifCond _ off => Nat.beq len 3 && decide ((pc : Int) + off = (y : Int))
  | .if_icmp _ off => Nat.beq len 3 && decide ((pc : Int) + off = (y : Int))
  | .goto off => Nat.beq len 3 && decide ((pc : Int) + off = (y : Int))
  | .tableswitch d lo hi os => decide (0 ≤ (pc : Int) + d) && os.toList.all (fun o => decide (0 ≤ (pc : Int) + o)) && decide (hi = lo + os.toList.length - 1) && decide (-2147483648 ≤ lo) && decide (hi ≤ 2147483647)
  | .getfield idx => Nat.beq len 3 && fT.any fun q => Nat.beq q.1 ow && Nat.beq q.2.1 idx && Nat.beq q.2.2.1 x && Nat.beq q.2.2.2.1 y
  | .putfield idx => Nat.beq len 3 && Nat.blt x 13 && fT.any fun q => Nat.beq q.1 ow && Nat.beq q.2.1 idx && Nat.beq q.2.2.1 x && Nat.beq q.2.2.2.1 y
  | .aaload => Nat.beq len 1 && (Nat.beq z 0 || Nat.beq z 30 || Nat.beq z 31 || Nat.beq z 32)
  | .invokevirtual idx => Nat.beq len 3 && okV ow idx x y true
  | .invokestatic idx => Nat.beq len 3 && (match z with
    | 9 => acT.any fun q => Nat.beq q.1 ow && Nat.beq q.2.1 idx
    | _ => okV ow idx x y false)
  | .ireturn => Nat.beq len 1 && (match z with
    | 0 => decide (ret = some .int)
    | 1 => decide (ret = some .boolean)
    | 2 => decide (ret = some .byte)
    | _ => decide (ret = some .char))
  | .lreturn => Nat.beq len 1 && decide (ret = some .long)
  | .return_ => Nat.beq len 1 && decide (ret = none)
  | _ => Nat.beq len 1
def okE (m : MD) (pc : Nat) (e : Ent) : Bool := match m, e with
  | (_, cc, nL, ret, ow, _), (i, len, x, y, z, cI, cJ) => decide (decode cc pc = .ok (i, len)) && okI ow nL ret pc i len x y z cI cJ
def ROK (w : List Ref3) (r : Option AV × Mem) : Prop := (∀ v, r.1 = some v → VOK w v) ∧ MOK w r.2
def WQ (w : List Ref3) (own : String) (cc : ByteArray) (nL : Nat) (ret : Option FieldType) (d pc : Nat) (lv : Lv) (st : List AV) (M : Mem) (r : Option AV × Mem) : Prop := WPs w own cc nL ret d pc lv st M r ∧ ROK w r
def recvOK (tg : Nat) (as : List AV) : Bool := if tg = 99 then true else match as with
  | .inr (.inr q) :: _ => Nat.beq q.1 tg
  | _ => false
section EX
variable {call : Nat → List AV → Mem → Res} {back : Nat → Lv → Mem → Res} {k : Nat → Lv → List AV → Mem → Res} {r : Option AV × Mem} {n : Nat} {lv : Lv} {st : List AV} {M : Mem}
theorem ib_some {f : Int32 → Int32 → Int32} (h : ib k f n lv st M = some r) : ∃ a b st', st = .inl b :: .inl a :: st' ∧ k n lv (.inl (f a b) :: st') M = some r := by
  unfold ib at h; split at h
  · exact ⟨_, _, _, rfl, h⟩
  · cases h
theorem jb_some {f : Int64 → Int64 → Int64} (h : jb k f n lv st M = some r) : ∃ a b st', st = .inr (.inl b) :: .inr (.inl a) :: st' ∧ k n lv (.inr (.inl (f a b)) :: st') M = some r := by
  unfold jb at h; split at h
  · exact ⟨_, _, _, rfl, h⟩
  · cases h
theorem alK_some {t0 : Nat} {f : Mem → Ref3 → Nat → AV} (h : alK k t0 f n lv st M = some r) : ∃ i q st', st = .inl i :: .inr (.inr q) :: st' ∧ q.1 = t0 ∧ ¬ (i < 0 ∨ q.2.1 ≤ i.toNatClampNeg) ∧ k n lv (f M q i.toNatClampNeg :: st') M = some r := by
  unfold alK at h; split at h
  · rename_i i q st'
    split at h
    · rename_i hb
      unfold ic at h
      split at h
      · cases h
      · rename_i hin
        exact ⟨i, q, st', rfl, Nat.eq_of_beq_eq_true hb, hin, h⟩
    · cases h
  · cases h
theorem asK_some {t0 : Nat} {f : Int32 → Int32} (h : asK k t0 f n lv st M = some r) : ∃ v i q st', st = .inl v :: .inl i :: .inr (.inr q) :: st' ∧ q.1 = t0 ∧ ¬ (i < 0 ∨ q.2.1 ≤ i.toNatClampNeg) ∧ k n lv st' (sI M q.2.2 i.toNatClampNeg (f v)) = some r := by
  unfold asK at h; split at h
  · rename_i v i q st'
    split at h
    · rename_i hb
      unfold ic at h
      split at h
      · cases h
      · rename_i hin
        exact ⟨v, i, q, st', rfl, Nat.eq_of_beq_eq_true hb, hin, h⟩
    · cases h
  · cases h
end EX
theorem nb {a b : Nat} (h : Nat.beq a b = true) : a = b := Nat.eq_of_beq_eq_true h
theorem nl {a b : Nat} (h : Nat.blt a b = true) : a < b := Nat.le_of_ble_eq_true h
theorem VOKs_cons {w : List Ref3} {v : AV} {st : List AV} : VOKs w (v :: st) ↔ VOK w v ∧ VOKs w st := by simp [VOKs]
theorem VOKl_stl {w : List Ref3} {lv : Lv} {i : Nat} {v : AV} (h : VOKl w lv) (hv : VOK w v) : VOKl w (stl lv i v) := by
  intro j x hx
  rcases lvat_stl hx with ⟨-, e⟩ | ⟨-, h2, -⟩
  · rw [← e]; exact hv
  · exact h j x h2
theorem VOKl_stl2 {w : List Ref3} {lv : Lv} {i : Nat} {v : AV} (h : VOKl w lv) (hv : VOK w v) : VOKl w (stl2 lv i v) := by
  intro j x hx
  rcases lvat_lst _ _ _ _ _ hx with ⟨-, e⟩ | ⟨-, h2⟩
  · cases e
  · exact VOKl_stl h hv j x h2
/-- what a reference with a tag of the world's is -/
theorem VOK_in {w : List Ref3} {q : Ref3} (h : VOK w (.inr (.inr q))) (ht : q.1 < 40) : q ∈ w := by
  rcases h with h | ⟨i, -, h⟩ | ⟨i, -, h⟩ | h
  · exact h
  · subst h; simp at ht
  · subst h; simp at ht
  · subst h; simp at ht
theorem VOK_str {w : List Ref3} (hw : WT w) {q : Ref3} (h : VOK w (.inr (.inr q))) (ht : q.1 = 40) : ∃ i, i < 35 ∧ q = (40, i, SB + i) := by
  rcases h with h | h | ⟨i, -, h⟩ | h
  · rcases hw.1 q h with h | h | h <;> omega
  · exact h
  · subst h; simp at ht
  · subst h; simp at ht
theorem VOK_byt {w : List Ref3} (hw : WT w) {q : Ref3} (h : VOK w (.inr (.inr q))) (ht : q.1 = 41) : ∃ i, i < 35 ∧ q = (41, strL i, SV + i) := by
  rcases h with h | ⟨i, -, h⟩ | h | h
  · rcases hw.1 q h with h | h | h <;> omega
  · subst h; simp at ht
  · exact h
  · subst h; simp at ht
theorem fT_use {ow idx x y : Nat} (h : (fT.any fun q => Nat.beq q.1 ow && Nat.beq q.2.1 idx && Nat.beq q.2.2.1 x && Nat.beq q.2.2.2.1 y) = true) :
    (x = 40 ∧ y = 0 ∧ Cond.fieldLink (ownS ow) idx "java/lang/String" "value" "[B" ∈ lw_g) ∨ (x = 40 ∧ y = 1 ∧ Cond.fieldLink (ownS ow) idx "java/lang/String" "coder" "B" ∈ lw_g) ∨ (x < 13 ∧ y < clN x ∧ Cond.fieldLink (ownS ow) idx (clR x) ((clT x) y).2.1 ((clT x) y).2.2.1 ∈ lw_g) := by
  obtain ⟨q, hq, he⟩ := List.any_eq_true.mp h
  have hk := List.all_eq_true.mp fT_ok q hq
  obtain ⟨a, b, c, d, p⟩ := q
  simp only [Bool.and_eq_true] at he
  obtain ⟨⟨⟨e1, e2⟩, e3⟩, e4⟩ := he
  have e1 := nb e1; have e2 := nb e2; have e3 := nb e3; have e4 := nb e4
  subst e1; subst e2; subst e3; subst e4
  simp only [okF] at hk
  split at hk
  · rename_i h40
    simp only [Bool.and_eq_true, decide_eq_true_eq] at hk
    have hd := Nat.le_of_ble_eq_true hk.2
    have hd2 : d = 0 ∨ d = 1 := by omega
    rcases hd2 with hd2 | hd2
    · subst hd2
      exact Or.inl ⟨h40, rfl, lw_mem p hk.1 rfl⟩
    · subst hd2
      exact Or.inr (Or.inl ⟨h40, rfl, lw_mem p hk.1 rfl⟩)
  · simp only [Bool.and_eq_true, decide_eq_true_eq] at hk
    exact Or.inr (Or.inr ⟨hk.1.2, hk.2, lw_mem p hk.1.1 rfl⟩)
theorem gT_use {ow idx z : Nat} (h : (gT.any fun q => Nat.beq q.1 ow && Nat.beq q.2.1 idx && Nat.beq q.2.2.1 z) = true) :
    (z = 0 ∧ Cond.fieldLink (ownS ow) idx "java/lang/String" "COMPACT_STRINGS" "Z" ∈ lw_g) ∨ (z ≠ 0 ∧ Cond.fieldLink (ownS ow) idx "jdk/internal/util/Preconditions" "SIOOBE_FORMATTER" "Ljava/util/function/BiFunction;" ∈ lw_g) := by
  obtain ⟨q, hq, he⟩ := List.any_eq_true.mp h
  have hk := List.all_eq_true.mp gT_ok q hq
  obtain ⟨a, b, c, p⟩ := q
  simp only [Bool.and_eq_true] at he
  obtain ⟨⟨e1, e2⟩, e3⟩ := he
  have e1 := nb e1; have e2 := nb e2; have e3 := nb e3
  subst e1; subst e2; subst e3
  simp only [okG] at hk
  split at hk
  · rename_i h0
    exact Or.inl ⟨h0, lw_mem p (of_decide_eq_true hk) rfl⟩
  · rename_i h0
    exact Or.inr ⟨h0, lw_mem p (of_decide_eq_true hk) rfl⟩
theorem cT_use {ow idx : Nat} {v : Int32} (h : (cT.any fun q => Nat.beq q.1 ow && Nat.beq q.2.1 idx && decide (q.2.2.1 = v)) = true) : Cond.constant (ownS ow) idx v ∈ lw_g := by
  obtain ⟨q, hq, he⟩ := List.any_eq_true.mp h
  have hk := List.all_eq_true.mp cT_ok q hq
  obtain ⟨a, b, c, p⟩ := q
  simp only [Bool.and_eq_true, decide_eq_true_eq] at he
  obtain ⟨⟨e1, e2⟩, e3⟩ := he
  have e1 := nb e1; have e2 := nb e2
  subst e1; subst e2; subst e3
  exact lw_mem p (of_decide_eq_true hk) rfl
theorem lT_use {ow idx : Nat} {v : Int64} (h : (lT.any fun q => Nat.beq q.1 ow && Nat.beq q.2.1 idx && decide (q.2.2.1 = v)) = true) : Cond.constantLong (ownS ow) idx v ∈ lw_g := by
  obtain ⟨q, hq, he⟩ := List.any_eq_true.mp h
  have hk := List.all_eq_true.mp lT_ok q hq
  obtain ⟨a, b, c, p⟩ := q
  simp only [Bool.and_eq_true, decide_eq_true_eq] at he
  obtain ⟨⟨e1, e2⟩, e3⟩ := he
  have e1 := nb e1; have e2 := nb e2
  subst e1; subst e2; subst e3
  exact lw_mem p (of_decide_eq_true hk) rfl
theorem sT_use {ow idx y : Nat} (h : (strW.any fun q => decide (q.1 = ownS ow) && Nat.beq q.2.1 idx && Nat.beq q.2.2.2 y) = true) : ∃ tx, (ownS ow, idx, tx, y) ∈ strW := by
  obtain ⟨q, hq, he⟩ := List.any_eq_true.mp h
  obtain ⟨a, b, c, p⟩ := q
  simp only [Bool.and_eq_true, decide_eq_true_eq] at he
  obtain ⟨⟨e1, e2⟩, e3⟩ := he
  have e2 := nb e2; have e3 := nb e3
  subst e1; subst e2; subst e3
  exact ⟨c, hq⟩
theorem acT_use {ow idx : Nat} (h : (acT.any fun q => Nat.beq q.1 ow && Nat.beq q.2.1 idx) = true) : Cond.methodLink (ownS ow) idx arraycopyName ∈ lw_g := by
  obtain ⟨q, hq, he⟩ := List.any_eq_true.mp h
  have hk := List.all_eq_true.mp acT_ok q hq
  obtain ⟨a, b, p⟩ := q
  simp only [Bool.and_eq_true] at he
  obtain ⟨e1, e2⟩ := he
  have e1 := nb e1; have e2 := nb e2
  subst e1; subst e2
  exact lw_mem p (of_decide_eq_true hk) rfl
theorem ac_words : Cond.native arraycopyName ∈ lw_g ∧ Cond.static arraycopyName ∈ lw_g ∧ Cond.initialized "java/lang/System" ∈ lw_g :=
  ⟨List.mem_filter.mpr ⟨by decide +kernel, rfl⟩, List.mem_filter.mpr ⟨by decide +kernel, rfl⟩, List.mem_filter.mpr ⟨by decide +kernel, rfl⟩⟩
