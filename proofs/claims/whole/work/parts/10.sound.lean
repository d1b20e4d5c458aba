/-! stepK is sound -/
section SND
variable {w : List Ref3} {own : String} {cc : ByteArray} {nL : Nat} {ret : Option FieldType} {d pc : Nat} {lv : Lv} {st : List AV} {M : Mem} {r : Option AV × Mem} {call : Nat → List AV → Mem → Res} {back : Nat → Lv → Mem → Res} {k : Nat → Lv → List AV → Mem → Res}
theorem jmp_sound {tgt : Nat} (hback : ∀ pc' lv' M', back pc' lv' M' = some r → VOKl w lv' → MOK w M' → WQ w own cc nL ret d pc' lv' [] M' r) (hk : ∀ pc' lv' st' M', k pc' lv' st' M' = some r → VOKl w lv' → VOKs w st' → MOK w M' → WQ w own cc nL ret d pc' lv' st' M' r)
    (h : jmp back k pc tgt lv st M = some r) (hvl : VOKl w lv) (hvs : VOKs w st) (hm : MOK w M) : WQ w own cc nL ret d tgt lv st M r := by
  unfold jmp at h
  split at h
  · split at h
    · exact hback _ _ _ h hvl hm
    · cases h
  · exact hk _ _ _ _ h hvl hvs hm
theorem ite_some {P : Prop} {_ : Decidable P} {A B : Res} (h : (if P then A else B) = some r) : (P → A = some r) ∧ (¬ P → B = some r) := by
  by_cases hp : P
  · rw [if_pos hp] at h; exact ⟨fun _ => h, fun z => absurd hp z⟩
  · rw [if_neg hp] at h; exact ⟨fun z => absurd z hp, fun _ => h⟩
theorem x_br2 {n1 n2 : Nat} {st' : List AV} {P : Prop} (hrow : ∀ {ρ : Nat → Nat} {p : Program} {l : Launch} {e : Env} {R : Room} {s : State} {m : MethodId} {args : Array Value} {below : List Frame} {meth : Method} {c : Code} {H : Heap} {locs : List Loc} {cells slots : Nat} {Q : State → Prop} {ls : Array Slot}, p.tables.exec = Jvm.exec → c.code = cc → (P → W p l e R s m args below meth c H locs cells slots Q (F0 m n1 ls (st'.map (cv ρ)))) → (¬ P → W p l e R s m args below meth c H locs cells slots Q (F0 m n2 ls (st'.map (cv ρ)))) → W p l e R s m args below meth c H locs cells slots Q (F0 m pc ls (st.map (cv ρ))))
    (k1 : P → WQ w own cc nL ret d n1 lv st' M r) (k2 : ¬ P → WQ w own cc nL ret d n2 lv st' M r) : WQ w own cc nL ret d pc lv st M r := by
  refine ⟨x_br hrow (fun z => (k1 z).1) (fun z => (k2 z).1), ?_⟩
  by_cases hp : P
  · exact (k1 hp).2
  · exact (k2 hp).2
theorem icmp_sound {c : ClassFile.Cond} {off : Int} {tgt : Nat} {a b : Int32} (hdg : decode cc pc = .ok (.if_icmp c off, 3)) (ht : (pc : Int) + off = (tgt : Int))
    (hj : jmp back k pc tgt lv st M = some r → WQ w own cc nL ret d tgt lv st M r) (hn : k (pc + 3) lv st M = some r → WQ w own cc nL ret d (pc + 3) lv st M r)
    (h : cIc back k c pc (pc + 3) tgt lv a b st M = some r) : WQ w own cc nL ret d pc lv (.inl b :: .inl a :: st) M r := by
  cases c
  case eq =>
    obtain ⟨h1, h2⟩ := ite_some h
    exact x_br2 (P := a = b) (st' := st) (fun hx hb kt kf => lv_icmp_eq hx hb hdg ht kt kf) (fun z => hj (h1 z)) (fun z => hn (h2 z))
  case ne =>
    obtain ⟨h1, h2⟩ := ite_some h
    exact x_br2 (P := a = b) (st' := st) (n1 := pc + 3) (n2 := tgt) (fun hx hb kt kf => lv_icmp_ne hx hb hdg ht kf kt) (fun z => hn (h1 z)) (fun z => hj (h2 z))
  case lt =>
    obtain ⟨h1, h2⟩ := ite_some h
    exact x_br2 (P := a < b) (st' := st) (fun hx hb kt kf => lv_icmp_lt hx hb hdg ht kt kf) (fun z => hj (h1 z)) (fun z => hn (h2 z))
  case ge =>
    obtain ⟨h1, h2⟩ := ite_some h
    exact x_br2 (P := a < b) (st' := st) (n1 := pc + 3) (n2 := tgt) (fun hx hb kt kf => lv_icmp_ge hx hb hdg ht (fun z => kf (Int32.not_lt.mpr z)) (fun z => kt (Int32.not_le.mp z))) (fun z => hn (h1 z)) (fun z => hj (h2 z))
  case gt =>
    obtain ⟨h1, h2⟩ := ite_some h
    exact x_br2 (P := b < a) (st' := st) (fun hx hb kt kf => lv_icmp_gt hx hb hdg ht kt kf) (fun z => hj (h1 z)) (fun z => hn (h2 z))
  case le =>
    obtain ⟨h1, h2⟩ := ite_some h
    exact x_br2 (P := b < a) (st' := st) (n1 := pc + 3) (n2 := tgt) (fun hx hb kt kf => lv_icmp_le hx hb hdg ht (fun z => kf (Int32.not_lt.mpr z)) (fun z => kt (Int32.not_le.mp z))) (fun z => hn (h1 z)) (fun z => hj (h2 z))
theorem ifc_sound {c : ClassFile.Cond} {off : Int} {tgt : Nat} {a : Int32} (hdg : decode cc pc = .ok (.ifCond c off, 3)) (ht : (pc : Int) + off = (tgt : Int))
    (hj : jmp back k pc tgt lv st M = some r → WQ w own cc nL ret d tgt lv st M r) (hn : k (pc + 3) lv st M = some r → WQ w own cc nL ret d (pc + 3) lv st M r)
    (h : cIc back k c pc (pc + 3) tgt lv a 0 st M = some r) : WQ w own cc nL ret d pc lv (.inl a :: st) M r := by
  cases c
  case eq =>
    obtain ⟨h1, h2⟩ := ite_some h
    exact x_br2 (P := a = 0) (st' := st) (fun hx hb kt kf => lv_if_eq hx hb hdg ht kt kf) (fun z => hj (h1 z)) (fun z => hn (h2 z))
  case ne =>
    obtain ⟨h1, h2⟩ := ite_some h
    exact x_br2 (P := a = 0) (st' := st) (n1 := pc + 3) (n2 := tgt) (fun hx hb kt kf => lv_if_ne hx hb hdg ht kf kt) (fun z => hn (h1 z)) (fun z => hj (h2 z))
  case lt =>
    obtain ⟨h1, h2⟩ := ite_some h
    exact x_br2 (P := a < 0) (st' := st) (fun hx hb kt kf => lv_if_lt hx hb hdg ht kt kf) (fun z => hj (h1 z)) (fun z => hn (h2 z))
  case ge =>
    obtain ⟨h1, h2⟩ := ite_some h
    exact x_br2 (P := a < 0) (st' := st) (n1 := pc + 3) (n2 := tgt) (fun hx hb kt kf => lv_if_ge hx hb hdg ht (fun z => kf (Int32.not_lt.mpr z)) (fun z => kt (Int32.not_le.mp z))) (fun z => hn (h1 z)) (fun z => hj (h2 z))
  case gt =>
    obtain ⟨h1, h2⟩ := ite_some h
    exact x_br2 (P := 0 < a) (st' := st) (fun hx hb kt kf => lv_if_gt hx hb hdg ht kt kf) (fun z => hj (h1 z)) (fun z => hn (h2 z))
  case le =>
    obtain ⟨h1, h2⟩ := ite_some h
    exact x_br2 (P := 0 < a) (st' := st) (n1 := pc + 3) (n2 := tgt) (fun hx hb kt kf => lv_if_le hx hb hdg ht (fun z => kf (Int32.not_lt.mpr z)) (fun z => kt (Int32.not_le.mp z))) (fun z => hn (h1 z)) (fun z => hj (h2 z))
end SND
theorem sw_find {v : Int32} {f : Int → Res} {dd : Int} {r : Option AV × Mem} : ∀ (os : List Int) (lo : Int), swk v f dd lo os = some r → -2147483648 ≤ lo → lo + os.length - 1 ≤ 2147483647 →
    (∃ j : Nat, j < os.length ∧ v.toInt = lo + j ∧ ∃ o, os[j]? = some o ∧ f o = some r) ∨ ((v.toInt < lo ∨ lo + os.length - 1 < v.toInt) ∧ f dd = some r)
  | [], lo, h, h1, h2 => Or.inr ⟨by simp; omega, h⟩
  | o :: os, lo, h, h1, h2 => by
    obtain ⟨e1, e2⟩ := ite_some h
    have hlo : (Int32.ofInt lo).toInt = lo := Int32.toInt_ofInt_of_le (by simp at h2 ⊢; omega) (by simp at h2 ⊢; omega)
    by_cases hv : v = Int32.ofInt lo
    · refine Or.inl ⟨0, by simp, ?_, o, rfl, e1 hv⟩
      rw [hv, hlo]; simp
    · have hne : v.toInt ≠ lo := fun z => hv (by rw [← Int32.toInt_inj, hlo]; exact z)
      rcases sw_find os (lo + 1) (e2 hv) (by omega) (by simp at h2 ⊢; omega) with ⟨j, g1, g2, g3⟩ | ⟨g1, g2⟩
      · exact Or.inl ⟨j + 1, by simp; omega, by rw [g2]; push_cast; omega, by simpa using g3⟩
      · refine Or.inr ⟨?_, g2⟩
        simp at g1 ⊢
        omega
/-- what is known of a callee -/
def MDk (md : MD) : Prop := Cond.initialized md.1.cls ∈ lw_g ∧ Cond.code md.1 md.2.1 md.2.2.1 md.2.2.2.1 ∈ lw_g ∧ md.1.cls = ownS md.2.2.2.2.1 ∧ (md.1.cls ≠ "java/lang/invoke/MethodHandle" ∧ md.1.cls ≠ "java/lang/invoke/VarHandle") ∧ plainFor md.1 = true ∧ md.2.2.1 ≤ 40 ∧
  ((md.2.2.2.2.2 = 99 ∧ Cond.static md.1 ∈ lw_g) ∨ (md.2.2.2.2.2 ≠ 99 ∧ Cond.instanceMethod md.1 ∈ lw_g ∧ Cond.selects md.1.cls md.1 md.1 ∈ lw_g ∧ ((md.2.2.2.2.2 = 40 ∧ md.1.cls = "java/lang/String") ∨ (md.2.2.2.2.2 < 13 ∧ clR md.2.2.2.2.2 = md.1.cls))))
theorem popA_spec : ∀ (n : Nat) (acc st as st' : List AV), popA n acc st = some (as, st') → ∃ p, st = p ++ st' ∧ as = p.reverse ++ acc ∧ p.length = n
  | 0, acc, st, as, st', h => by cases h; exact ⟨[], rfl, rfl, rfl⟩
  | n + 1, acc, [], as, st', h => by cases h
  | n + 1, acc, v :: st, as, st', h => by
    obtain ⟨p, h1, h2, h3⟩ := popA_spec n (v :: acc) st as st' h
    exact ⟨v :: p, by rw [h1]; rfl, by rw [h2]; simp, by simp [h3]⟩
theorem cVd_some {R : Res} {f : Mem → Res} {r : Option AV × Mem} (h : cVd R f = some r) : ∃ M, R = some (none, M) ∧ f M = some r := by
  unfold cVd at h; split at h
  · exact ⟨_, rfl, h⟩
  · cases h
theorem cIn_some {R : Res} {f : Int32 → Mem → Res} {r : Option AV × Mem} (h : cIn R f = some r) : ∃ v M, R = some (some (.inl v), M) ∧ f v M = some r := by
  unfold cIn at h; split at h
  · exact ⟨_, _, rfl, h⟩
  · cases h
theorem cLo_some {R : Res} {f : Int64 → Mem → Res} {r : Option AV × Mem} (h : cLo R f = some r) : ∃ v M, R = some (some (.inr (.inl v)), M) ∧ f v M = some r := by
  unfold cLo at h; split at h
  · exact ⟨_, _, rfl, h⟩
  · cases h
theorem mT_use {ow idx x : Nat} {md : MD} (h : (mT.any fun q => Nat.beq q.1 ow && Nat.beq q.2.1 idx && Nat.beq q.2.2.1 x) = true) (hm : mdT x = some md) : Cond.methodLink (ownS ow) idx md.1 ∈ lw_g := by
  obtain ⟨q, hq, he⟩ := List.any_eq_true.mp h
  have hk := List.all_eq_true.mp mT_ok q hq
  obtain ⟨a, b, c, p⟩ := q
  simp only [Bool.and_eq_true] at he
  obtain ⟨⟨e1, e2⟩, e3⟩ := he
  have e1 := nb e1; have e2 := nb e2; have e3 := nb e3
  subst e1; subst e2; subst e3
  simp only [okM, hm] at hk
  exact lw_mem p (of_decide_eq_true hk) rfl
section SNE
variable {w : List Ref3} {d pc : Nat} {lv : Lv} {st : List AV} {M : Mem} {r : Option AV × Mem} {call : Nat → List AV → Mem → Res} {back : Nat → Lv → Mem → Res} {k : Nat → Lv → List AV → Mem → Res}
/-- the call, whatever it answers -/
theorem inv_sound {ow nL : Nat} {cc : ByteArray} {ret : Option FieldType} {idx x y z : Nat} {virt : Bool} (hwt : WT w) (hmd : ∀ x md, mdT x = some md → MDk md)
    (hcall : ∀ x as M r', call x as M = some r' → VOKs w as → MOK w M → ∃ md, mdT x = some md ∧ recvOK md.2.2.2.2.2 as = true ∧ CSem w md.1 md.2.1 md.2.2.1 md.2.2.2.1 d as M r' ∧ ROK w r')
    (hk : ∀ pc' lv' st' M', k pc' lv' st' M' = some r → VOKl w lv' → VOKs w st' → MOK w M' → WQ w (ownS ow) cc nL ret (d + 1) pc' lv' st' M' r)
    (hok : okV ow idx x y virt = true) (hdg : decode cc pc = .ok (if virt then .invokevirtual idx else .invokestatic idx, 3))
    (h : invK call k (pc + 3) x y z lv st M = some r) (hvl : VOKl w lv) (hvs : VOKs w st) (hm : MOK w M) : WQ w (ownS ow) cc nL ret (d + 1) pc lv st M r := by
  unfold invK at h
  split at h
  case h_2 => cases h
  rename_i as st' hpop
  split at h
  case h_2 => cases h
  rename_i hcat
  have hcat := Nat.le_of_ble_eq_true hcat
  obtain ⟨p, hp1, hp2, hp3⟩ := popA_spec _ _ _ _ _ hpop
  have hvas : VOKs w as := fun v hv => hvs v (by rw [hp1, hp2] at *; simp at hv; exact List.mem_append_left _ hv)
  have hvst : VOKs w st' := fun v hv => hvs v (by rw [hp1]; exact List.mem_append_right _ hv)
  have hst : st = as.reverse ++ st' := by rw [hp1, hp2]; simp
  have hlen : as.length = y := by rw [hp2]; simp [hp3]
  obtain ⟨r', hc, hgo⟩ : ∃ r', call x as M = some r' ∧ k (pc + 3) lv (r'.1.toList ++ st') r'.2 = some r := by
    split at h
    · obtain ⟨M1, e1, e2⟩ := cVd_some h; exact ⟨_, e1, e2⟩
    · obtain ⟨v, M1, e1, e2⟩ := cIn_some h; exact ⟨_, e1, e2⟩
    · obtain ⟨v, M1, e1, e2⟩ := cLo_some h; exact ⟨_, e1, e2⟩
    · cases h
  obtain ⟨md, hmdx, hrecv, hcs, hrok⟩ := hcall _ _ _ _ hc hvas hm
  have hvr : VOKs w (r'.1.toList ++ st') := by
    intro v hv
    rcases List.mem_append.mp hv with hv | hv
    · refine hrok.1 v ?_
      cases hr : r'.1 with
      | none => rw [hr] at hv; cases hv
      | some u => rw [hr] at hv; simp at hv; rw [hv]
    · exact hvst v hv
  obtain ⟨w1, w2⟩ := hk _ _ _ _ hgo hvl hvr hrok.2
  refine ⟨?_, w2⟩
  obtain ⟨k1, k2, k3, k4, k5, k6, k7⟩ := hmd x md hmdx
  obtain ⟨yn, bt, mL, rt, ow2, tg⟩ := md
  dsimp only at k1 k2 k3 k4 k5 k6 k7 hrecv hcs
  unfold okV at hok
  rw [hmdx] at hok
  simp only [Bool.and_eq_true, Bool.or_eq_true] at hok
  obtain ⟨hok1, hok2⟩ := hok
  rw [hst]
  cases virt with
  | true =>
    simp only [if_true, Bool.and_eq_true, decide_eq_true_eq] at hok2
    obtain ⟨⟨c1, c2⟩, c3⟩ := hok2
    have c2 := Nat.le_of_ble_eq_true c2
    have htg : tg ≠ 99 := fun z => by subst z; simp at c1
    rcases hok1 with hok1 | hok1
    · have hl := mT_use hok1 hmdx
      rcases k7 with ⟨z, -⟩ | ⟨-, k7, k8, k9⟩
      · exact absurd z htg
      · unfold recvOK at hrecv
        rw [if_neg htg] at hrecv
        split at hrecv
        · rename_i q as'
          have hq := nb hrecv
          have hvq := (VOKs_cons.mp hvas).1
          refine x_callV hcs ?_ k2 hl k7 k8 k1 ⟨k4.1, k4.2, ?_⟩ k6 hcat hdg w1
          · rcases k9 with ⟨e1, e2⟩ | ⟨e1, e2⟩
            · obtain ⟨i, h1, h2⟩ := VOK_str hwt hvq (by omega)
              exact Or.inr ⟨i, h1, h2, e2⟩
            · exact Or.inl ⟨VOK_in hvq (by omega), by omega, by rw [hq]; exact e2⟩
          · rw [c3]; simp at hlen; congr 1; omega
        · cases hrecv
    · simp at hok1
  | false =>
    simp only [Bool.false_eq_true, if_false, Bool.and_eq_true, decide_eq_true_eq] at hok2
    obtain ⟨c1, c3⟩ := hok2
    have htg := nb c1
    rcases k7 with ⟨-, k7⟩ | ⟨z, -⟩
    · rcases hok1 with hok1 | hok1
      · have hl := mT_use hok1 hmdx
        exact x_callS hcs k2 hl k7 k1 ⟨k4.1, k4.2, by rw [c3, hlen]⟩ k6 hcat hdg w1
      · obtain ⟨⟨n1, n2⟩, -⟩ := hok1
        have hy : yn = y_has := by simpa using n2
        subst hy
        obtain ⟨e, he1, he2⟩ := List.any_eq_true.mp n1
        simp only [Bool.and_eq_true, decide_eq_true_eq] at he2
        have he3 := nb he2.2
        have he4 : (ownS ow, idx) ∈ nestW := by
          obtain ⟨e1, e2⟩ := e
          dsimp only at he2 he3
          rw [← he2.1, ← he3]; exact he1
        exact x_callSN hcs k2 he4 k7 k1 ⟨k4.1, k4.2, by rw [c3, hlen]⟩ k6 hcat hdg w1
    · exact absurd htg z
theorem gf_ok {x y : Nat} {q : Ref3} (hclo : Clo w) (hm : MOK w M) (hq : q ∈ w) (hqx : q.1 = x) (hx : x < 13) (hy : y < clN x) : VOK w (gf x y q M) := by
  subst hqx
  have h4 := fk_le q.1 hx y hy
  unfold gf
  generalize hz : fk q.1 y = z at h4
  match z, h4, hz with
  | 0, _, _ => trivial
  | 1, _, _ => trivial
  | 2, _, hz => exact Or.inl (hclo.1 q hq hx y hy hz)
  | 3, _, hz => exact Or.inl (hm.1 q hq hx y hy hz)
  | 4, _, _ => trivial
theorem nar_byte_eq {v : Int32} : narrow .byte (.int v) = .int (vp_nar .byte v) := rfl
theorem nar_char_eq {v : Int32} : narrow .char (.int v) = .int (vp_nar .char v) := rfl
theorem MOK_sR24 {v q : Ref3} {i : Nat} (hwt : WT w) (hm : MOK w M) (hv : v ∈ w) (h6 : v.1 = 6) (h0 : v.2.1 = 0) (hq : q.1 = 24) (hqw : q ∈ w) : MOK w (sR M q.2.2 i v.2.2) := by
  refine ⟨fun q' h1 h2 j h3 h4 => ?_, fun q' h1 h2 j h3 => ?_⟩
  · by_cases e : q'.2.2 = q.2.2
    · rw [hwt.2 q' h1 q hqw e] at h2; omega
    · simp only [sR, e, false_and, if_false]; exact hm.1 q' h1 h2 j h3 h4
  · by_cases e : q'.2.2 = q.2.2 ∧ j = i
    · simp only [sR, if_pos e]; have : v = (6, 0, v.2.2) := by obtain ⟨a, b, c⟩ := v; simp at h6 h0 ⊢; exact ⟨h6, h0⟩
      rw [← this]; exact hv
    · simp only [sR, if_neg e]; exact hm.2 q' h1 h2 j h3
theorem fk3 : ∀ x, x < 13 → ∀ y, y < clN x → fk x y = 3 → (x = 2 ∧ y = 4) := by decide +kernel
theorem fm_lt : ∀ x, x < 13 → ∀ y, y < clN x → fk x y = 3 → (fm x y).1 < 13 := by decide +kernel
theorem MOK_sRf {v x y : Nat} {q : Ref3} (hwt : WT w) (hm : MOK w M) (hqw : q ∈ w) (hqx : q.1 = x) (hx : x < 13) (hy : y < clN x) (hf : fk x y = 3) (hv : (((fm x y).1, (fm x y).2, v) : Ref3) ∈ w) : MOK w (sR M q.2.2 y v) := by
  refine ⟨fun q' h1 h2 j h3 h4 => ?_, fun q' h1 h2 j h3 => ?_⟩
  · by_cases e : q'.2.2 = q.2.2 ∧ j = y
    · simp only [sR, if_pos e]; rw [hwt.2 q' h1 q hqw e.1, hqx, e.2]; exact hv
    · simp only [sR, if_neg e]; exact hm.1 q' h1 h2 j h3 h4
  · by_cases e : q'.2.2 = q.2.2
    · rw [hwt.2 q' h1 q hqw e] at h2; omega
    · simp only [sR, e, false_and, if_false]; exact hm.2 q' h1 h2 j h3
theorem bool_fits {v : Int32} (h : v &&& 1 = v) : fits .boolean (.int v) = true := by
  rw [pk_and v (m := 1) 1 rfl] at h
  have : v.toBitVec.toNat % 2 ^ 1 = 0 ∨ v.toBitVec.toNat % 2 ^ 1 = 1 := by omega
  rcases this with e | e
  · rw [e] at h; rw [← h]; rfl
  · rw [e] at h; rw [← h]; rfl
theorem cp_sound {ow idx nL : Nat} {cc : ByteArray} {ret : Option FieldType} (hok : (acT.any fun q => Nat.beq q.1 ow && Nat.beq q.2.1 idx) = true) (hdg : decode cc pc = .ok (.invokestatic idx, 3))
    (hk : ∀ st' M', k (pc + 3) lv st' M' = some r → VOKs w st' → MOK w M' → WQ w (ownS ow) cc nL ret (d + 1) (pc + 3) lv st' M' r)
    (h : cpK k (pc + 3) lv st M = some r) (hvs : VOKs w st) (hm : MOK w M) : WQ w (ownS ow) cc nL ret (d + 1) pc lv st M r := by
  unfold cpK at h
  split at h
  case h_2 => cases h
  rename_i n dp b sp a st'
  unfold ic at h
  split at h
  · cases h
  rename_i hb
  have hv1 := VOKs_cons.mp (VOKs_cons.mp (VOKs_cons.mp hvs).2).2
  have hv2 := VOKs_cons.mp (VOKs_cons.mp hv1.2).2
  have hl := acT_use hok
  obtain ⟨w1, w2, w3⟩ := ac_words
  simp only [not_or, Nat.not_lt] at hb
  obtain ⟨b1, b2, b3, b4, b5⟩ := hb
  split at h
  · rename_i hc ha hb'
    obtain ⟨h1, h2⟩ := hk _ _ h hv2.2 (MOK_cpI hm)
    exact ⟨x_cpI (VOK_in hv2.1 (by omega)) (VOK_in hv1.1 (by omega)) ha hb' b1 b2 b3 b4 b5 (Nat.le_of_ble_eq_true hc) hl w1 w2 w3 hdg h1, h2⟩
  · rename_i hc ha hb'
    obtain ⟨h1, h2⟩ := hk _ _ h hv2.2 (MOK_cpJ hm)
    exact ⟨x_cpJ (VOK_in hv2.1 (by omega)) (VOK_in hv1.1 (by omega)) ha hb' b1 b2 b3 b4 b5 (Nat.le_of_ble_eq_true hc) hl w1 w2 w3 hdg h1, h2⟩
  · cases h
theorem pf_sound {ow idx x y nL : Nat} {cc : ByteArray} {ret : Option FieldType} (hwt : WT w) (hx : x < 13) (hf : (fT.any fun q => Nat.beq q.1 ow && Nat.beq q.2.1 idx && Nat.beq q.2.2.1 x && Nat.beq q.2.2.2.1 y) = true) (hdg : decode cc pc = .ok (.putfield idx, 3))
    (hk : ∀ st' M', k (pc + 3) lv st' M' = some r → VOKs w st' → MOK w M' → WQ w (ownS ow) cc nL ret (d + 1) (pc + 3) lv st' M' r)
    (h : pfK k (pc + 3) x y lv st M = some r) (hvs : VOKs w st) (hm : MOK w M) : WQ w (ownS ow) cc nL ret (d + 1) pc lv st M r := by
  rcases fT_use hf with ⟨e1, -, -⟩ | ⟨e1, -, -⟩ | ⟨-, e2, e3⟩
  · omega
  · omega
  unfold pfK at h
  split at h
  case h_2 => cases h
  rename_i v q st'
  have hv := VOKs_cons.mp hvs
  have hv2 := VOKs_cons.mp hv.2
  split at h
  case h_2 => cases h
  rename_i hqx
  have hqx := nb hqx
  have hq : q ∈ w := VOK_in hv2.1 (by omega)
  split at h
  · rename_i v hfk
    obtain ⟨h1, h2⟩ := hk _ _ h hv2.2 (MOK_sI hm)
    exact ⟨x_put hx e2 hq hqx (by omega) (fun ρ => by rw [ct_int x hx y e2 hfk]; exact ⟨rfl, rfl⟩) (fun ρ => by simp [fv, hfk, sI, cv]) (fun ρ i hi => by simp [fv, sI, hi]) (fun ρ cA q' hne => ce_sI_ne hne) e3 hdg h1, h2⟩
  · rename_i v hfk
    unfold ic at h
    split at h
    · rename_i hn
      obtain ⟨h1, h2⟩ := hk _ _ h hv2.2 (MOK_sI hm)
      exact ⟨x_put hx e2 hq hqx (by omega) (fun ρ => by rw [ct_bool x hx y e2 hfk]; exact ⟨by show Value.int (v &&& 1) = _; rw [hn]; rfl, bool_fits hn⟩) (fun ρ => by simp [fv, hfk, sI, cv]) (fun ρ i hi => by simp [fv, sI, hi]) (fun ρ cA q' hne => ce_sI_ne hne) e3 hdg h1, h2⟩
    · cases h
  · rename_i v hfk
    obtain ⟨h1, h2⟩ := hk _ _ h hv2.2 (MOK_sJ hm)
    exact ⟨x_put hx e2 hq hqx (by omega) (fun ρ => by rw [ct_long x hx y e2 hfk]; exact ⟨rfl, rfl⟩) (fun ρ => by simp [fv, hfk, sJ, cv]) (fun ρ i hi => by simp [fv, sJ, hi]) (fun ρ cA q' hne => ce_sJ_ne hne) e3 hdg h1, h2⟩
  · rename_i v hfk
    split at h
    · rename_i g1 g2
      have g1 := nb g1; have g2 := nb g2
      obtain ⟨h1, h2⟩ := hk _ _ h hv2.2 (MOK_sRf hwt hm hq hqx hx e2 hfk (by
        have := fm_lt x hx y e2 hfk
        have hvw := VOK_in hv.1 (by omega)
        rw [← g1, ← g2]; exact hvw))
      have hv50 : v.1 ≠ 50 := by rw [g1]; exact fm_t x y
      exact ⟨x_put hx e2 hq hqx (by omega) (fun ρ => by rw [cv_t hv50]; exact ct_ref x hx y e2 hfk _) (fun ρ => by rw [cv_t hv50]; simp [fv, hfk, sR]) (fun ρ i hi => by simp [fv, sR, hi]) (fun ρ cA q' hne => ce_sR_ne hne) e3 hdg h1, h2⟩
    · cases h
  · cases h
theorem stepK_sound (hclo : Clo w) (hwt : WT w) (hmd : ∀ x md, mdT x = some md → MDk md) {md : MD} {e : Ent} (hok : okE md pc e = true)
    (hcall : ∀ x as M r', call x as M = some r' → VOKs w as → MOK w M → ∃ md, mdT x = some md ∧ recvOK md.2.2.2.2.2 as = true ∧ CSem w md.1 md.2.1 md.2.2.1 md.2.2.2.1 d as M r' ∧ ROK w r')
    (hback : ∀ pc' lv' M', back pc' lv' M' = some r → VOKl w lv' → MOK w M' → WQ w (ownS md.2.2.2.2.1) md.2.1 md.2.2.1 md.2.2.2.1 (d + 1) pc' lv' [] M' r)
    (hk : ∀ pc' lv' st' M', k pc' lv' st' M' = some r → VOKl w lv' → VOKs w st' → MOK w M' → WQ w (ownS md.2.2.2.2.1) md.2.1 md.2.2.1 md.2.2.2.1 (d + 1) pc' lv' st' M' r)
    (h : stepK call back k e pc lv st M = some r) (hvl : VOKl w lv) (hvs : VOKs w st) (hm : MOK w M) : WQ w (ownS md.2.2.2.2.1) md.2.1 md.2.2.1 md.2.2.2.1 (d + 1) pc lv st M r := by
  obtain ⟨yn, cc, nL, ret, ow, tg⟩ := md
  obtain ⟨i, len, x, y, z, cI, cJ⟩ := e
  simp only [okE, Bool.and_eq_true, decide_eq_true_eq] at hok
  obtain ⟨hdg, hok⟩ := hok
  dsimp only at hback hk ⊢
  cases i
  case iconst n =>
    simp only [okI, Bool.and_eq_true, decide_eq_true_eq] at hok
    obtain ⟨hv, hl⟩ := hok
    have hl := nb hl; subst hl; subst hv
    obtain ⟨h1, h2⟩ := hk _ _ _ _ h hvl (VOKs_cons.mpr ⟨trivial, hvs⟩) hm
    exact ⟨x_int (fun hx hb _ _ kk => lv_iconst hx hb hdg rfl kk) h1, h2⟩
  case bipush n =>
    simp only [okI, Bool.and_eq_true, decide_eq_true_eq] at hok
    obtain ⟨hv, hl⟩ := hok
    have hl := nb hl; subst hl; subst hv
    obtain ⟨h1, h2⟩ := hk _ _ _ _ h hvl (VOKs_cons.mpr ⟨trivial, hvs⟩) hm
    exact ⟨x_int (fun hx hb _ _ kk => lv_bipush hx hb hdg rfl kk) h1, h2⟩
  case sipush n =>
    simp only [okI, Bool.and_eq_true, decide_eq_true_eq] at hok
    obtain ⟨hv, hl⟩ := hok
    have hl := nb hl; subst hl; subst hv
    obtain ⟨h1, h2⟩ := hk _ _ _ _ h hvl (VOKs_cons.mpr ⟨trivial, hvs⟩) hm
    exact ⟨x_int (fun hx hb _ _ kk => lv_sipush hx hb hdg rfl kk) h1, h2⟩
  case ldc n =>
    simp only [okI, Bool.and_eq_true, decide_eq_true_eq] at hok
    obtain ⟨hl, hok⟩ := hok
    have hl := nb hl; subst hl
    simp only [stepK] at h
    split at h
    · have hc := cT_use hok
      obtain ⟨h1, h2⟩ := hk _ _ _ _ h hvl (VOKs_cons.mpr ⟨trivial, hvs⟩) hm
      exact ⟨x_int (fun hx hb ho ht kk => W.ldc hx hb ho (ht _ hc) rfl hdg kk) h1, h2⟩
    · split at hok
      · rename_i hz; exact absurd rfl hz
      · simp only [Bool.and_eq_true] at hok
        obtain ⟨tx, hs⟩ := sT_use hok.2
        have hy := nl hok.1
        obtain ⟨h1, h2⟩ := hk _ _ _ _ h hvl (VOKs_cons.mpr ⟨Or.inr (Or.inl ⟨y, hy, rfl⟩), hvs⟩) hm
        exact ⟨x_ldcs hs hdg h1, h2⟩
  case ldc_w n =>
    simp only [okI, Bool.and_eq_true, decide_eq_true_eq] at hok
    obtain ⟨hl, hok⟩ := hok
    have hl := nb hl; subst hl
    have hc := cT_use hok
    obtain ⟨h1, h2⟩ := hk _ _ _ _ h hvl (VOKs_cons.mpr ⟨trivial, hvs⟩) hm
    exact ⟨x_int (fun hx hb ho ht kk => by
      intro T hT X
      obtain ⟨t, a1, b1⟩ := kk T hT X
      exact ⟨t, va_ldcwI X hx ho (ht _ hc) rfl (by rw [hb]; exact hdg) t a1, b1⟩) h1, h2⟩
  case ldc2_w n =>
    simp only [okI, Bool.and_eq_true, decide_eq_true_eq] at hok
    obtain ⟨hl, hok⟩ := hok
    have hl := nb hl; subst hl
    have hc := lT_use hok
    obtain ⟨h1, h2⟩ := hk _ _ _ _ h hvl (VOKs_cons.mpr ⟨trivial, hvs⟩) hm
    exact ⟨x_long (fun hx hb ho ht kk => W.ldc2 hx hb ho (ht _ hc) rfl hdg kk) h1, h2⟩
  case lconst n =>
    simp only [okI, Bool.and_eq_true, decide_eq_true_eq] at hok
    obtain ⟨hv, hl⟩ := hok
    have hl := nb hl; subst hl; subst hv
    obtain ⟨h1, h2⟩ := hk _ _ _ _ h hvl (VOKs_cons.mpr ⟨trivial, hvs⟩) hm
    exact ⟨x_long (fun hx hb _ _ kk => lv_lconst hx hb hdg rfl kk) h1, h2⟩
  case getstatic n =>
    simp only [okI, Bool.and_eq_true, decide_eq_true_eq] at hok
    obtain ⟨hl, hok⟩ := hok
    have hl := nb hl; subst hl
    simp only [stepK] at h
    rcases gT_use hok with ⟨hz, hg⟩ | ⟨hz, hg⟩
    · subst hz
      obtain ⟨h1, h2⟩ := hk _ _ _ _ h hvl (VOKs_cons.mpr ⟨trivial, hvs⟩) hm
      exact ⟨x_stat1 hg hdg h1, h2⟩
    · split at h
      · exact absurd rfl hz
      · obtain ⟨h1, h2⟩ := hk _ _ _ _ h hvl (VOKs_cons.mpr ⟨Or.inr (Or.inr (Or.inr rfl)), hvs⟩) hm
        exact ⟨x_stat2 hg hdg h1, h2⟩
  case iload_n n =>
    simp only [okI, Bool.and_eq_true, decide_eq_true_eq] at hok
    obtain ⟨hl, hn⟩ := hok
    have hl := nb hl; subst hl
    have hn := nb hn
    simp only [stepK] at h
    split at h
    · rename_i v hlv
      obtain ⟨h1, h2⟩ := hk _ _ _ _ h hvl (VOKs_cons.mpr ⟨hvl _ _ hlv, hvs⟩) hm
      exact ⟨x_ld hlv (fun hx hb hv kk => lv_iload_n hx hb hdg hn hv kk) h1, h2⟩
    · cases h
  case iload n =>
    simp only [okI, Bool.and_eq_true, decide_eq_true_eq] at hok
    obtain ⟨hl, hn⟩ := hok
    have hl := nb hl; subst hl
    have hn := nb hn
    subst hn
    simp only [stepK] at h
    split at h
    · rename_i v hlv
      obtain ⟨h1, h2⟩ := hk _ _ _ _ h hvl (VOKs_cons.mpr ⟨hvl _ _ hlv, hvs⟩) hm
      exact ⟨x_ld hlv (fun hx hb hv kk => lv_iload hx hb hdg hv kk) h1, h2⟩
    · cases h
  case lload_n n =>
    simp only [okI, Bool.and_eq_true, decide_eq_true_eq] at hok
    obtain ⟨hl, hn⟩ := hok
    have hl := nb hl; subst hl
    have hn := nb hn
    simp only [stepK] at h
    split at h
    · rename_i v hlv
      obtain ⟨h1, h2⟩ := hk _ _ _ _ h hvl (VOKs_cons.mpr ⟨hvl _ _ hlv, hvs⟩) hm
      exact ⟨x_ld hlv (fun hx hb hv kk => lv_lload_n hx hb hdg hn hv kk) h1, h2⟩
    · cases h
  case lload n =>
    simp only [okI, Bool.and_eq_true, decide_eq_true_eq] at hok
    obtain ⟨hl, hn⟩ := hok
    have hl := nb hl; subst hl
    have hn := nb hn
    subst hn
    simp only [stepK] at h
    split at h
    · rename_i v hlv
      obtain ⟨h1, h2⟩ := hk _ _ _ _ h hvl (VOKs_cons.mpr ⟨hvl _ _ hlv, hvs⟩) hm
      exact ⟨x_ld hlv (fun hx hb hv kk => lv_lload hx hb hdg hv kk) h1, h2⟩
    · cases h
  case aload_n n =>
    simp only [okI, Bool.and_eq_true, decide_eq_true_eq] at hok
    obtain ⟨hl, hn⟩ := hok
    have hl := nb hl; subst hl
    have hn := nb hn
    simp only [stepK] at h
    split at h
    · rename_i v hlv
      obtain ⟨h1, h2⟩ := hk _ _ _ _ h hvl (VOKs_cons.mpr ⟨hvl _ _ hlv, hvs⟩) hm
      exact ⟨x_ld hlv (fun hx hb hv kk => xr_aload_n hx hb (cv_nr _ _) hdg hn hv kk) h1, h2⟩
    · cases h
  case aload n =>
    simp only [okI, Bool.and_eq_true, decide_eq_true_eq] at hok
    obtain ⟨hl, hn⟩ := hok
    have hl := nb hl; subst hl
    have hn := nb hn
    subst hn
    simp only [stepK] at h
    split at h
    · rename_i v hlv
      obtain ⟨h1, h2⟩ := hk _ _ _ _ h hvl (VOKs_cons.mpr ⟨hvl _ _ hlv, hvs⟩) hm
      exact ⟨x_ld hlv (fun hx hb hv kk => xr_aload hx hb (cv_nr _ _) hdg hv kk) h1, h2⟩
    · cases h
  case istore_n n =>
    simp only [okI, Bool.and_eq_true, decide_eq_true_eq] at hok
    obtain ⟨⟨hl, hn⟩, hlt⟩ := hok
    have hl := nb hl; subst hl
    have hn := nb hn
    have hlt := nl hlt
    simp only [stepK] at h
    split at h
    · rename_i v st'
      have hv := VOKs_cons.mp hvs
      obtain ⟨h1, h2⟩ := hk _ _ _ _ h (VOKl_stl hvl hv.1) hv.2 hm
      refine ⟨?_, h2⟩
      intro p l e s m args below meth c dC dI cA ρ A H locs ls hB hK hP hD hS hlv
      obtain ⟨l0, g1, g2⟩ := id hlv
      exact lv_istore_n hB.1 hB.2.1 hdg hn g1 hlt rfl (fun ls' hl' => h1 p l e s m args below meth c dC dI cA ρ A H locs ls' hB hK hP hD hS (lvOK_stl (ls := ls) g2 hl'))
    · cases h
  case istore n =>
    simp only [okI, Bool.and_eq_true, decide_eq_true_eq] at hok
    obtain ⟨⟨hl, hn⟩, hlt⟩ := hok
    have hl := nb hl; subst hl
    have hn := nb hn
    have hlt := nl hlt
    subst hn
    simp only [stepK] at h
    split at h
    · rename_i v st'
      have hv := VOKs_cons.mp hvs
      obtain ⟨h1, h2⟩ := hk _ _ _ _ h (VOKl_stl hvl hv.1) hv.2 hm
      refine ⟨?_, h2⟩
      intro p l e s m args below meth c dC dI cA ρ A H locs ls hB hK hP hD hS hlv
      obtain ⟨l0, g1, g2⟩ := id hlv
      exact lv_istore hB.1 hB.2.1 hdg g1 hlt rfl (fun ls' hl' => h1 p l e s m args below meth c dC dI cA ρ A H locs ls' hB hK hP hD hS (lvOK_stl (ls := ls) g2 hl'))
    · cases h
  case astore_n n =>
    simp only [okI, Bool.and_eq_true, decide_eq_true_eq] at hok
    obtain ⟨⟨hl, hn⟩, hlt⟩ := hok
    have hl := nb hl; subst hl
    have hn := nb hn
    have hlt := nl hlt
    simp only [stepK] at h
    split at h
    · rename_i v st'
      have hv := VOKs_cons.mp hvs
      obtain ⟨h1, h2⟩ := hk _ _ _ _ h (VOKl_stl hvl hv.1) hv.2 hm
      refine ⟨?_, h2⟩
      intro p l e s m args below meth c dC dI cA ρ A H locs ls hB hK hP hD hS hlv
      obtain ⟨l0, g1, g2⟩ := id hlv
      exact xr_astore_n hB.1 hB.2.1 (cv_nr ρ v) hdg hn g1 hlt rfl (fun ls' hl' => h1 p l e s m args below meth c dC dI cA ρ A H locs ls' hB hK hP hD hS (lvOK_stl (ls := ls) g2 hl'))
    · cases h
  case astore n =>
    simp only [okI, Bool.and_eq_true, decide_eq_true_eq] at hok
    obtain ⟨⟨hl, hn⟩, hlt⟩ := hok
    have hl := nb hl; subst hl
    have hn := nb hn
    have hlt := nl hlt
    subst hn
    simp only [stepK] at h
    split at h
    · rename_i v st'
      have hv := VOKs_cons.mp hvs
      obtain ⟨h1, h2⟩ := hk _ _ _ _ h (VOKl_stl hvl hv.1) hv.2 hm
      refine ⟨?_, h2⟩
      intro p l e s m args below meth c dC dI cA ρ A H locs ls hB hK hP hD hS hlv
      obtain ⟨l0, g1, g2⟩ := id hlv
      exact xr_astore hB.1 hB.2.1 (cv_nr ρ v) hdg g1 hlt rfl (fun ls' hl' => h1 p l e s m args below meth c dC dI cA ρ A H locs ls' hB hK hP hD hS (lvOK_stl (ls := ls) g2 hl'))
    · cases h
  case lstore_n n =>
    simp only [okI, Bool.and_eq_true, decide_eq_true_eq] at hok
    obtain ⟨⟨hl, hn⟩, hlt⟩ := hok
    have hl := nb hl; subst hl
    have hn := nb hn
    have hlt := nl hlt
    simp only [stepK] at h
    split at h
    · rename_i v st'
      have hv := VOKs_cons.mp hvs
      obtain ⟨h1, h2⟩ := hk _ _ _ _ h (VOKl_stl2 hvl hv.1) hv.2 hm
      refine ⟨?_, h2⟩
      intro p l e s m args below meth c dC dI cA ρ A H locs ls hB hK hP hD hS hlv
      obtain ⟨l0, g1, g2⟩ := id hlv
      exact lv_lstore_n hB.1 hB.2.1 hdg hn g1 hlt rfl (fun ls' hl' => h1 p l e s m args below meth c dC dI cA ρ A H locs ls' hB hK hP hD hS (lvOK_stl2 (ls := ls) g2 hl'))
    · cases h
  case lstore n =>
    simp only [okI, Bool.and_eq_true, decide_eq_true_eq] at hok
    obtain ⟨⟨hl, hn⟩, hlt⟩ := hok
    have hl := nb hl; subst hl
    have hn := nb hn
    have hlt := nl hlt
    subst hn
    simp only [stepK] at h
    split at h
    · rename_i v st'
      have hv := VOKs_cons.mp hvs
      obtain ⟨h1, h2⟩ := hk _ _ _ _ h (VOKl_stl2 hvl hv.1) hv.2 hm
      refine ⟨?_, h2⟩
      intro p l e s m args below meth c dC dI cA ρ A H locs ls hB hK hP hD hS hlv
      obtain ⟨l0, g1, g2⟩ := id hlv
      exact lv_lstore hB.1 hB.2.1 hdg g1 hlt rfl (fun ls' hl' => h1 p l e s m args below meth c dC dI cA ρ A H locs ls' hB hK hP hD hS (lvOK_stl2 (ls := ls) g2 hl'))
    · cases h
  case iinc n c0 =>
    simp only [okI, Bool.and_eq_true, decide_eq_true_eq] at hok
    obtain ⟨⟨⟨hl, hn⟩, hlt⟩, hc⟩ := hok
    have hl := nb hl; subst hl
    have hn := nb hn; subst hn
    have hlt := nl hlt
    simp only [stepK] at h
    split at h
    · rename_i v hlv0
      obtain ⟨h1, h2⟩ := hk _ _ _ _ h (VOKl_stl hvl trivial) hvs hm
      refine ⟨?_, h2⟩
      intro p l e s m args below meth c dC dI cA ρ A H locs ls hB hK hP hD hS hlv
      obtain ⟨l0, g1, g2⟩ := id hlv
      obtain ⟨j, hj⟩ := List.getElem?_of_mem (g2 _ _ hlv0)
      exact lv_iinc (v := v + cI) hB.1 hB.2.1 hdg g1 hj (by rw [hc]) hlt rfl (fun ls' hl' => h1 p l e s m args below meth c dC dI cA ρ A H locs ls' hB hK hP hD hS (lvOK_stl (ls := ls) (v := .inl (v + cI)) g2 hl'))
    · cases h
  case iadd =>
    simp only [okI, Bool.and_eq_true, decide_eq_true_eq] at hok
    have hl := nb hok; subst hl
    obtain ⟨a, b, st', e1, e2⟩ := ib_some h
    subst e1
    have hv := (VOKs_cons.mp (VOKs_cons.mp hvs).2).2
    obtain ⟨h1, h2⟩ := hk _ _ _ _ e2 hvl (VOKs_cons.mpr ⟨trivial, hv⟩) hm
    exact ⟨x_st (fun hx hb kk => lv_iadd hx hb hdg kk) h1, h2⟩
  case isub =>
    simp only [okI, Bool.and_eq_true, decide_eq_true_eq] at hok
    have hl := nb hok; subst hl
    obtain ⟨a, b, st', e1, e2⟩ := ib_some h
    subst e1
    have hv := (VOKs_cons.mp (VOKs_cons.mp hvs).2).2
    obtain ⟨h1, h2⟩ := hk _ _ _ _ e2 hvl (VOKs_cons.mpr ⟨trivial, hv⟩) hm
    exact ⟨x_st (fun hx hb kk => lv_isub hx hb hdg kk) h1, h2⟩
  case imul =>
    simp only [okI, Bool.and_eq_true, decide_eq_true_eq] at hok
    have hl := nb hok; subst hl
    obtain ⟨a, b, st', e1, e2⟩ := ib_some h
    subst e1
    have hv := (VOKs_cons.mp (VOKs_cons.mp hvs).2).2
    obtain ⟨h1, h2⟩ := hk _ _ _ _ e2 hvl (VOKs_cons.mpr ⟨trivial, hv⟩) hm
    exact ⟨x_st (fun hx hb kk => lv_imul hx hb hdg kk) h1, h2⟩
  case iand =>
    simp only [okI, Bool.and_eq_true, decide_eq_true_eq] at hok
    have hl := nb hok; subst hl
    obtain ⟨a, b, st', e1, e2⟩ := ib_some h
    subst e1
    have hv := (VOKs_cons.mp (VOKs_cons.mp hvs).2).2
    obtain ⟨h1, h2⟩ := hk _ _ _ _ e2 hvl (VOKs_cons.mpr ⟨trivial, hv⟩) hm
    exact ⟨x_st (fun hx hb kk => lv_iand hx hb hdg kk) h1, h2⟩
  case ior =>
    simp only [okI, Bool.and_eq_true, decide_eq_true_eq] at hok
    have hl := nb hok; subst hl
    obtain ⟨a, b, st', e1, e2⟩ := ib_some h
    subst e1
    have hv := (VOKs_cons.mp (VOKs_cons.mp hvs).2).2
    obtain ⟨h1, h2⟩ := hk _ _ _ _ e2 hvl (VOKs_cons.mpr ⟨trivial, hv⟩) hm
    exact ⟨x_st (fun hx hb kk => lv_ior hx hb hdg kk) h1, h2⟩
  case ixor =>
    simp only [okI, Bool.and_eq_true, decide_eq_true_eq] at hok
    have hl := nb hok; subst hl
    obtain ⟨a, b, st', e1, e2⟩ := ib_some h
    subst e1
    have hv := (VOKs_cons.mp (VOKs_cons.mp hvs).2).2
    obtain ⟨h1, h2⟩ := hk _ _ _ _ e2 hvl (VOKs_cons.mpr ⟨trivial, hv⟩) hm
    exact ⟨x_st (fun hx hb kk => lv_ixor hx hb hdg kk) h1, h2⟩
  case ishl =>
    simp only [okI, Bool.and_eq_true, decide_eq_true_eq] at hok
    have hl := nb hok; subst hl
    obtain ⟨a, b, st', e1, e2⟩ := ib_some h
    subst e1
    have hv := (VOKs_cons.mp (VOKs_cons.mp hvs).2).2
    obtain ⟨h1, h2⟩ := hk _ _ _ _ e2 hvl (VOKs_cons.mpr ⟨trivial, hv⟩) hm
    exact ⟨x_st (fun hx hb kk => lv_ishl hx hb hdg kk) h1, h2⟩
  case ishr =>
    simp only [okI, Bool.and_eq_true, decide_eq_true_eq] at hok
    have hl := nb hok; subst hl
    obtain ⟨a, b, st', e1, e2⟩ := ib_some h
    subst e1
    have hv := (VOKs_cons.mp (VOKs_cons.mp hvs).2).2
    obtain ⟨h1, h2⟩ := hk _ _ _ _ e2 hvl (VOKs_cons.mpr ⟨trivial, hv⟩) hm
    exact ⟨x_st (fun hx hb kk => lv_ishr hx hb hdg kk) h1, h2⟩
  case iushr =>
    simp only [okI, Bool.and_eq_true, decide_eq_true_eq] at hok
    have hl := nb hok; subst hl
    obtain ⟨a, b, st', e1, e2⟩ := ib_some h
    subst e1
    have hv := (VOKs_cons.mp (VOKs_cons.mp hvs).2).2
    obtain ⟨h1, h2⟩ := hk _ _ _ _ e2 hvl (VOKs_cons.mpr ⟨trivial, hv⟩) hm
    exact ⟨x_st (fun hx hb kk => lv_iushr hx hb hdg rfl kk) h1, h2⟩
  case ladd =>
    simp only [okI, Bool.and_eq_true, decide_eq_true_eq] at hok
    have hl := nb hok; subst hl
    obtain ⟨a, b, st', e1, e2⟩ := jb_some h
    subst e1
    have hv := (VOKs_cons.mp (VOKs_cons.mp hvs).2).2
    obtain ⟨h1, h2⟩ := hk _ _ _ _ e2 hvl (VOKs_cons.mpr ⟨trivial, hv⟩) hm
    exact ⟨x_st (fun hx hb kk => lv_ladd hx hb hdg kk) h1, h2⟩
  case lsub =>
    simp only [okI, Bool.and_eq_true, decide_eq_true_eq] at hok
    have hl := nb hok; subst hl
    obtain ⟨a, b, st', e1, e2⟩ := jb_some h
    subst e1
    have hv := (VOKs_cons.mp (VOKs_cons.mp hvs).2).2
    obtain ⟨h1, h2⟩ := hk _ _ _ _ e2 hvl (VOKs_cons.mpr ⟨trivial, hv⟩) hm
    exact ⟨x_st (fun hx hb kk => lv_lsub hx hb hdg kk) h1, h2⟩
  case lmul =>
    simp only [okI, Bool.and_eq_true, decide_eq_true_eq] at hok
    have hl := nb hok; subst hl
    obtain ⟨a, b, st', e1, e2⟩ := jb_some h
    subst e1
    have hv := (VOKs_cons.mp (VOKs_cons.mp hvs).2).2
    obtain ⟨h1, h2⟩ := hk _ _ _ _ e2 hvl (VOKs_cons.mpr ⟨trivial, hv⟩) hm
    exact ⟨x_st (fun hx hb kk => lv_lmul hx hb hdg kk) h1, h2⟩
  case land =>
    simp only [okI, Bool.and_eq_true, decide_eq_true_eq] at hok
    have hl := nb hok; subst hl
    obtain ⟨a, b, st', e1, e2⟩ := jb_some h
    subst e1
    have hv := (VOKs_cons.mp (VOKs_cons.mp hvs).2).2
    obtain ⟨h1, h2⟩ := hk _ _ _ _ e2 hvl (VOKs_cons.mpr ⟨trivial, hv⟩) hm
    exact ⟨x_st (fun hx hb kk => lv_land hx hb hdg kk) h1, h2⟩
  case lor =>
    simp only [okI, Bool.and_eq_true, decide_eq_true_eq] at hok
    have hl := nb hok; subst hl
    obtain ⟨a, b, st', e1, e2⟩ := jb_some h
    subst e1
    have hv := (VOKs_cons.mp (VOKs_cons.mp hvs).2).2
    obtain ⟨h1, h2⟩ := hk _ _ _ _ e2 hvl (VOKs_cons.mpr ⟨trivial, hv⟩) hm
    exact ⟨x_st (fun hx hb kk => lv_lor hx hb hdg kk) h1, h2⟩
  case idiv =>
    simp only [okI, Bool.and_eq_true, decide_eq_true_eq] at hok
    have hl := nb hok; subst hl
    simp only [stepK] at h
    split at h
    · unfold ic at h; split at h
      · cases h
      · rename_i hne
        have hv := (VOKs_cons.mp (VOKs_cons.mp hvs).2).2
        obtain ⟨h1, h2⟩ := hk _ _ _ _ h hvl (VOKs_cons.mpr ⟨trivial, hv⟩) hm
        exact ⟨x_st (fun hx hb kk => lv_idiv hx hb hdg hne kk) h1, h2⟩
    · cases h
  case irem =>
    simp only [okI, Bool.and_eq_true, decide_eq_true_eq] at hok
    have hl := nb hok; subst hl
    simp only [stepK] at h
    split at h
    · unfold ic at h; split at h
      · cases h
      · rename_i hne
        have hv := (VOKs_cons.mp (VOKs_cons.mp hvs).2).2
        obtain ⟨h1, h2⟩ := hk _ _ _ _ h hvl (VOKs_cons.mpr ⟨trivial, hv⟩) hm
        exact ⟨x_st (fun hx hb kk => lv_irem hx hb hdg hne kk) h1, h2⟩
    · cases h
  case ldiv =>
    simp only [okI, Bool.and_eq_true, decide_eq_true_eq] at hok
    have hl := nb hok; subst hl
    simp only [stepK] at h
    split at h
    · unfold ic at h; split at h
      · cases h
      · rename_i hne
        have hv := (VOKs_cons.mp (VOKs_cons.mp hvs).2).2
        obtain ⟨h1, h2⟩ := hk _ _ _ _ h hvl (VOKs_cons.mpr ⟨trivial, hv⟩) hm
        exact ⟨x_st (fun hx hb kk => lv_ldiv hx hb hdg hne kk) h1, h2⟩
    · cases h
  case lrem =>
    simp only [okI, Bool.and_eq_true, decide_eq_true_eq] at hok
    have hl := nb hok; subst hl
    simp only [stepK] at h
    split at h
    · unfold ic at h; split at h
      · cases h
      · rename_i hne
        have hv := (VOKs_cons.mp (VOKs_cons.mp hvs).2).2
        obtain ⟨h1, h2⟩ := hk _ _ _ _ h hvl (VOKs_cons.mpr ⟨trivial, hv⟩) hm
        exact ⟨x_st (fun hx hb kk => lv_lrem hx hb hdg hne kk) h1, h2⟩
    · cases h
  case ineg =>
    simp only [okI, Bool.and_eq_true, decide_eq_true_eq] at hok
    have hl := nb hok; subst hl
    simp only [stepK] at h
    split at h
    · have hv := (VOKs_cons.mp hvs).2
      obtain ⟨h1, h2⟩ := hk _ _ _ _ h hvl (VOKs_cons.mpr ⟨trivial, hv⟩) hm
      exact ⟨x_st (fun hx hb kk => lv_ineg hx hb hdg kk) h1, h2⟩
    · cases h
  case lshl =>
    simp only [okI, Bool.and_eq_true, decide_eq_true_eq] at hok
    have hl := nb hok; subst hl
    simp only [stepK] at h
    split at h
    · have hv := (VOKs_cons.mp (VOKs_cons.mp hvs).2).2
      obtain ⟨h1, h2⟩ := hk _ _ _ _ h hvl (VOKs_cons.mpr ⟨trivial, hv⟩) hm
      exact ⟨x_st (fun hx hb kk => lv_lshl hx hb hdg rfl kk) h1, h2⟩
    · cases h
  case lshr =>
    simp only [okI, Bool.and_eq_true, decide_eq_true_eq] at hok
    have hl := nb hok; subst hl
    simp only [stepK] at h
    split at h
    · have hv := (VOKs_cons.mp (VOKs_cons.mp hvs).2).2
      obtain ⟨h1, h2⟩ := hk _ _ _ _ h hvl (VOKs_cons.mpr ⟨trivial, hv⟩) hm
      exact ⟨x_st (fun hx hb kk => lv_lshr hx hb hdg rfl kk) h1, h2⟩
    · cases h
  case lushr =>
    simp only [okI, Bool.and_eq_true, decide_eq_true_eq] at hok
    have hl := nb hok; subst hl
    simp only [stepK] at h
    split at h
    · have hv := (VOKs_cons.mp (VOKs_cons.mp hvs).2).2
      obtain ⟨h1, h2⟩ := hk _ _ _ _ h hvl (VOKs_cons.mpr ⟨trivial, hv⟩) hm
      exact ⟨x_st (fun hx hb kk => lv_lushr hx hb hdg rfl kk) h1, h2⟩
    · cases h
  case lcmp =>
    simp only [okI, Bool.and_eq_true, decide_eq_true_eq] at hok
    have hl := nb hok; subst hl
    simp only [stepK] at h
    split at h
    · have hv := (VOKs_cons.mp (VOKs_cons.mp hvs).2).2
      obtain ⟨h1, h2⟩ := hk _ _ _ _ h hvl (VOKs_cons.mpr ⟨trivial, hv⟩) hm
      exact ⟨x_st (fun hx hb kk => W.lcmp hx hb hdg kk) h1, h2⟩
    · cases h
  case i2l =>
    simp only [okI, Bool.and_eq_true, decide_eq_true_eq] at hok
    have hl := nb hok; subst hl
    simp only [stepK] at h
    split at h
    · have hv := (VOKs_cons.mp hvs).2
      obtain ⟨h1, h2⟩ := hk _ _ _ _ h hvl (VOKs_cons.mpr ⟨trivial, hv⟩) hm
      exact ⟨x_st (fun hx hb kk => lv_i2l hx hb hdg rfl kk) h1, h2⟩
    · cases h
  case l2i =>
    simp only [okI, Bool.and_eq_true, decide_eq_true_eq] at hok
    have hl := nb hok; subst hl
    simp only [stepK] at h
    split at h
    · have hv := (VOKs_cons.mp hvs).2
      obtain ⟨h1, h2⟩ := hk _ _ _ _ h hvl (VOKs_cons.mpr ⟨trivial, hv⟩) hm
      exact ⟨x_st (fun hx hb kk => lv_l2i hx hb hdg rfl kk) h1, h2⟩
    · cases h
  case i2c =>
    simp only [okI, Bool.and_eq_true, decide_eq_true_eq] at hok
    have hl := nb hok; subst hl
    simp only [stepK] at h
    split at h
    · have hv := (VOKs_cons.mp hvs).2
      obtain ⟨h1, h2⟩ := hk _ _ _ _ h hvl (VOKs_cons.mpr ⟨trivial, hv⟩) hm
      exact ⟨x_st (fun hx hb kk => lv_i2c hx hb hdg rfl kk) h1, h2⟩
    · cases h
  case i2b =>
    simp only [okI, Bool.and_eq_true, decide_eq_true_eq] at hok
    have hl := nb hok; subst hl
    simp only [stepK] at h
    split at h
    · have hv := (VOKs_cons.mp hvs).2
      obtain ⟨h1, h2⟩ := hk _ _ _ _ h hvl (VOKs_cons.mpr ⟨trivial, hv⟩) hm
      exact ⟨x_st (fun hx hb kk => lv_i2b hx hb hdg rfl kk) h1, h2⟩
    · cases h
  case pop =>
    simp only [okI, Bool.and_eq_true, decide_eq_true_eq] at hok
    have hl := nb hok; subst hl
    simp only [stepK] at h
    split at h
    · have hv := (VOKs_cons.mp hvs).2
      obtain ⟨h1, h2⟩ := hk _ _ _ _ h hvl (hv) hm
      exact ⟨x_st (fun hx hb kk => lv_pop hx hb hdg rfl kk) h1, h2⟩
    · cases h
  case dup =>
    simp only [okI, Bool.and_eq_true, decide_eq_true_eq] at hok
    have hl := nb hok; subst hl
    simp only [stepK] at h
    split at h
    · have hv := VOKs_cons.mp hvs
      obtain ⟨h1, h2⟩ := hk _ _ _ _ h hvl (VOKs_cons.mpr ⟨hv.1, hvs⟩) hm
      exact ⟨x_st (fun hx hb kk => lv_dup hx hb hdg rfl kk) h1, h2⟩
    · have hv := VOKs_cons.mp hvs
      obtain ⟨h1, h2⟩ := hk _ _ _ _ h hvl (VOKs_cons.mpr ⟨hv.1, hvs⟩) hm
      exact ⟨x_st (fun hx hb kk => lv_dup hx hb hdg (cv_cat _ _) kk) h1, h2⟩
    · cases h
  case dup2 =>
    simp only [okI, Bool.and_eq_true, decide_eq_true_eq] at hok
    have hl := nb hok; subst hl
    simp only [stepK] at h
    split at h
    · have hv := VOKs_cons.mp hvs
      have hv2 := VOKs_cons.mp hv.2
      obtain ⟨h1, h2⟩ := hk _ _ _ _ h hvl (VOKs_cons.mpr ⟨hv.1, VOKs_cons.mpr ⟨hv2.1, hvs⟩⟩) hm
      exact ⟨x_st (fun hx hb kk => lv_dup2_11 hx hb hdg (by first | rfl | exact cv_cat _ _) (by first | rfl | exact cv_cat _ _) kk) h1, h2⟩
    · cases h
  case ifCond c0 off =>
    simp only [okI, Bool.and_eq_true, decide_eq_true_eq] at hok
    obtain ⟨hl, ht⟩ := hok
    have hl := nb hl; subst hl
    simp only [stepK] at h
    split at h
    · have hv := (VOKs_cons.mp hvs).2
      exact ifc_sound hdg ht (fun z => jmp_sound hback hk z hvl hv hm) (fun z => hk _ _ _ _ z hvl hv hm) h
    · cases h
  case if_icmp c0 off =>
    simp only [okI, Bool.and_eq_true, decide_eq_true_eq] at hok
    obtain ⟨hl, ht⟩ := hok
    have hl := nb hl; subst hl
    simp only [stepK] at h
    split at h
    · have hv := (VOKs_cons.mp (VOKs_cons.mp hvs).2).2
      exact icmp_sound hdg ht (fun z => jmp_sound hback hk z hvl hv hm) (fun z => hk _ _ _ _ z hvl hv hm) h
    · cases h
  case goto off =>
    simp only [okI, Bool.and_eq_true, decide_eq_true_eq] at hok
    obtain ⟨hl, ht⟩ := hok
    have hl := nb hl; subst hl
    obtain ⟨h1, h2⟩ := jmp_sound hback hk h hvl hvs hm
    exact ⟨x_st (fun hx hb kk => lv_goto hx hb hdg ht kk) h1, h2⟩
  case tableswitch df lo hi os =>
    simp only [okI, Bool.and_eq_true, decide_eq_true_eq] at hok
    obtain ⟨⟨⟨⟨g1, g2⟩, g3⟩, g4⟩, g5⟩ := hok
    simp only [stepK] at h
    split at h
    · rename_i v st'
      have hv := (VOKs_cons.mp hvs).2
      rcases sw_find os.toList lo h g4 (by omega) with ⟨j, j1, j2, o, j3, j4⟩ | ⟨j1, j2⟩
      · have ho := of_decide_eq_true (List.all_eq_true.mp g2 o (List.mem_of_getElem? j3))
        obtain ⟨h1, h2⟩ := hk _ _ _ _ j4 hvl hv hm
        refine ⟨x_st (fun hx hb kk => lv_tableIn hx hb hdg (by omega) (by omega) (off := o) ?_ (by omega) kk) h1, h2⟩
        rw [show (v.toInt - lo).toNat = j by omega]
        simpa using j3
      · obtain ⟨h1, h2⟩ := hk _ _ _ _ j2 hvl hv hm
        exact ⟨x_st (fun hx hb kk => lv_tableOut hx hb hdg (by omega) (by omega) kk) h1, h2⟩
    · cases h
  case getfield idx =>
    simp only [okI, Bool.and_eq_true, decide_eq_true_eq] at hok
    obtain ⟨hl, hf⟩ := hok
    have hl := nb hl; subst hl
    simp only [stepK, gfK] at h
    split at h
    case h_2 => cases h
    rename_i q st'
    have hv := VOKs_cons.mp hvs
    split at h
    case h_2 => cases h
    rename_i hqx
    have hqx := nb hqx
    split at h
    · rename_i h40
      have h40 := nb h40
      obtain ⟨i, hi, hq⟩ := VOK_str hwt hv.1 h40
      subst hq
      rcases fT_use hf with ⟨e1, e2, e3⟩ | ⟨e1, e2, e3⟩ | ⟨e1, -, -⟩
      · subst e2
        obtain ⟨h1, h2⟩ := hk _ _ _ _ h hvl (VOKs_cons.mpr ⟨Or.inr (Or.inr (Or.inl ⟨i, hi, rfl⟩)), hv.2⟩) hm
        exact ⟨x_sval hi e3 hdg h1, h2⟩
      · subst e2
        obtain ⟨h1, h2⟩ := hk _ _ _ _ h hvl (VOKs_cons.mpr ⟨trivial, hv.2⟩) hm
        exact ⟨x_scod hi e3 hdg h1, h2⟩
      · omega
    · rename_i h40
      have h40 : q.1 ≠ 40 := fun z => by rw [z] at h40; simp at h40
      rcases fT_use hf with ⟨e1, -, -⟩ | ⟨e1, -, -⟩ | ⟨e1, e2, e3⟩
      · omega
      · omega
      · have hq : q ∈ w := VOK_in hv.1 (by omega)
        obtain ⟨h1, h2⟩ := hk _ _ _ _ h hvl (VOKs_cons.mpr ⟨gf_ok hclo hm hq hqx e1 e2, hv.2⟩) hm
        exact ⟨x_get e1 e2 hq hqx e3 hdg h1, h2⟩
  case putfield idx =>
    simp only [okI, Bool.and_eq_true, decide_eq_true_eq] at hok
    obtain ⟨⟨hl, hx13⟩, hf⟩ := hok
    have hl := nb hl; subst hl
    have hx13 := nl hx13
    simp only [stepK] at h
    exact pf_sound hwt hx13 hf hdg (fun st' M' z hv hmm => hk _ _ _ _ z hvl hv hmm) h hvs hm
  case iaload =>
    simp only [okI, Bool.and_eq_true, decide_eq_true_eq] at hok
    have hl := nb hok; subst hl
    simp only [stepK] at h
    obtain ⟨i, q, st', e1, e2, e3, e4⟩ := alK_some h
    subst e1
    have hv := VOKs_cons.mp (VOKs_cons.mp hvs).2
    obtain ⟨h1, h2⟩ := hk _ _ _ _ e4 hvl (VOKs_cons.mpr ⟨trivial, hv.2⟩) hm
    exact ⟨x_iald (VOK_in hv.1 (by omega)) e2 e3 hdg h1, h2⟩
  case caload =>
    simp only [okI, Bool.and_eq_true, decide_eq_true_eq] at hok
    have hl := nb hok; subst hl
    simp only [stepK] at h
    obtain ⟨i, q, st', e1, e2, e3, e4⟩ := alK_some h
    subst e1
    have hv := VOKs_cons.mp (VOKs_cons.mp hvs).2
    obtain ⟨h1, h2⟩ := hk _ _ _ _ e4 hvl (VOKs_cons.mpr ⟨trivial, hv.2⟩) hm
    exact ⟨x_cald (VOK_in hv.1 (by omega)) e2 e3 hdg h1, h2⟩
  case laload =>
    simp only [okI, Bool.and_eq_true, decide_eq_true_eq] at hok
    have hl := nb hok; subst hl
    simp only [stepK] at h
    obtain ⟨i, q, st', e1, e2, e3, e4⟩ := alK_some h
    subst e1
    have hv := VOKs_cons.mp (VOKs_cons.mp hvs).2
    obtain ⟨h1, h2⟩ := hk _ _ _ _ e4 hvl (VOKs_cons.mpr ⟨trivial, hv.2⟩) hm
    exact ⟨x_lald (VOK_in hv.1 (by omega)) e2 e3 hdg h1, h2⟩
  case baload =>
    simp only [okI, Bool.and_eq_true, decide_eq_true_eq] at hok
    have hl := nb hok; subst hl
    simp only [stepK] at h
    split at h
    · obtain ⟨i, q, st', e1, e2, e3, e4⟩ := alK_some h
      subst e1
      have hv := VOKs_cons.mp (VOKs_cons.mp hvs).2
      obtain ⟨h1, h2⟩ := hk _ _ _ _ e4 hvl (VOKs_cons.mpr ⟨trivial, hv.2⟩) hm
      exact ⟨x_zald (VOK_in hv.1 (by omega)) e2 e3 hdg h1, h2⟩
    · obtain ⟨i, q, st', e1, e2, e3, e4⟩ := alK_some h
      subst e1
      have hv := VOKs_cons.mp (VOKs_cons.mp hvs).2
      obtain ⟨j, hj, hq⟩ := VOK_byt hwt hv.1 e2
      subst hq
      obtain ⟨h1, h2⟩ := hk _ _ _ _ e4 hvl (VOKs_cons.mpr ⟨trivial, hv.2⟩) hm
      rw [show (41, strL j, SV + j).2.2 - SV = j by show SV + j - SV = j; omega] at h1
      exact ⟨x_sbyt hj e3 hdg h1, h2⟩
  case aaload =>
    simp only [okI, Bool.and_eq_true, decide_eq_true_eq] at hok
    obtain ⟨hl, hz⟩ := hok
    have hl := nb hl; subst hl
    simp only [stepK] at h
    split at h
    · obtain ⟨i, q, st', e1, e2, e3, e4⟩ := alK_some h
      subst e1
      have hv := VOKs_cons.mp (VOKs_cons.mp hvs).2
      have hq := VOK_in hv.1 (by omega)
      obtain ⟨h1, h2⟩ := hk _ _ _ _ e4 hvl (VOKs_cons.mpr ⟨Or.inl (hm.2 q hq e2 _ (Nat.not_le.mp fun z => e3 (Or.inr z))), hv.2⟩) hm
      exact ⟨x_aald hq e2 e3 hdg h1, h2⟩
    · rename_i hz0
      have hz3 : z = 30 ∨ z = 31 ∨ z = 32 := by
        simp only [Bool.or_eq_true] at hz
        rcases hz with ((hz | hz) | hz) | hz
        · exact absurd (nb hz) hz0
        · exact Or.inl (nb hz)
        · exact Or.inr (Or.inl (nb hz))
        · exact Or.inr (Or.inr (nb hz))
      obtain ⟨i, q, st', e1, e2, e3, e4⟩ := alK_some h
      subst e1
      have hv := VOKs_cons.mp (VOKs_cons.mp hvs).2
      have hq := VOK_in hv.1 (by omega)
      have hin := hclo.2 q hq (by omega) _ (Nat.not_le.mp fun z => e3 (Or.inr z))
      rw [e2] at hin
      obtain ⟨h1, h2⟩ := hk _ _ _ _ e4 hvl (VOKs_cons.mpr ⟨Or.inl hin, hv.2⟩) hm
      exact ⟨x_gald hq (by omega) e3 hdg h1, h2⟩
  case iastore =>
    simp only [okI, Bool.and_eq_true, decide_eq_true_eq] at hok
    have hl := nb hok; subst hl
    obtain ⟨v, i, q, st', e1, e2, e3, e4⟩ := asK_some h
    subst e1
    have hv := VOKs_cons.mp (VOKs_cons.mp (VOKs_cons.mp hvs).2).2
    obtain ⟨h1, h2⟩ := hk _ _ _ _ e4 hvl hv.2 (MOK_sI hm)
    exact ⟨x_iast (VOK_in hv.1 (by omega)) e2 e3 hdg h1, h2⟩
  case castore =>
    simp only [okI, Bool.and_eq_true, decide_eq_true_eq] at hok
    have hl := nb hok; subst hl
    obtain ⟨v, i, q, st', e1, e2, e3, e4⟩ := asK_some h
    subst e1
    have hv := VOKs_cons.mp (VOKs_cons.mp (VOKs_cons.mp hvs).2).2
    obtain ⟨h1, h2⟩ := hk _ _ _ _ e4 hvl hv.2 (MOK_sI hm)
    exact ⟨x_cast (VOK_in hv.1 (by omega)) e2 e3 hdg h1, h2⟩
  case bastore =>
    simp only [okI, Bool.and_eq_true, decide_eq_true_eq] at hok
    have hl := nb hok; subst hl
    obtain ⟨v, i, q, st', e1, e2, e3, e4⟩ := asK_some h
    subst e1
    have hv := VOKs_cons.mp (VOKs_cons.mp (VOKs_cons.mp hvs).2).2
    obtain ⟨h1, h2⟩ := hk _ _ _ _ e4 hvl hv.2 (MOK_sI hm)
    exact ⟨x_zast (VOK_in hv.1 (by omega)) e2 e3 hdg h1, h2⟩
  case lastore =>
    simp only [okI, Bool.and_eq_true, decide_eq_true_eq] at hok
    have hl := nb hok; subst hl
    simp only [stepK] at h
    split at h
    case h_2 => cases h
    rename_i v i q st'
    split at h
    case h_2 => cases h
    rename_i hq
    have hq := nb hq
    unfold ic at h
    split at h
    · cases h
    · rename_i hin
      have hv := VOKs_cons.mp (VOKs_cons.mp (VOKs_cons.mp hvs).2).2
      obtain ⟨h1, h2⟩ := hk _ _ _ _ h hvl hv.2 (MOK_sJ hm)
      exact ⟨x_last (VOK_in hv.1 (by omega)) hq hin hdg h1, h2⟩
  case aastore =>
    simp only [okI, Bool.and_eq_true, decide_eq_true_eq] at hok
    have hl := nb hok; subst hl
    simp only [stepK] at h
    split at h
    case h_2 => cases h
    rename_i v i q st'
    split at h
    case h_2 => cases h
    rename_i hq hv6 hv0
    have hq := nb hq; have hv6 := nb hv6; have hv0 := nb hv0
    unfold ic at h
    split at h
    · cases h
    · rename_i hin
      have hv1 := VOKs_cons.mp hvs
      have hv := VOKs_cons.mp (VOKs_cons.mp hv1.2).2
      have hvw := VOK_in hv1.1 (by omega)
      obtain ⟨h1, h2⟩ := hk _ _ _ _ h hvl hv.2 (MOK_sR24 hwt hm hvw hv6 hv0 hq (VOK_in hv.1 (by omega)))
      exact ⟨x_aast (VOK_in hv.1 (by omega)) hq hvw hv6 hin hdg h1, h2⟩
  case arraylength =>
    simp only [okI, Bool.and_eq_true, decide_eq_true_eq] at hok
    have hl := nb hok; subst hl
    simp only [stepK] at h
    split at h
    case h_2 => cases h
    rename_i q st'
    have hv := VOKs_cons.mp hvs
    split at h
    case h_2 => cases h
    rename_i h20 h40 h41
    have h20 := Nat.le_of_ble_eq_true h20
    have h41 := Nat.le_of_ble_eq_true h41
    have h40 : q.1 ≠ 40 := fun z => by rw [z] at h40; simp at h40
    obtain ⟨h1, h2⟩ := hk _ _ _ _ h hvl (VOKs_cons.mpr ⟨trivial, hv.2⟩) hm
    rcases hv.1 with g | ⟨i, -, g⟩ | ⟨i, hi, g⟩ | g
    · refine ⟨x_alen g ?_ hdg h1, h2⟩
      rcases hwt.1 q g with g | g | g <;> omega
    · subst g; exact absurd rfl h40
    · subst g; exact ⟨x_slen hi hdg h1, h2⟩
    · subst g; simp at h41
  case invokevirtual idx =>
    simp only [okI, Bool.and_eq_true, decide_eq_true_eq] at hok
    obtain ⟨hl, hv⟩ := hok
    have hl := nb hl; subst hl
    exact inv_sound (virt := true) hwt hmd hcall hk hv hdg h hvl hvs hm
  case invokestatic idx =>
    simp only [okI, Bool.and_eq_true, decide_eq_true_eq] at hok
    obtain ⟨hl, hv⟩ := hok
    have hl := nb hl; subst hl
    simp only [stepK] at h
    split at h
    · exact cp_sound hv hdg (fun st' M' zz hvv hmm => hk _ _ _ _ zz hvl hvv hmm) h hvs hm
    · rename_i hz
      split at hv
      · exact absurd rfl hz
      · exact inv_sound (virt := false) hwt hmd hcall hk hv hdg h hvl hvs hm
  case ireturn =>
    simp only [okI, Bool.and_eq_true, decide_eq_true_eq] at hok
    obtain ⟨hl, hz⟩ := hok
    have hl := nb hl; subst hl
    simp only [stepK] at h
    split at h
    case h_2 => cases h
    rename_i v
    split at h
    · cases h; exact ⟨x_iret (of_decide_eq_true hz) rfl hdg, ⟨fun _ z => by cases z; trivial, hm⟩⟩
    · unfold ic at h; split at h
      · rename_i hn
        cases h; exact ⟨x_iret (of_decide_eq_true hz) (by show Value.int (v &&& 1) = _; rw [hn]) hdg, ⟨fun _ z => by cases z; trivial, hm⟩⟩
      · cases h
    · unfold ic at h; split at h
      · rename_i hn
        cases h; exact ⟨x_iret (of_decide_eq_true hz) (by rw [nar_byte_eq, hn]) hdg, ⟨fun _ z => by cases z; trivial, hm⟩⟩
      · cases h
    · rename_i z0 z1 z2
      split at hz
      · exact absurd rfl z0
      · exact absurd rfl z1
      · exact absurd rfl z2
      · unfold ic at h; split at h
        · rename_i hn
          cases h; exact ⟨x_iret (of_decide_eq_true hz) (by rw [nar_char_eq, hn]) hdg, ⟨fun _ z => by cases z; trivial, hm⟩⟩
        · cases h
  case lreturn =>
    simp only [okI, Bool.and_eq_true, decide_eq_true_eq] at hok
    obtain ⟨hl, hz⟩ := hok
    have hl := nb hl; subst hl
    simp only [stepK] at h
    split at h
    case h_2 => cases h
    cases h
    exact ⟨x_lret hz hdg, ⟨fun _ z => by cases z; trivial, hm⟩⟩
  case return_ =>
    simp only [okI, Bool.and_eq_true, decide_eq_true_eq] at hok
    obtain ⟨hl, hz⟩ := hok
    have hl := nb hl; subst hl
    simp only [stepK] at h
    split at h
    case h_2 => cases h
    cases h
    exact ⟨x_vret hz hdg, ⟨fun _ z => (by cases z), hm⟩⟩
  all_goals (first | (simp [stepK] at h; done))
end SNE
