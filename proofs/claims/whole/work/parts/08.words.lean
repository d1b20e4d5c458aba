def okF (q : Nat × Nat × Nat × Nat × Nat) : Bool := match q with
  | (a, b, x, y, p) => (if x = 40 then decide (lw_tbl[p]? = some (.fieldLink (ownS a) b "java/lang/String" (if y = 0 then "value" else "coder") (if y = 0 then "[B" else "B"))) && Nat.ble y 1 else decide (lw_tbl[p]? = some (.fieldLink (ownS a) b (clR x) ((clT x) y).2.1 ((clT x) y).2.2.1)) && decide (x < 13) && decide (y < clN x))
def okG (q : Nat × Nat × Nat × Nat) : Bool := match q with
  | (a, b, z, p) => if z = 0 then decide (lw_tbl[p]? = some (.fieldLink (ownS a) b "java/lang/String" "COMPACT_STRINGS" "Z")) else decide (lw_tbl[p]? = some (.fieldLink (ownS a) b "jdk/internal/util/Preconditions" "SIOOBE_FORMATTER" "Ljava/util/function/BiFunction;"))
def okM (q : Nat × Nat × Nat × Nat) : Bool := match q with
  | (a, b, x, p) => match mdT x with
    | some m => decide (lw_tbl[p]? = some (.methodLink (ownS a) b m.1))
    | none => false
def okA (q : Nat × Nat × Nat) : Bool := match q with
  | (a, b, p) => decide (lw_tbl[p]? = some (.methodLink (ownS a) b arraycopyName))
def okC (q : Nat × Nat × Int32 × Nat) : Bool := match q with
  | (a, b, v, p) => decide (lw_tbl[p]? = some (.constant (ownS a) b v))
def okL (q : Nat × Nat × Int64 × Nat) : Bool := match q with
  | (a, b, v, p) => decide (lw_tbl[p]? = some (.constantLong (ownS a) b v))
theorem fT_ok : fT.all okF = true := by decide +kernel
theorem gT_ok : gT.all okG = true := by decide +kernel
theorem mT_ok : mT.all okM = true := by decide +kernel
theorem acT_ok : acT.all okA = true := by decide +kernel
theorem cT_ok : cT.all okC = true := by decide +kernel
theorem lT_ok : lT.all okL = true := by decide +kernel
/-- a method's own words -/
def okP (m : MD) (p : Nat × Nat × Nat × Nat) : Bool := match m with
  | (y, b, mL, rt, ow, tg) => decide (y.cls = ownS ow) && decide (y.cls ≠ "java/lang/invoke/MethodHandle") && decide (y.cls ≠ "java/lang/invoke/VarHandle") && plainFor y && Nat.ble mL 40 && decide (lw_tbl[p.2.1]? = some (.initialized y.cls)) &&
    (if tg = 99 then decide (lw_tbl[p.2.2.1]? = some (.static y)) else decide (lw_tbl[p.2.2.1]? = some (.instanceMethod y)) && decide (lw_tbl[p.2.2.2]? = some (.selects y.cls y y)) && (if tg = 40 then decide (y.cls = "java/lang/String") else decide (tg < 13) && decide (clR tg = y.cls)))
theorem mdL_len : mdL.length = 306 := by decide +kernel
theorem pT_ok0 : ((List.range 60).all fun i => match mdL[0 + i]?, pT[0 + i]? with
  | some m, some p => okP m p
  | _, _ => false) = true := by decide +kernel
theorem pT_ok1 : ((List.range 60).all fun i => match mdL[60 + i]?, pT[60 + i]? with
  | some m, some p => okP m p
  | _, _ => false) = true := by decide +kernel
theorem pT_ok2 : ((List.range 60).all fun i => match mdL[120 + i]?, pT[120 + i]? with
  | some m, some p => okP m p
  | _, _ => false) = true := by decide +kernel
theorem pT_ok3 : ((List.range 60).all fun i => match mdL[180 + i]?, pT[180 + i]? with
  | some m, some p => okP m p
  | _, _ => false) = true := by decide +kernel
theorem pT_ok4 : ((List.range 60).all fun i => match mdL[240 + i]?, pT[240 + i]? with
  | some m, some p => okP m p
  | _, _ => false) = true := by decide +kernel
theorem pT_ok5 : ((List.range 6).all fun i => match mdL[300 + i]?, pT[300 + i]? with
  | some m, some p => okP m p
  | _, _ => false) = true := by decide +kernel
