/-! THE CHECKS: what the tables say, held once against the words of the Statement -/
def mm_ut : List Cond := lw_tbl.filter goodWord
theorem mm_in_ut {w : Cond} (h : w ∈ lw_tbl) (hg : goodWord w = true) : w ∈ mm_ut := List.mem_filter.mpr ⟨h, hg⟩
theorem mm_ut_good {w : Cond} (h : w ∈ mm_ut) : goodWord w = true := (List.mem_filter.mp h).2
def mm_rty (rt : Nat) : Option FieldType := match rt with
  | 0 => none
  | 1 => some .int
  | _ => some .boolean
abbrev MI.ci (q : MI) : Nat := q.1
abbrev MI.nm (q : MI) : MethodName := q.2.1
abbrev MI.cc (q : MI) : ByteArray := q.2.2.1
abbrev MI.mL (q : MI) : Nat := q.2.2.2.1
abbrev MI.rt (q : MI) : Nat := q.2.2.2.2.1
abbrev MI.na (q : MI) : Nat := q.2.2.2.2.2.1
abbrev MI.P (q : MI) : List PI := q.2.2.2.2.2.2.1
abbrev MI.pcs (q : MI) : List Nat := q.2.2.2.2.2.2.2
def mm_dec (cc : ByteArray) (pc : Nat) (i : Instr) (n : Nat) : Bool := decide (decode cc pc = .ok (i, n))
def mm_decs (cc : ByteArray) (pc : Nat) (i : Instr) : Bool := match decode cc pc with
  | .ok (i', _) => decide (i' = i)
  | .error _ => false
def mm_nx (pcs : List Nat) (j pc : Nat) : Bool := decide (pcs[j]? = some pc)
def mm_jmp (pcs : List Nat) (x pc : Nat) (off : Int) : Bool := match pcs[x]? with
  | some t => decide ((pc : Int) + off = (t : Int))
  | none => false
/-- a row is what its bytes say, and its numbers are what the tables say -/
def mm_okR (cc : ByteArray) (ci : Nat) (pcs : List Nat) (j : Nat) (r : PI) : Bool := match pcs[j]? with
  | none => false
  | some pc => match r with
    | (.iconst n, _, v, _) => mm_dec cc pc (.iconst n) 1 && mm_nx pcs (j + 1) (pc + 1) && decide (Int32.ofInt n = v)
    | (.bipush n, _, v, _) => mm_dec cc pc (.bipush n) 2 && mm_nx pcs (j + 1) (pc + 2) && decide ((Int8.ofInt n).toInt32 = v)
    | (.sipush n, _, v, _) => mm_dec cc pc (.sipush n) 3 && mm_nx pcs (j + 1) (pc + 3) && decide ((Int16.ofInt n).toInt32 = v)
    | (.iload_n q, x, _, _) => mm_dec cc pc (.iload_n q) 1 && mm_nx pcs (j + 1) (pc + 1) && decide (q.val = x)
    | (.iload q, x, _, _) => mm_dec cc pc (.iload q) 2 && mm_nx pcs (j + 1) (pc + 2) && decide (q = x)
    | (.aload_n q, x, _, _) => mm_dec cc pc (.aload_n q) 1 && mm_nx pcs (j + 1) (pc + 1) && decide (q.val = x)
    | (.istore_n q, x, _, _) => mm_dec cc pc (.istore_n q) 1 && mm_nx pcs (j + 1) (pc + 1) && decide (q.val = x)
    | (.istore q, x, _, _) => mm_dec cc pc (.istore q) 2 && mm_nx pcs (j + 1) (pc + 2) && decide (q = x)
    | (.iinc q n, x, v, _) => mm_dec cc pc (.iinc q n) 3 && mm_nx pcs (j + 1) (pc + 3) && decide (q = x) && decide (Int32.ofInt n = v)
    | (.iadd, _, _, _) => mm_dec cc pc .iadd 1 && mm_nx pcs (j + 1) (pc + 1)
    | (.isub, _, _, _) => mm_dec cc pc .isub 1 && mm_nx pcs (j + 1) (pc + 1)
    | (.imul, _, _, _) => mm_dec cc pc .imul 1 && mm_nx pcs (j + 1) (pc + 1)
    | (.dup, _, _, _) => mm_dec cc pc .dup 1 && mm_nx pcs (j + 1) (pc + 1)
    | (.dup2, _, _, _) => mm_dec cc pc .dup2 1 && mm_nx pcs (j + 1) (pc + 1)
    | (.iaload, _, _, _) => mm_dec cc pc .iaload 1 && mm_nx pcs (j + 1) (pc + 1)
    | (.baload, _, _, _) => mm_dec cc pc .baload 1 && mm_nx pcs (j + 1) (pc + 1)
    | (.iastore, _, _, _) => mm_dec cc pc .iastore 1 && mm_nx pcs (j + 1) (pc + 1)
    | (.bastore, _, _, _) => mm_dec cc pc .bastore 1 && mm_nx pcs (j + 1) (pc + 1)
    | (.arraylength, _, _, _) => mm_dec cc pc .arraylength 1 && mm_nx pcs (j + 1) (pc + 1)
    | (.goto off, x, _, _) => mm_dec cc pc (.goto off) 3 && mm_jmp pcs x pc off
    | (.ifCond q off, x, _, _) => mm_dec cc pc (.ifCond q off) 3 && mm_nx pcs (j + 1) (pc + 3) && mm_jmp pcs x pc off
    | (.if_icmp q off, x, _, _) => mm_dec cc pc (.if_icmp q off) 3 && mm_nx pcs (j + 1) (pc + 3) && mm_jmp pcs x pc off
    | (.getfield ix, x, _, ts) => mm_dec cc pc (.getfield ix) 3 && mm_nx pcs (j + 1) (pc + 3) && decide ((ci, ix, x) ∈ mm_FT) && decide (ts = [ci])
    | (.putfield ix, x, _, ts) => mm_dec cc pc (.putfield ix) 3 && mm_nx pcs (j + 1) (pc + 3) && decide ((ci, ix, x) ∈ mm_FT) && (match vwCl[ci]? with
      | some q => decide ((q.2.1 x).2.2.2 = false ∧ ((parseFieldDescriptor (q.2.1 x).2.2.1 = some .int ∧ ts = [ci]) ∨ (parseFieldDescriptor (q.2.1 x).2.2.1 = some .boolean ∧ ts = [ci, 2])))
      | none => false)
    | (.invokevirtual ix, y, _, ts) => mm_dec cc pc (.invokevirtual ix) 3 && mm_nx pcs (j + 1) (pc + 3) && decide ((ci, ix, y) ∈ mm_CT) && (match mm_MT[y]? with
      | some q => decide (ts = [q.na, q.rt, q.ci])
      | none => false)
    | (.invokestatic ix, x, _, _) => mm_dec cc pc (.invokestatic ix) 3 && mm_nx pcs (j + 1) (pc + 3) && decide ((ci, ix, x) ∈ mm_ST)
    | (.new ix, x, _, ts) => mm_dec cc pc (.new ix) 3 && mm_dec cc (pc + 3) .dup 1 && mm_dec cc (pc + 4) (.ldc (ts.headD 0)) 2 && mm_dec cc (pc + 6) (.invokespecial (ts.getD 1 0)) 3 && mm_dec cc (pc + 9) .athrow 1 && decide (ci = 7) && decide ((ix, ts.getD 1 0, x) ∈ mm_XT) && decide (ts.headD 0 ∈ mm_STR.map Prod.fst)
    | (.ireturn, _, _, _) => mm_dec cc pc .ireturn 1
    | (.return_, _, _, _) => mm_dec cc pc .return_ 1
    | (.tableswitch d lo hi offs, x, _, ts) => mm_decs cc pc (.tableswitch d lo hi offs) && mm_jmp pcs x pc d && decide (offs.size = ts.length) && (offs.toList.zip ts).all (fun q => mm_jmp pcs q.2 pc q.1)
    | (.lookupswitch d ps, x, _, ts) => mm_decs cc pc (.lookupswitch d ps) && mm_jmp pcs x pc d && decide (ps.toList.length = ts.length) && (ps.toList.zip ts).all (fun q => mm_jmp pcs q.2 pc q.1.2) && (ps.toList.zip (ps.toList.drop 1)).all (fun (a, next) => a.1 < next.1)
    | _ => true
def mm_okRs (cc : ByteArray) (ci : Nat) (pcs : List Nat) : Nat → List PI → Bool
  | _, [] => true
  | j, r :: rs => mm_okR cc ci pcs j r && mm_okRs cc ci pcs (j + 1) rs
theorem mm_okRs_at {cc : ByteArray} {ci : Nat} {pcs : List Nat} : ∀ (P : List PI) (j k : Nat) (r : PI), mm_okRs cc ci pcs j P = true → P[k]? = some r → mm_okR cc ci pcs (j + k) r = true := by
  intro P
  induction P with
  | nil => intro j k r _ h; simp at h
  | cons a P ih =>
    intro j k r h hk
    simp only [mm_okRs, Bool.and_eq_true] at h
    cases k with
    | zero => simp at hk; subst hk; exact h.1
    | succ k =>
      have := ih (j + 1) k r h.2 (by simpa using hk)
      rw [show j + (k + 1) = j + 1 + k by omega]; exact this
theorem mm_t0 : mm_okRs cX7_row 7 qX7_row 0 pX7_row = true := by decide +kernel
theorem mm_t1 : mm_okRs cX2_hasType 2 qX2_hasType 0 pX2_hasType = true := by decide +kernel
theorem mm_t2 : mm_okRs cX8_begin 8 qX8_begin 0 pX8_begin = true := by decide +kernel
theorem mm_t3 : mm_okRs cX5_openBranch 5 qX5_openBranch 0 pX5_openBranch = true := by decide +kernel
