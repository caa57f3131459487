/-! THE SMALL MACHINE: decoded rows of a method, run over a memory of numbered cells (a cell's slots are ints; references are cell numbers). -/
abbrev Mem : Type := Nat → Nat → Int32
abbrev MV : Type := Int32 ⊕ Nat
/-- memory, cells made, slots made, which exception (0: it returned), the answer -/
abbrev Res : Type := Mem × Nat × Nat × Nat × Int32
abbrev PI : Type := Instr × Nat × Int32 × List Nat
abbrev Kt : Type := Nat → List (Option MV) → List MV → Mem → Nat → Nat → Option Res
def mm_stc (S : Mem) (c : Nat) (f : Nat → Int32) : Mem := fun x => if x = c then f else S x
def mm_put (S : Mem) (c k : Nat) (v : Int32) : Mem := mm_stc S c (upd (S c) k v)
/-- the cell that grows, and where its length is noted -/
def mm_RM : Nat := 22
/-- kinds of cells: (0, class), (1, length) ints, (2, length) booleans, (3, length) longs -/
def mm_KD : List (Nat × Nat) := [(0, 7), (0, 2), (1, 8), (2, 8), (1, 40), (1, 40), (1, 120), (1, 3), (0, 3), (1, 480), (1, 480), (0, 1), (1, 40), (1, 40), (1, 83), (0, 1), (1, 60), (1, 60), (1, 123), (0, 6), (1, 2700), (0, 5), (1, 0), (0, 0), (1, 340), (0, 4), (1, 40),
  (0, 8), (1, 40), (1, 120), (2, 8), (1, 3), (1, 480), (1, 12), (1, 40), (1, 60), (1, 300), (2, 28800), (1, 44), (1, 62), (1, 2728), (1, 44), (1, 301), (1, 301), (1, 301), (1, 301), (1, 301), (1, 301), (1, 301), (1, 301), (1, 2500), (1, 2500), (1, 301), (1, 400), (3, 1)]
/-- how many fields a class has -/
def mm_NF : List Nat := [5, 6, 7, 3, 4, 6, 4, 10, 38]
/-- a cell's fields: the cell that a field holds, if it holds one -/
def mm_RT : List (List (Option Nat)) := [[some 1, some 7, none, some 8, some 11, some 15, some 19, some 21, some 23, some 25],
  [none, none, some 2, some 3, some 4, some 5, some 6], [], [], [], [], [], [], [some 9, some 10, none], [], [],
  [some 1, some 12, some 13, some 14, none, none], [], [], [], [some 1, some 16, some 17, some 18, none, none], [], [], [],
  [some 20, none, none, none], [], [some 1, some 8, some 22, none, none, none], [], [some 1, some 19, some 24, none, none], [], [some 1, some 15, some 26, none], [],
  [none, none, none, some 28, some 29, some 30, none, none, none, none, some 31, some 32, some 33, some 34, some 35, some 36, some 37, none, none, some 38, some 39, some 40, none, some 41, none, none, some 42, some 43, some 44, some 45, some 46, some 47, some 48, some 49, some 50, some 51, some 52, some 53]]
def mm_rf (c k : Nat) : Option Nat := ((mm_RT[c]?.getD [])[k]?).getD none
def mm_fv (S : Mem) (c k : Nat) : MV := match mm_rf c k with
  | some t => .inr t
  | none => .inl (S c k)
def mm_len (S : Mem) (c n : Nat) : Nat := match Nat.beq c mm_RM with
  | true => (S 55 0).toNatClampNeg
  | false => n
def mm_cls (c ci : Nat) : Bool := match mm_KD[c]? with
  | some (0, q) => Nat.beq q ci
  | _ => false
def mm_noRm (st : List MV) : Bool := st.all (fun v => match v with
  | .inr c => !(Nat.beq c mm_RM)
  | .inl _ => true)
def mm_noRmL (L : List (Option MV)) : Bool := L.all (fun v => match v with
  | some (.inr c) => !(Nat.beq c mm_RM)
  | _ => true)
/-- an int array's cell, an index within: its number -/
def mm_arr (S : Mem) (tag c : Nat) (i : Int32) (k : Nat → Option Res) : Option Res := match mm_KD[c]? with
  | some (t, n) => if t = tag then (if i < 0 ∨ mm_len S c n ≤ i.toNatClampNeg then none else k i.toNatClampNeg) else none
  | none => none
def mm_lk : List (Int × Int) → List Nat → Nat → Int → Nat
  | (a, _) :: ps, t :: ts, d, k => if a = k then t else mm_lk ps ts d k
  | _, _, d, _ => d
def mm_psh (rc : Nat) (a : Int32) (r : List MV) : List MV := match rc with
  | 0 => r
  | _ + 1 => .inl a :: r
/-- one row -/
def mm_step (call : Nat → List MV → Mem → Option Res) (rt : Nat) (k : Kt) (j : Nat) (L : List (Option MV)) (S : Mem) (kc ks : Nat) (i : Instr) (x : Nat) (v : Int32) (ts : List Nat) (st : List MV) : Option Res :=
  match i, st with
  | .iconst _, r => k (j + 1) L (.inl v :: r) S kc ks
  | .bipush _, r => k (j + 1) L (.inl v :: r) S kc ks
  | .sipush _, r => k (j + 1) L (.inl v :: r) S kc ks
  | .iload_n _, r => match L[x]? with
    | some (some (.inl y)) => k (j + 1) L (.inl y :: r) S kc ks
    | _ => none
  | .iload _, r => match L[x]? with
    | some (some (.inl y)) => k (j + 1) L (.inl y :: r) S kc ks
    | _ => none
  | .aload_n _, r => match L[x]? with
    | some (some (.inr y)) => k (j + 1) L (.inr y :: r) S kc ks
    | _ => none
  | .istore_n _, .inl y :: r => match Nat.blt x L.length with
    | true => k (j + 1) (L.set x (some (.inl y))) r S kc ks
    | false => none
  | .istore _, .inl y :: r => match Nat.blt x L.length with
    | true => k (j + 1) (L.set x (some (.inl y))) r S kc ks
    | false => none
  | .iinc _ _, r => match L[x]? with
    | some (some (.inl y)) => k (j + 1) (L.set x (some (.inl (y + v)))) r S kc ks
    | _ => none
  | .iadd, .inl b :: .inl a :: r => k (j + 1) L (.inl (a + b) :: r) S kc ks
  | .isub, .inl b :: .inl a :: r => k (j + 1) L (.inl (a - b) :: r) S kc ks
  | .imul, .inl b :: .inl a :: r => k (j + 1) L (.inl (a * b) :: r) S kc ks
  | .dup, a :: r => k (j + 1) L (a :: a :: r) S kc ks
  | .dup2, b :: a :: r => k (j + 1) L (b :: a :: b :: a :: r) S kc ks
  | .goto _, r => k x L r S kc ks
  | .ifCond .eq _, .inl a :: r => if a = 0 then k x L r S kc ks else k (j + 1) L r S kc ks
  | .ifCond .ne _, .inl a :: r => if a = 0 then k (j + 1) L r S kc ks else k x L r S kc ks
  | .ifCond .lt _, .inl a :: r => if a < 0 then k x L r S kc ks else k (j + 1) L r S kc ks
  | .ifCond .ge _, .inl a :: r => if 0 ≤ a then k x L r S kc ks else k (j + 1) L r S kc ks
  | .ifCond .gt _, .inl a :: r => if 0 < a then k x L r S kc ks else k (j + 1) L r S kc ks
  | .ifCond .le _, .inl a :: r => if a ≤ 0 then k x L r S kc ks else k (j + 1) L r S kc ks
  | .if_icmp .eq _, .inl b :: .inl a :: r => if a = b then k x L r S kc ks else k (j + 1) L r S kc ks
  | .if_icmp .ne _, .inl b :: .inl a :: r => if a = b then k (j + 1) L r S kc ks else k x L r S kc ks
  | .if_icmp .lt _, .inl b :: .inl a :: r => if a < b then k x L r S kc ks else k (j + 1) L r S kc ks
  | .if_icmp .ge _, .inl b :: .inl a :: r => if b ≤ a then k x L r S kc ks else k (j + 1) L r S kc ks
  | .if_icmp .gt _, .inl b :: .inl a :: r => if b < a then k x L r S kc ks else k (j + 1) L r S kc ks
  | .if_icmp .le _, .inl b :: .inl a :: r => if a ≤ b then k x L r S kc ks else k (j + 1) L r S kc ks
  | .getfield _, .inr c :: r => match mm_cls c (ts.headD 99) with
    | true => k (j + 1) L (mm_fv S c x :: r) S kc ks
    | false => none
  | .putfield _, .inl a :: .inr c :: r => match mm_cls c (ts.headD 99), mm_rf c x with
    | true, none => (match ts with
      | [_] => k (j + 1) L r (mm_put S c x a) kc ks
      | _ => if a = 0 ∨ a = 1 then k (j + 1) L r (mm_put S c x a) kc ks else none)
    | _, _ => none
  | .iaload, .inl i :: .inr c :: r => mm_arr S 1 c i (fun q => k (j + 1) L (.inl (S c q) :: r) S kc ks)
  | .baload, .inl i :: .inr c :: r => mm_arr S 2 c i (fun q => k (j + 1) L (.inl (S c q) :: r) S kc ks)
  | .iastore, .inl a :: .inl i :: .inr c :: r => mm_arr S 1 c i (fun q => k (j + 1) L r (mm_put S c q a) kc ks)
  | .bastore, .inl a :: .inl i :: .inr c :: r => mm_arr S 2 c i (fun q => k (j + 1) L r (mm_put S c q (vp_nar .boolean a)) kc ks)
  | .arraylength, .inr c :: r => match mm_KD[c]? with
    | some (1, n) => k (j + 1) L (.inl (Int32.ofNat (mm_len S c n)) :: r) S kc ks
    | _ => none
  | .ireturn, [.inl a] => match rt with
    | 1 => some (S, kc, ks, 0, a)
    | 2 => if a = 0 ∨ a = 1 then some (S, kc, ks, 0, a) else none
    | _ => none
  | .return_, [] => match rt with
    | 0 => some (S, kc, ks, 0, 0)
    | _ => none
  | .tableswitch _ lo hi _, .inl a :: r => if a.toInt < lo ∨ hi < a.toInt then k x L r S kc ks else match ts[(a.toInt - lo).toNat]? with
    | some t => k t L r S kc ks
    | none => none
  | .lookupswitch _ ps, .inl a :: r => k (mm_lk ps.toList ts x a.toInt) L r S kc ks
  | .invokevirtual _, st => match ts with
    | [na, rc, cb] => match st.drop na with
      | .inr b :: r => match mm_cls b cb && mm_noRm r && Nat.ble r.length 8 with
        | true => (match call x (.inr b :: (st.take na).reverse) S with
          | some (S', c', s', 0, a) => k (j + 1) L (mm_psh rc a r) S' (kc + c') (ks + s')
          | some (S', c', s', e + 1, _) => some (S', kc + c', ks + s', e + 1, 0)
          | none => none)
        | false => none
      | _ => none
    | _ => none
  | .invokestatic _, st => match x, st with
    | 0, .inl b :: .inl a :: r => match Nat.ble r.length 8 with
      | true => k (j + 1) L (.inl (if b < a then b else a) :: r) S kc ks
      | false => none
    | 1, .inl b :: .inl a :: r => match Nat.ble r.length 8 with
      | true => k (j + 1) L (.inl (if a < b then b else a) :: r) S kc ks
      | false => none
    | 2, .inl n :: .inl dp :: .inr c1 :: .inl sp :: .inr c0 :: r => match mm_KD[c0]?, mm_KD[c1]? with
      | some (1, n0), some (1, n1) => if r.length ≤ 8 ∧ (¬ sp < 0) ∧ (¬ dp < 0) ∧ (¬ n < 0) ∧ sp.toNatClampNeg + n.toNatClampNeg ≤ mm_len S c0 n0 ∧ dp.toNatClampNeg + n.toNatClampNeg ≤ mm_len S c1 n1 then
          k (j + 1) L r (mm_stc S c1 (va_cpy (S c0) (S c1) sp.toNatClampNeg dp.toNatClampNeg n.toNatClampNeg)) kc ks else none
      | _, _ => none
    | _, _ => none
  | .new _, r => match x, Nat.ble r.length 8 with
    | 0, _ => none
    | x + 1, true => some (S, kc + 1, ks + 6, x + 1, 0)
    | _, _ => none
  | _, _ => none
def mm_runN (call : Nat → List MV → Mem → Option Res) (P : List PI) (rt : Nat) : Nat → Kt
  | 0 => fun _ _ _ _ _ _ => none
  | n + 1 => fun j L st S kc ks => match P[j]? with
    | some (i, x, v, ts) => mm_step call rt (mm_runN call P rt n) j L S kc ks i x v ts st
    | none => none
/-- what a walk has made so far never shrinks -/
theorem mm_mono_step {call : Nat → List MV → Mem → Option Res} {rt : Nat} {k : Kt} {j : Nat} {L : List (Option MV)} {S : Mem} {kc ks : Nat} {i : Instr} {x : Nat} {v : Int32} {ts : List Nat} {st : List MV} {r : Res}
    (hk : ∀ j L st S kc ks, k j L st S kc ks = some r → kc ≤ r.2.1 ∧ ks ≤ r.2.2.1) (h : mm_step call rt k j L S kc ks i x v ts st = some r) : kc ≤ r.2.1 ∧ ks ≤ r.2.2.1 := by
  unfold mm_step at h
  split at h
  all_goals (try unfold mm_arr at h)
  all_goals (repeat' (first | (cases h; done) | split at h))
  all_goals first
    | exact hk _ _ _ _ _ _ h
    | (cases h; exact ⟨Nat.le_refl _, Nat.le_refl _⟩)
    | (cases h; exact ⟨Nat.le_add_right _ _, Nat.le_add_right _ _⟩)
    | (have h9 := hk _ _ _ _ _ _ h; exact ⟨Nat.le_trans (Nat.le_add_right _ _) h9.1, Nat.le_trans (Nat.le_add_right _ _) h9.2⟩)
theorem mm_mono {call : Nat → List MV → Mem → Option Res} {P : List PI} {rt : Nat} {r : Res} : ∀ (n j : Nat) (L : List (Option MV)) (st : List MV) (S : Mem) (kc ks : Nat), mm_runN call P rt n j L st S kc ks = some r → kc ≤ r.2.1 ∧ ks ≤ r.2.2.1 := by
  intro n
  induction n with
  | zero => intro j L st S kc ks h; cases h
  | succ n ih =>
    intro j L st S kc ks h
    unfold mm_runN at h
    split at h
    · exact mm_mono_step ih h
    · cases h
