/-- a call's end, and what follows -/
def mm_bd (o : Option Res) (kc ks : Nat) (f : Mem → Nat → Nat → Int32 → Option Res) : Option Res := match o with
  | some (S', c', s', 0, a) => f S' (kc + c') (ks + s') a
  | some (S', c', s', e + 1, _) => some (S', kc + c', ks + s', e + 1, 0)
  | none => none
theorem mm_bd_ret {S' : Mem} {c' s' kc ks : Nat} {a : Int32} {f : Mem → Nat → Nat → Int32 → Option Res} : mm_bd (some (S', c', s', 0, a)) kc ks f = f S' (kc + c') (ks + s') a := rfl
theorem mm_bd_thr {S' : Mem} {c' s' kc ks e : Nat} {a : Int32} {f : Mem → Nat → Nat → Int32 → Option Res} : mm_bd (some (S', c', s', e + 1, a)) kc ks f = some (S', kc + c', ks + s', e + 1, 0) := rfl
theorem mm_arr_in {S : Mem} {tag c n : Nat} {i : Int32} {k : Nat → Option Res} (hk : mm_KD[c]? = some (tag, n)) (h : ¬ (i < 0 ∨ mm_len S c n ≤ i.toNatClampNeg)) : mm_arr S tag c i k = k i.toNatClampNeg := by
  unfold mm_arr
  rw [hk]
  simp only [if_true, if_neg h]
