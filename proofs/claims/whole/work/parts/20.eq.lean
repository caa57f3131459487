set_option maxRecDepth 100000 in
theorem eX0_forget_0 {call : Nat → List MV → Mem → Option Res} {S : Mem} {kc ks : Nat}  : mm_E call pX0_forget 0 0 [some (.inr 23)] [] S kc ks = some (mm_put S 23 4 ((-1)), kc, ks, 0, 0) := by
  refine mm_E_eq [0] 4 ?_
  generalize mm_E call pX0_forget 0 = k
  rfl
set_option maxRecDepth 100000 in
theorem eX0_shown_0 {call : Nat → List MV → Mem → Option Res} {S : Mem} {kc ks : Nat}  : mm_E call pX0_shown 1 0 [some (.inr 23)] [] S kc ks = some (S, kc, ks, 0, S 23 4) := by
  refine mm_E_eq [0] 3 ?_
  generalize mm_E call pX0_shown 1 = k
  rfl
set_option maxRecDepth 100000 in
theorem eX0_show_0 {call : Nat → List MV → Mem → Option Res} {S : Mem} {kc ks : Nat} {x1 : Int32} {x2 : Int32} : mm_E call pX0_show 0 0 [some (.inr 23), some (.inl x1), some (.inl x2), none, none, none, none] [] S kc ks = mm_E call pX0_show 0 12 [some (.inr 23), some (.inl x1), some (.inl x2), some (.inl 0), none, none, none] [] (mm_put (mm_put S 23 4 x1) 23 3 (if 340 < x2 then 340 else x2)) kc ks := by
  refine mm_E_eq [0, 12, 32] 12 ?_
  generalize mm_E call pX0_show 0 = k
  rfl
set_option maxRecDepth 100000 in
theorem eX0_show_12 {call : Nat → List MV → Mem → Option Res} {S : Mem} {kc ks : Nat} {x1 : Int32} {o2 : Option MV} {x3 : Int32} {o4 : Option MV} {o5 : Option MV} {o6 : Option MV} : mm_E call pX0_show 0 12 [some (.inr 23), some (.inl x1), o2, some (.inl x3), o4, o5, o6] [] S kc ks = (if (S 23 3) ≤ x3 then mm_bd (call 83 [.inr 19, .inl x1] S) kc ks (fun S1 c1 t1 a1 => mm_E call pX0_show 0 32 [some (.inr 23), some (.inl x1), o2, some (.inl a1), some (.inl 0), some (.inl 0), o6] [] S1 c1 t1) else mm_arr S 1 24 x3 (fun q2 => mm_E call pX0_show 0 12 [some (.inr 23), some (.inl x1), o2, some (.inl (x3 + 1)), o4, o5, o6] [] (mm_put S 24 q2 ((-1))) kc ks)) := by
  refine mm_E_eq [0, 12, 32] 13 ?_
  generalize mm_E call pX0_show 0 = k
  rfl
set_option maxRecDepth 100000 in
theorem eX0_show_32 {call : Nat → List MV → Mem → Option Res} {S : Mem} {kc ks : Nat} {o1 : Option MV} {o2 : Option MV} {x3 : Int32} {x4 : Int32} {x5 : Int32} {o6 : Option MV} : mm_E call pX0_show 0 32 [some (.inr 23), o1, o2, some (.inl x3), some (.inl x4), some (.inl x5), o6] [] S kc ks = (if 300 ≤ x5 then some (S, kc, ks, 0, 0) else (if x4 = x3 then some (S, kc, ks, 0, 0) else (if x4 = ((-1)) then some (S, kc, ks, 0, 0) else mm_bd (call 82 [.inr 19, .inl x4, .inl x3] S) kc ks (fun S1 c1 t1 a1 => mm_bd (call 78 [.inr 19, .inl x4] S1) c1 t1 (fun S2 c2 t2 a2 => mm_bd (call 79 [.inr 19, .inl a1] S2) c2 t2 (fun S3 c3 t3 a3 => mm_bd (call 4 [.inr 23, .inl a2, .inl a3] S3) c3 t3 (fun S4 c4 t4 a4 => mm_E call pX0_show 0 32 [some (.inr 23), o1, o2, some (.inl x3), some (.inl a1), some (.inl (x5 + 1)), some (.inl a1)] [] S4 c4 t4))))))) := by
  refine mm_E_eq [0, 12, 32] 29 ?_
  generalize mm_E call pX0_show 0 = k
  rfl
set_option maxRecDepth 100000 in
theorem eX0_signAt_0 {call : Nat → List MV → Mem → Option Res} {S : Mem} {kc ks : Nat} {x1 : Int32} : mm_E call pX0_signAt 1 0 [some (.inr 23), some (.inl x1)] [] S kc ks = (if x1 < 0 then some (S, kc, ks, 0, (-3)) else (if (S 23 3) ≤ x1 then some (S, kc, ks, 0, (-3)) else (if 340 ≤ x1 then some (S, kc, ks, 0, (-3)) else mm_arr S 1 24 x1 (fun q1 => some (S, kc, ks, 0, S 24 q1))))) := by
  refine mm_E_eq [0] 17 ?_
  generalize mm_E call pX0_signAt 1 = k
  rfl
set_option maxRecDepth 100000 in
theorem eX0_putFound_0 {call : Nat → List MV → Mem → Option Res} {S : Mem} {kc ks : Nat} {x1 : Int32} {x2 : Int32} : mm_E call pX0_putFound 0 0 [some (.inr 23), some (.inl x1), some (.inl x2), none, none, none] [] S kc ks = mm_bd (call 5 [.inr 23, .inl x1] S) kc ks (fun S1 c1 t1 a1 => mm_bd (call 24 [.inr 1, .inl x2] S1) c1 t1 (fun S2 c2 t2 a2 => (if a1 = ((-1)) then some (S2, c2, t2, 0, 0) else (if ((S2 23 3) + a2) ≤ 340 then mm_E call pX0_putFound 0 26 [some (.inr 23), some (.inl x1), some (.inl x2), some (.inl a1), some (.inl a2), some (.inl ((S2 23 3) - 1))] [] S2 c2 t2 else some (S2, c2, t2, 0, 0))))) := by
  refine mm_E_eq [0, 26, 48] 25 ?_
  generalize mm_E call pX0_putFound 0 = k
  rfl
set_option maxRecDepth 100000 in
theorem eX0_putFound_26 {call : Nat → List MV → Mem → Option Res} {S : Mem} {kc ks : Nat} {o1 : Option MV} {x2 : Int32} {x3 : Int32} {x4 : Int32} {x5 : Int32} : mm_E call pX0_putFound 0 26 [some (.inr 23), o1, some (.inl x2), some (.inl x3), some (.inl x4), some (.inl x5)] [] S kc ks = (if x5 ≤ x3 then mm_arr S 1 24 x3 (fun q1 => mm_E call pX0_putFound 0 48 [some (.inr 23), o1, some (.inl x2), some (.inl x3), some (.inl x4), some (.inl 1)] [] (mm_put S 24 q1 x2) kc ks) else mm_arr S 1 24 x5 (fun q2 => mm_arr S 1 24 (x5 + x4) (fun q3 => mm_E call pX0_putFound 0 26 [some (.inr 23), o1, some (.inl x2), some (.inl x3), some (.inl x4), some (.inl (x5 + (-1)))] [] (mm_put S 24 q3 (S 24 q2)) kc ks))) := by
  refine mm_E_eq [0, 26, 48] 15 ?_
  generalize mm_E call pX0_putFound 0 = k
  rfl
set_option maxRecDepth 100000 in
theorem eX0_putFound_48 {call : Nat → List MV → Mem → Option Res} {S : Mem} {kc ks : Nat} {o1 : Option MV} {o2 : Option MV} {x3 : Int32} {x4 : Int32} {x5 : Int32} : mm_E call pX0_putFound 0 48 [some (.inr 23), o1, o2, some (.inl x3), some (.inl x4), some (.inl x5)] [] S kc ks = (if x4 < x5 then some (mm_put S 23 3 ((S 23 3) + x4), kc, ks, 0, 0) else mm_arr S 1 24 (x3 + x5) (fun q1 => mm_E call pX0_putFound 0 48 [some (.inr 23), o1, o2, some (.inl x3), some (.inl x4), some (.inl (x5 + 1))] [] (mm_put S 24 q1 ((-1))) kc ks)) := by
  refine mm_E_eq [0, 26, 48] 12 ?_
  generalize mm_E call pX0_putFound 0 = k
  rfl
set_option maxRecDepth 100000 in
theorem eX0_anyOf_0 {call : Nat → List MV → Mem → Option Res} {S : Mem} {kc ks : Nat} {x1 : Int32} : mm_E call pX0_anyOf 1 0 [some (.inr 23), some (.inl x1), none, none] [] S kc ks = mm_E call pX0_anyOf 1 4 [some (.inr 23), some (.inl x1), some (.inl x1), some (.inl 0)] [] S kc ks := by
  refine mm_E_eq [0, 4] 4 ?_
  generalize mm_E call pX0_anyOf 1 = k
  rfl
set_option maxRecDepth 100000 in
theorem eX0_anyOf_4 {call : Nat → List MV → Mem → Option Res} {S : Mem} {kc ks : Nat} {o1 : Option MV} {x2 : Int32} {x3 : Int32} : mm_E call pX0_anyOf 1 4 [some (.inr 23), o1, some (.inl x2), some (.inl x3)] [] S kc ks = (if (S 23 3) ≤ x3 then some (S, kc, ks, 0, (-1)) else (if 340 ≤ x3 then some (S, kc, ks, 0, (-1)) else mm_arr S 1 24 x3 (fun q1 => (if (S 24 q1) = ((-1)) then (if x2 = 0 then some (S, kc, ks, 0, x3) else mm_E call pX0_anyOf 1 4 [some (.inr 23), o1, some (.inl (x2 + (-1))), some (.inl (x3 + 1))] [] S kc ks) else mm_E call pX0_anyOf 1 4 [some (.inr 23), o1, some (.inl x2), some (.inl (x3 + 1))] [] S kc ks)))) := by
  refine mm_E_eq [0, 4] 20 ?_
  generalize mm_E call pX0_anyOf 1 = k
  rfl
