set_option maxRecDepth 100000 in
theorem eX3_clear_0 {call : Nat → List MV → Mem → Option Res} {S : Mem} {kc ks : Nat}  : mm_E call pX3_clear 0 0 [some (.inr 8)] [] S kc ks = some (mm_put S 8 2 0, kc, ks, 0, 0) := by
  refine mm_E_eq [0] 4 ?_
  generalize mm_E call pX3_clear 0 = k
  rfl
set_option maxRecDepth 100000 in
theorem eX3_count_0 {call : Nat → List MV → Mem → Option Res} {S : Mem} {kc ks : Nat}  : mm_E call pX3_count 1 0 [some (.inr 8)] [] S kc ks = some (S, kc, ks, 0, S 8 2) := by
  refine mm_E_eq [0] 3 ?_
  generalize mm_E call pX3_count 1 = k
  rfl
set_option maxRecDepth 100000 in
theorem eX3_add_0 {call : Nat → List MV → Mem → Option Res} {S : Mem} {kc ks : Nat}  : mm_E call pX3_add 1 0 [some (.inr 8), some (.inr 11), none, none, none] [] S kc ks = (if (S 8 2) < 0 then some (S, kc, ks, 0, (-1)) else (if (S 8 2) < 12 then mm_bd (call 14 [.inr 11] S) kc ks (fun S1 c1 t1 a1 => mm_bd (call 33 [.inr 8, .inl (S 8 2)] S1) c1 t1 (fun S2 c2 t2 a2 => mm_E call pX3_add 1 18 [some (.inr 8), some (.inr 11), some (.inl (S 8 2)), some (.inl a2), some (.inl 0)] [] S2 c2 t2)) else some (S, kc, ks, 0, (-1)))) := by
  refine mm_E_eq [0, 18] 16 ?_
  generalize mm_E call pX3_add 1 = k
  rfl
set_option maxRecDepth 100000 in
theorem eX3_add_18 {call : Nat → List MV → Mem → Option Res} {S : Mem} {kc ks : Nat} {x2 : Int32} {x3 : Int32} {x4 : Int32} : mm_E call pX3_add 1 18 [some (.inr 8), some (.inr 11), some (.inl x2), some (.inl x3), some (.inl x4)] [] S kc ks = mm_bd (call 7 [.inr 11] S) kc ks (fun S1 c1 t1 a1 => (if a1 ≤ x4 then some (mm_put S1 8 2 ((S1 8 2) + 1), c1, t1, 0, x2) else (if 40 ≤ x4 then some (mm_put S1 8 2 ((S1 8 2) + 1), c1, t1, 0, x2) else mm_bd (call 12 [.inr 11, .inl x4] S1) c1 t1 (fun S2 c2 t2 a2 => mm_arr S2 1 9 (x3 + x4) (fun q3 => mm_bd (call 13 [.inr 11, .inl x4] (mm_put S2 9 q3 a2)) c2 t2 (fun S4 c4 t4 a4 => mm_arr S4 1 10 (x3 + x4) (fun q5 => mm_E call pX3_add 1 18 [some (.inr 8), some (.inr 11), some (.inl x2), some (.inl x3), some (.inl (x4 + 1))] [] (mm_put S4 10 q5 (x3 + a4)) c4 t4))))))) := by
  refine mm_E_eq [0, 18] 29 ?_
  generalize mm_E call pX3_add 1 = k
  rfl
set_option maxRecDepth 100000 in
theorem eX3_startOf_0 {call : Nat → List MV → Mem → Option Res} {S : Mem} {kc ks : Nat} {x1 : Int32} : mm_E call pX3_startOf 1 0 [some (.inr 8), some (.inl x1)] [] S kc ks = some (S, kc, ks, 0, x1 * 40) := by
  refine mm_E_eq [0] 4 ?_
  generalize mm_E call pX3_startOf 1 = k
  rfl
set_option maxRecDepth 100000 in
theorem eX3_signAt_0 {call : Nat → List MV → Mem → Option Res} {S : Mem} {kc ks : Nat} {x1 : Int32} : mm_E call pX3_signAt 1 0 [some (.inr 8), some (.inl x1)] [] S kc ks = (if x1 < 0 then some (S, kc, ks, 0, (-1)) else (if 480 ≤ x1 then some (S, kc, ks, 0, (-1)) else mm_arr S 1 9 x1 (fun q1 => some (S, kc, ks, 0, S 9 q1)))) := by
  refine mm_E_eq [0] 13 ?_
  generalize mm_E call pX3_signAt 1 = k
  rfl
set_option maxRecDepth 100000 in
theorem eX3_endAt_0 {call : Nat → List MV → Mem → Option Res} {S : Mem} {kc ks : Nat} {x1 : Int32} : mm_E call pX3_endAt 1 0 [some (.inr 8), some (.inl x1)] [] S kc ks = (if x1 < 0 then some (S, kc, ks, 0, x1) else (if 480 ≤ x1 then some (S, kc, ks, 0, x1) else mm_arr S 1 10 x1 (fun q1 => some (S, kc, ks, 0, S 10 q1)))) := by
  refine mm_E_eq [0] 13 ?_
  generalize mm_E call pX3_endAt 1 = k
  rfl
