set_option maxRecDepth 100000 in
theorem eX6_fell_0 {call : Nat → List MV → Mem → Option Res} {S : Mem} {kc ks : Nat}  : mm_E call pX6_fell 0 0 [some (.inr 19)] [] S kc ks = some (mm_put (mm_put (mm_put S 19 1 0) 19 2 0) 19 3 0, kc, ks, 0, 0) := by
  refine mm_E_eq [0] 10 ?_
  generalize mm_E call pX6_fell 0 = k
  rfl
set_option maxRecDepth 100000 in
theorem eX6_stand_0 {call : Nat → List MV → Mem → Option Res} {S : Mem} {kc ks : Nat}  : mm_E call pX6_stand 0 0 [some (.inr 19)] [] S kc ks = some (mm_put S 19 3 1, kc, ks, 0, 0) := by
  refine mm_E_eq [0] 4 ?_
  generalize mm_E call pX6_stand 0 = k
  rfl
set_option maxRecDepth 100000 in
theorem eX6_stands_0 {call : Nat → List MV → Mem → Option Res} {S : Mem} {kc ks : Nat}  : mm_E call pX6_stands 2 0 [some (.inr 19)] [] S kc ks = (if (S 19 3) = 0 ∨ (S 19 3) = 1 then some (S, kc, ks, 0, S 19 3) else none) := by
  refine mm_E_eq [0] 3 ?_
  generalize mm_E call pX6_stands 2 = k
  rfl
set_option maxRecDepth 100000 in
theorem eX6_count_0 {call : Nat → List MV → Mem → Option Res} {S : Mem} {kc ks : Nat}  : mm_E call pX6_count 1 0 [some (.inr 19)] [] S kc ks = some (S, kc, ks, 0, S 19 1) := by
  refine mm_E_eq [0] 3 ?_
  generalize mm_E call pX6_count 1 = k
  rfl
set_option maxRecDepth 100000 in
theorem eX6_failCount_0 {call : Nat → List MV → Mem → Option Res} {S : Mem} {kc ks : Nat}  : mm_E call pX6_failCount 1 0 [some (.inr 19)] [] S kc ks = some (S, kc, ks, 0, S 19 2) := by
  refine mm_E_eq [0] 3 ?_
  generalize mm_E call pX6_failCount 1 = k
  rfl
set_option maxRecDepth 100000 in
theorem eX6_add_0 {call : Nat → List MV → Mem → Option Res} {S : Mem} {kc ks : Nat} {x1 : Int32} {x2 : Int32} : mm_E call pX6_add 1 0 [some (.inr 19), some (.inl x1), some (.inl x2), none, none] [] S kc ks = (if (S 19 1) < 0 then some (S, kc, ks, 0, (-1)) else (if (S 19 1) < 300 then mm_E call pX6_add 1 18 [some (.inr 19), some (.inl x1), some (.inl x2), some (.inl (S 19 1)), some (.inl 0)] [] (mm_put S 19 1 ((S 19 1) + 1)) kc ks else some (S, kc, ks, 0, (-1)))) := by
  refine mm_E_eq [0, 18] 16 ?_
  generalize mm_E call pX6_add 1 = k
  rfl
set_option maxRecDepth 100000 in
theorem eX6_add_18 {call : Nat → List MV → Mem → Option Res} {S : Mem} {kc ks : Nat} {x1 : Int32} {x2 : Int32} {x3 : Int32} {x4 : Int32} : mm_E call pX6_add 1 18 [some (.inr 19), some (.inl x1), some (.inl x2), some (.inl x3), some (.inl x4)] [] S kc ks = (if 9 ≤ x4 then mm_bd (call 88 [.inr 19, .inl x3, .inl 7, .inl x1] S) kc ks (fun S1 c1 t1 a1 => mm_bd (call 88 [.inr 19, .inl x3, .inl 8, .inl x2] S1) c1 t1 (fun S2 c2 t2 a2 => (if x1 = ((-1)) then some (S2, c2, t2, 0, x3) else mm_bd (call 86 [.inr 19, .inl x3, .inl x1] S2) c2 t2 (fun S3 c3 t3 a3 => some (S3, c3, t3, 0, x3))))) else mm_bd (call 88 [.inr 19, .inl x3, .inl x4, .inl ((-1))] S) kc ks (fun S4 c4 t4 a4 => mm_E call pX6_add 1 18 [some (.inr 19), some (.inl x1), some (.inl x2), some (.inl x3), some (.inl (x4 + 1))] [] S4 c4 t4)) := by
  refine mm_E_eq [0, 18] 22 ?_
  generalize mm_E call pX6_add 1 = k
  rfl
set_option maxRecDepth 100000 in
theorem eX6_makeFail_0 {call : Nat → List MV → Mem → Option Res} {S : Mem} {kc ks : Nat} {x1 : Int32} : mm_E call pX6_makeFail 0 0 [some (.inr 19), some (.inl x1)] [] S kc ks = mm_bd (call 88 [.inr 19, .inl x1, .inl 0, .inl 0] S) kc ks (fun S1 c1 t1 a1 => some (mm_put S1 19 2 ((S1 19 2) + 1), c1, t1, 0, 0)) := by
  refine mm_E_eq [0] 12 ?_
  generalize mm_E call pX6_makeFail 0 = k
  rfl
set_option maxRecDepth 100000 in
theorem eX6_makeLeaf_0 {call : Nat → List MV → Mem → Option Res} {S : Mem} {kc ks : Nat} {x1 : Int32} {x2 : Int32} : mm_E call pX6_makeLeaf 0 0 [some (.inr 19), some (.inl x1), some (.inl x2)] [] S kc ks = mm_bd (call 88 [.inr 19, .inl x1, .inl 0, .inl 1] S) kc ks (fun S1 c1 t1 a1 => mm_bd (call 88 [.inr 19, .inl x1, .inl 1, .inl x2] S1) c1 t1 (fun S2 c2 t2 a2 => some (S2, c2, t2, 0, 0))) := by
  refine mm_E_eq [0] 11 ?_
  generalize mm_E call pX6_makeLeaf 0 = k
  rfl
set_option maxRecDepth 100000 in
theorem eX6_makeTest_0 {call : Nat → List MV → Mem → Option Res} {S : Mem} {kc ks : Nat} {x1 : Int32} {x2 : Int32} {x3 : Int32} {x4 : Int32} : mm_E call pX6_makeTest 0 0 [some (.inr 19), some (.inl x1), some (.inl x2), some (.inl x3), some (.inl x4)] [] S kc ks = mm_bd (call 88 [.inr 19, .inl x1, .inl 0, .inl 2] S) kc ks (fun S1 c1 t1 a1 => mm_bd (call 88 [.inr 19, .inl x1, .inl 1, .inl x2] S1) c1 t1 (fun S2 c2 t2 a2 => mm_bd (call 88 [.inr 19, .inl x1, .inl 2, .inl x3] S2) c2 t2 (fun S3 c3 t3 a3 => mm_bd (call 88 [.inr 19, .inl x1, .inl 3, .inl x4] S3) c3 t3 (fun S4 c4 t4 a4 => mm_bd (call 88 [.inr 19, .inl x1, .inl 4, .inl 0] S4) c4 t4 (fun S5 c5 t5 a5 => some (S5, c5, t5, 0, 0)))))) := by
  refine mm_E_eq [0] 26 ?_
  generalize mm_E call pX6_makeTest 0 = k
  rfl
set_option maxRecDepth 100000 in
theorem eX6_kindOf_0 {call : Nat → List MV → Mem → Option Res} {S : Mem} {kc ks : Nat} {x1 : Int32} : mm_E call pX6_kindOf 1 0 [some (.inr 19), some (.inl x1)] [] S kc ks = mm_bd (call 87 [.inr 19, .inl x1, .inl 0] S) kc ks (fun S1 c1 t1 a1 => some (S1, c1, t1, 0, a1)) := by
  refine mm_E_eq [0] 5 ?_
  generalize mm_E call pX6_kindOf 1 = k
  rfl
set_option maxRecDepth 100000 in
theorem eX6_testedPlace_0 {call : Nat → List MV → Mem → Option Res} {S : Mem} {kc ks : Nat} {x1 : Int32} : mm_E call pX6_testedPlace 1 0 [some (.inr 19), some (.inl x1)] [] S kc ks = mm_bd (call 87 [.inr 19, .inl x1, .inl 3] S) kc ks (fun S1 c1 t1 a1 => some (S1, c1, t1, 0, a1)) := by
  refine mm_E_eq [0] 5 ?_
  generalize mm_E call pX6_testedPlace 1 = k
  rfl
set_option maxRecDepth 100000 in
theorem eX6_makerOf_0 {call : Nat → List MV → Mem → Option Res} {S : Mem} {kc ks : Nat} {x1 : Int32} : mm_E call pX6_makerOf 1 0 [some (.inr 19), some (.inl x1)] [] S kc ks = mm_bd (call 87 [.inr 19, .inl x1, .inl 8] S) kc ks (fun S1 c1 t1 a1 => some (S1, c1, t1, 0, a1)) := by
  refine mm_E_eq [0] 5 ?_
  generalize mm_E call pX6_makerOf 1 = k
  rfl
set_option maxRecDepth 100000 in
theorem eX6_tell_0 {call : Nat → List MV → Mem → Option Res} {S : Mem} {kc ks : Nat} {x1 : Int32} {x2 : Int32} : mm_E call pX6_tell 1 0 [some (.inr 19), some (.inl x1), some (.inl x2)] [] S kc ks = (if x2 = 100 then mm_bd (call 87 [.inr 19, .inl x1, .inl 7] S) kc ks (fun S1 c1 t1 a1 => some (S1, c1, t1, 0, a1)) else (if x2 = 101 then mm_bd (call 87 [.inr 19, .inl x1, .inl 8] S) kc ks (fun S2 c2 t2 a2 => some (S2, c2, t2, 0, a2)) else (if 4 < x2 then mm_bd (call 85 [.inr 19, .inl x1, .inl (x2 - 5)] S) kc ks (fun S3 c3 t3 a3 => some (S3, c3, t3, 0, a3)) else mm_bd (call 87 [.inr 19, .inl x1, .inl x2] S) kc ks (fun S4 c4 t4 a4 => some (S4, c4, t4, 0, a4))))) := by
  refine mm_E_eq [0] 16 ?_
  generalize mm_E call pX6_tell 1 = k
  rfl
set_option maxRecDepth 100000 in
theorem eX6_branchOf_0 {call : Nat → List MV → Mem → Option Res} {S : Mem} {kc ks : Nat} {x1 : Int32} {x2 : Int32} : mm_E call pX6_branchOf 1 0 [some (.inr 19), some (.inl x1), some (.inl x2), none, none] [] S kc ks = mm_bd (call 87 [.inr 19, .inl x1, .inl 5] S) kc ks (fun S1 c1 t1 a1 => mm_E call pX6_branchOf 1 7 [some (.inr 19), some (.inl x1), some (.inl x2), some (.inl a1), some (.inl 0)] [] S1 c1 t1) := by
  refine mm_E_eq [0, 7] 7 ?_
  generalize mm_E call pX6_branchOf 1 = k
  rfl
set_option maxRecDepth 100000 in
theorem eX6_branchOf_7 {call : Nat → List MV → Mem → Option Res} {S : Mem} {kc ks : Nat} {o1 : Option MV} {x2 : Int32} {x3 : Int32} {x4 : Int32} : mm_E call pX6_branchOf 1 7 [some (.inr 19), o1, some (.inl x2), some (.inl x3), some (.inl x4)] [] S kc ks = (if 8 ≤ x4 then some (S, kc, ks, 0, (-1)) else (if x3 = ((-1)) then some (S, kc, ks, 0, (-1)) else mm_bd (call 87 [.inr 19, .inl x3, .inl 8] S) kc ks (fun S1 c1 t1 a1 => (if a1 = x2 then some (S1, c1, t1, 0, x3) else mm_bd (call 87 [.inr 19, .inl x3, .inl 6] S1) c1 t1 (fun S2 c2 t2 a2 => mm_E call pX6_branchOf 1 7 [some (.inr 19), o1, some (.inl x2), some (.inl a2), some (.inl (x4 + 1))] [] S2 c2 t2))))) := by
  refine mm_E_eq [0, 7] 19 ?_
  generalize mm_E call pX6_branchOf 1 = k
  rfl
set_option maxRecDepth 100000 in
theorem eX6_branchTowards_0 {call : Nat → List MV → Mem → Option Res} {S : Mem} {kc ks : Nat} {x1 : Int32} {x2 : Int32} : mm_E call pX6_branchTowards 1 0 [some (.inr 19), some (.inl x1), some (.inl x2), none, none, none] [] S kc ks = mm_bd (call 87 [.inr 19, .inl x1, .inl 5] S) kc ks (fun S1 c1 t1 a1 => mm_E call pX6_branchTowards 1 9 [some (.inr 19), some (.inl x1), some (.inl x2), some (.inl ((-1))), some (.inl a1), some (.inl 0)] [] S1 c1 t1) := by
  refine mm_E_eq [0, 9] 9 ?_
  generalize mm_E call pX6_branchTowards 1 = k
  rfl
set_option maxRecDepth 100000 in
theorem eX6_branchTowards_9 {call : Nat → List MV → Mem → Option Res} {S : Mem} {kc ks : Nat} {o1 : Option MV} {x2 : Int32} {x3 : Int32} {x4 : Int32} {x5 : Int32} : mm_E call pX6_branchTowards 1 9 [some (.inr 19), o1, some (.inl x2), some (.inl x3), some (.inl x4), some (.inl x5)] [] S kc ks = (if 8 ≤ x5 then some (S, kc, ks, 0, x3) else (if x4 = ((-1)) then some (S, kc, ks, 0, x3) else (if x2 < x4 then some (S, kc, ks, 0, x3) else mm_bd (call 87 [.inr 19, .inl x4, .inl 6] S) kc ks (fun S1 c1 t1 a1 => mm_E call pX6_branchTowards 1 9 [some (.inr 19), o1, some (.inl x2), some (.inl x4), some (.inl a1), some (.inl (x5 + 1))] [] S1 c1 t1)))) := by
  refine mm_E_eq [0, 9] 18 ?_
  generalize mm_E call pX6_branchTowards 1 = k
  rfl
set_option maxRecDepth 100000 in
theorem eX6_failNode_0 {call : Nat → List MV → Mem → Option Res} {S : Mem} {kc ks : Nat} {x1 : Int32} : mm_E call pX6_failNode 1 0 [some (.inr 19), some (.inl x1), none, none] [] S kc ks = mm_E call pX6_failNode 1 4 [some (.inr 19), some (.inl x1), some (.inl x1), some (.inl 0)] [] S kc ks := by
  refine mm_E_eq [0, 4] 4 ?_
  generalize mm_E call pX6_failNode 1 = k
  rfl
set_option maxRecDepth 100000 in
theorem eX6_failNode_4 {call : Nat → List MV → Mem → Option Res} {S : Mem} {kc ks : Nat} {o1 : Option MV} {x2 : Int32} {x3 : Int32} : mm_E call pX6_failNode 1 4 [some (.inr 19), o1, some (.inl x2), some (.inl x3)] [] S kc ks = (if (S 19 1) ≤ x3 then some (S, kc, ks, 0, (-1)) else mm_bd (call 77 [.inr 19, .inl x3] S) kc ks (fun S1 c1 t1 a1 => (if a1 = 0 then (if x2 = 0 then some (S1, c1, t1, 0, x3) else mm_E call pX6_failNode 1 4 [some (.inr 19), o1, some (.inl (x2 + (-1))), some (.inl (x3 + 1))] [] S1 c1 t1) else mm_E call pX6_failNode 1 4 [some (.inr 19), o1, some (.inl x2), some (.inl (x3 + 1))] [] S1 c1 t1))) := by
  refine mm_E_eq [0, 4] 13 ?_
  generalize mm_E call pX6_failNode 1 = k
  rfl
set_option maxRecDepth 100000 in
theorem eX6_hasLeafOf_0 {call : Nat → List MV → Mem → Option Res} {S : Mem} {kc ks : Nat} {x1 : Int32} : mm_E call pX6_hasLeafOf 2 0 [some (.inr 19), some (.inl x1), none] [] S kc ks = mm_E call pX6_hasLeafOf 2 2 [some (.inr 19), some (.inl x1), some (.inl 0)] [] S kc ks := by
  refine mm_E_eq [0, 2] 2 ?_
  generalize mm_E call pX6_hasLeafOf 2 = k
  rfl
set_option maxRecDepth 100000 in
theorem eX6_hasLeafOf_2 {call : Nat → List MV → Mem → Option Res} {S : Mem} {kc ks : Nat} {x1 : Int32} {x2 : Int32} : mm_E call pX6_hasLeafOf 2 2 [some (.inr 19), some (.inl x1), some (.inl x2)] [] S kc ks = (if (S 19 1) ≤ x2 then some (S, kc, ks, 0, 0) else mm_bd (call 77 [.inr 19, .inl x2] S) kc ks (fun S1 c1 t1 a1 => (if a1 = 1 then mm_bd (call 87 [.inr 19, .inl x2, .inl 1] S1) c1 t1 (fun S2 c2 t2 a2 => (if a2 = x1 then some (S2, c2, t2, 0, 1) else mm_E call pX6_hasLeafOf 2 2 [some (.inr 19), some (.inl x1), some (.inl (x2 + 1))] [] S2 c2 t2)) else mm_E call pX6_hasLeafOf 2 2 [some (.inr 19), some (.inl x1), some (.inl (x2 + 1))] [] S1 c1 t1))) := by
  refine mm_E_eq [0, 2] 17 ?_
  generalize mm_E call pX6_hasLeafOf 2 = k
  rfl
set_option maxRecDepth 100000 in
theorem eX6_branchAt_0 {call : Nat → List MV → Mem → Option Res} {S : Mem} {kc ks : Nat} {x1 : Int32} {x2 : Int32} : mm_E call pX6_branchAt 1 0 [some (.inr 19), some (.inl x1), some (.inl x2), none, none] [] S kc ks = mm_bd (call 87 [.inr 19, .inl x1, .inl 4] S) kc ks (fun S1 c1 t1 a1 => (if x2 < a1 then mm_bd (call 87 [.inr 19, .inl x1, .inl 5] S1) c1 t1 (fun S2 c2 t2 a2 => mm_E call pX6_branchAt 1 15 [some (.inr 19), some (.inl x1), some (.inl x2), some (.inl a2), some (.inl 0)] [] S2 c2 t2) else some (S1, c1, t1, 0, (-1)))) := by
  refine mm_E_eq [0, 15] 13 ?_
  generalize mm_E call pX6_branchAt 1 = k
  rfl
set_option maxRecDepth 100000 in
theorem eX6_branchAt_15 {call : Nat → List MV → Mem → Option Res} {S : Mem} {kc ks : Nat} {o1 : Option MV} {x2 : Int32} {x3 : Int32} {x4 : Int32} : mm_E call pX6_branchAt 1 15 [some (.inr 19), o1, some (.inl x2), some (.inl x3), some (.inl x4)] [] S kc ks = (if x2 ≤ x4 then some (S, kc, ks, 0, x3) else mm_bd (call 87 [.inr 19, .inl x3, .inl 6] S) kc ks (fun S1 c1 t1 a1 => mm_E call pX6_branchAt 1 15 [some (.inr 19), o1, some (.inl x2), some (.inl a1), some (.inl (x4 + 1))] [] S1 c1 t1)) := by
  refine mm_E_eq [0, 15] 10 ?_
  generalize mm_E call pX6_branchAt 1 = k
  rfl
set_option maxRecDepth 100000 in
theorem eX6_hang_0 {call : Nat → List MV → Mem → Option Res} {S : Mem} {kc ks : Nat} {x1 : Int32} {x2 : Int32} : mm_E call pX6_hang 0 0 [some (.inr 19), some (.inl x1), some (.inl x2), none] [] S kc ks = mm_bd (call 87 [.inr 19, .inl x2, .inl 4] S) kc ks (fun S1 c1 t1 a1 => (if a1 = 0 then mm_bd (call 88 [.inr 19, .inl x2, .inl 5, .inl x1] S1) c1 t1 (fun S2 c2 t2 a2 => mm_bd (call 88 [.inr 19, .inl x2, .inl 4, .inl (a1 + 1)] S2) c2 t2 (fun S3 c3 t3 a3 => some (S3, c3, t3, 0, 0))) else mm_bd (call 85 [.inr 19, .inl x2, .inl (a1 - 1)] S1) c1 t1 (fun S4 c4 t4 a4 => mm_bd (call 88 [.inr 19, .inl a4, .inl 6, .inl x1] S4) c4 t4 (fun S5 c5 t5 a5 => mm_bd (call 88 [.inr 19, .inl x2, .inl 4, .inl (a1 + 1)] S5) c5 t5 (fun S6 c6 t6 a6 => some (S6, c6, t6, 0, 0)))))) := by
  refine mm_E_eq [0] 25 ?_
  generalize mm_E call pX6_hang 0 = k
  rfl
set_option maxRecDepth 100000 in
theorem eX6_get_0 {call : Nat → List MV → Mem → Option Res} {S : Mem} {kc ks : Nat} {x1 : Int32} {x2 : Int32} : mm_E call pX6_get 1 0 [some (.inr 19), some (.inl x1), some (.inl x2), none] [] S kc ks = (if x1 < 0 then some (S, kc, ks, 0, (-1)) else (if (S 19 1) ≤ x1 then some (S, kc, ks, 0, (-1)) else (if x2 < 0 then some (S, kc, ks, 0, (-1)) else (if 9 ≤ x2 then some (S, kc, ks, 0, (-1)) else mm_arr S 1 20 ((x1 * 9) + x2) (fun q1 => some (S, kc, ks, 0, S 20 q1)))))) := by
  refine mm_E_eq [0] 26 ?_
  generalize mm_E call pX6_get 1 = k
  rfl
set_option maxRecDepth 100000 in
theorem eX6_set_0 {call : Nat → List MV → Mem → Option Res} {S : Mem} {kc ks : Nat} {x1 : Int32} {x2 : Int32} {x3 : Int32} : mm_E call pX6_set 0 0 [some (.inr 19), some (.inl x1), some (.inl x2), some (.inl x3)] [] S kc ks = (if x1 < 0 then some (S, kc, ks, 0, 0) else (if (S 19 1) ≤ x1 then some (S, kc, ks, 0, 0) else (if x2 < 0 then some (S, kc, ks, 0, 0) else (if 9 ≤ x2 then some (S, kc, ks, 0, 0) else mm_arr S 1 20 ((x1 * 9) + x2) (fun q1 => some (mm_put S 20 q1 x3, kc, ks, 0, 0)))))) := by
  refine mm_E_eq [0] 21 ?_
  generalize mm_E call pX6_set 0 = k
  rfl
