set_option maxRecDepth 100000 in
theorem eX5_begin_0 {call : Nat → List MV → Mem → Option Res} {S : Mem} {kc ks : Nat} {x2 : Int32} : mm_E call pX5_begin 0 0 [some (.inr 21), some (.inr 7), some (.inl x2), none, none, none, none] [] S kc ks = mm_bd (call 54 [.inr 21, .inl 0, .inl (if 3 < x2 then 3 else x2)] (mm_put S 21 3 ((-1)))) kc ks (fun S1 c1 t1 a1 => mm_E call pX5_begin 0 12 [some (.inr 21), some (.inr 7), some (.inl x2), some (.inl 0), none, none, none] [] S1 c1 t1) := by
  refine mm_E_eq [0, 12, 35, 51] 12 ?_
  generalize mm_E call pX5_begin 0 = k
  rfl
set_option maxRecDepth 100000 in
theorem eX5_begin_12 {call : Nat → List MV → Mem → Option Res} {S : Mem} {kc ks : Nat} {o2 : Option MV} {x3 : Int32} {o4 : Option MV} {o5 : Option MV} {o6 : Option MV} : mm_E call pX5_begin 0 12 [some (.inr 21), some (.inr 7), o2, some (.inl x3), o4, o5, o6] [] S kc ks = (if (S 21 4) ≤ x3 then mm_E call pX5_begin 0 35 [some (.inr 21), some (.inr 7), o2, some (.inl 0), o4, o5, o6] [] S kc ks else (if 3 ≤ x3 then mm_E call pX5_begin 0 35 [some (.inr 21), some (.inr 7), o2, some (.inl 0), o4, o5, o6] [] S kc ks else mm_arr S 1 7 x3 (fun q1 => mm_bd (call 65 [.inr 21, .inl (((S 21 3) + 6) + x3), .inl (S 7 q1)] S) kc ks (fun S2 c2 t2 a2 => mm_E call pX5_begin 0 12 [some (.inr 21), some (.inr 7), o2, some (.inl (x3 + 1)), o4, o5, o6] [] S2 c2 t2)))) := by
  refine mm_E_eq [0, 12, 35, 51] 21 ?_
  generalize mm_E call pX5_begin 0 = k
  rfl
set_option maxRecDepth 100000 in
theorem eX5_begin_35 {call : Nat → List MV → Mem → Option Res} {S : Mem} {kc ks : Nat} {o2 : Option MV} {x3 : Int32} {o4 : Option MV} {o5 : Option MV} {o6 : Option MV} : mm_E call pX5_begin 0 35 [some (.inr 21), some (.inr 7), o2, some (.inl x3), o4, o5, o6] [] S kc ks = mm_bd (call 31 [.inr 8] S) kc ks (fun S1 c1 t1 a1 => (if a1 ≤ x3 then some (S1, c1, t1, 0, 0) else mm_bd (call 55 [.inr 21, .inl x3] S1) c1 t1 (fun S2 c2 t2 a2 => mm_bd (call 33 [.inr 8, .inl x3] S2) c2 t2 (fun S3 c3 t3 a3 => mm_E call pX5_begin 0 51 [some (.inr 21), some (.inr 7), o2, some (.inl x3), some (.inl a2), some (.inl a3), some (.inl 0)] [] S3 c3 t3)))) := by
  refine mm_E_eq [0, 12, 35, 51] 16 ?_
  generalize mm_E call pX5_begin 0 = k
  rfl
set_option maxRecDepth 100000 in
theorem eX5_begin_51 {call : Nat → List MV → Mem → Option Res} {S : Mem} {kc ks : Nat} {o2 : Option MV} {x3 : Int32} {x4 : Int32} {x5 : Int32} {x6 : Int32} : mm_E call pX5_begin 0 51 [some (.inr 21), some (.inr 7), o2, some (.inl x3), some (.inl x4), some (.inl x5), some (.inl x6)] [] S kc ks = (if (S 21 4) ≤ x6 then mm_E call pX5_begin 0 35 [some (.inr 21), some (.inr 7), o2, some (.inl (x3 + 1)), some (.inl x4), some (.inl x5), some (.inl x6)] [] S kc ks else mm_bd (call 61 [.inr 21, .inl x5] S) kc ks (fun S1 c1 t1 a1 => mm_bd (call 65 [.inr 21, .inl ((x4 + 1) + x6), .inl a1] S1) c1 t1 (fun S2 c2 t2 a2 => mm_bd (call 35 [.inr 8, .inl x5] S2) c2 t2 (fun S3 c3 t3 a3 => mm_E call pX5_begin 0 51 [some (.inr 21), some (.inr 7), o2, some (.inl x3), some (.inl x4), some (.inl a3), some (.inl (x6 + 1))] [] S3 c3 t3)))) := by
  refine mm_E_eq [0, 12, 35, 51] 21 ?_
  generalize mm_E call pX5_begin 0 = k
  rfl
set_option maxRecDepth 100000 in
theorem eX5_hasOpen_0 {call : Nat → List MV → Mem → Option Res} {S : Mem} {kc ks : Nat}  : mm_E call pX5_hasOpen 2 0 [some (.inr 21)] [] S kc ks = (if (S 21 3) < 0 then some (S, kc, ks, 0, 0) else some (S, kc, ks, 0, 1)) := by
  refine mm_E_eq [0] 6 ?_
  generalize mm_E call pX5_hasOpen 2 = k
  rfl
set_option maxRecDepth 100000 in
theorem eX5_drop_0 {call : Nat → List MV → Mem → Option Res} {S : Mem} {kc ks : Nat}  : mm_E call pX5_drop 0 0 [some (.inr 21)] [] S kc ks = mm_bd (call 63 [.inr 21, .inl 0] S) kc ks (fun S1 c1 t1 a1 => mm_bd (call 63 [.inr 21, .inl 1] (mm_put S1 21 3 a1)) c1 t1 (fun S2 c2 t2 a2 => mm_bd (call 63 [.inr 21, .inl 2] (mm_put S2 21 4 (if a2 < 0 then 0 else a2))) c2 t2 (fun S3 c3 t3 a3 => some (mm_put S3 21 5 (if a3 < 0 then 0 else a3), c3, t3, 0, 0)))) := by
  refine mm_E_eq [0] 20 ?_
  generalize mm_E call pX5_drop 0 = k
  rfl
set_option maxRecDepth 100000 in
theorem eX5_placeCount_0 {call : Nat → List MV → Mem → Option Res} {S : Mem} {kc ks : Nat}  : mm_E call pX5_placeCount 1 0 [some (.inr 21)] [] S kc ks = some (S, kc, ks, 0, S 21 4) := by
  refine mm_E_eq [0] 3 ?_
  generalize mm_E call pX5_placeCount 1 = k
  rfl
set_option maxRecDepth 100000 in
theorem eX5_lineCount_0 {call : Nat → List MV → Mem → Option Res} {S : Mem} {kc ks : Nat}  : mm_E call pX5_lineCount 1 0 [some (.inr 21)] [] S kc ks = some (S, kc, ks, 0, S 21 5) := by
  refine mm_E_eq [0] 3 ?_
  generalize mm_E call pX5_lineCount 1 = k
  rfl
set_option maxRecDepth 100000 in
theorem eX5_openNode_0 {call : Nat → List MV → Mem → Option Res} {S : Mem} {kc ks : Nat}  : mm_E call pX5_openNode 1 0 [some (.inr 21)] [] S kc ks = mm_bd (call 63 [.inr 21, .inl 3] S) kc ks (fun S1 c1 t1 a1 => some (S1, c1, t1, 0, a1)) := by
  refine mm_E_eq [0] 4 ?_
  generalize mm_E call pX5_openNode 1 = k
  rfl
set_option maxRecDepth 100000 in
theorem eX5_typeAt_0 {call : Nat → List MV → Mem → Option Res} {S : Mem} {kc ks : Nat} {x1 : Int32} : mm_E call pX5_typeAt 1 0 [some (.inr 21), some (.inl x1)] [] S kc ks = mm_bd (call 64 [.inr 21, .inl (((S 21 3) + 6) + x1)] S) kc ks (fun S1 c1 t1 a1 => some (S1, c1, t1, 0, a1)) := by
  refine mm_E_eq [0] 9 ?_
  generalize mm_E call pX5_typeAt 1 = k
  rfl
set_option maxRecDepth 100000 in
theorem eX5_firstRow_0 {call : Nat → List MV → Mem → Option Res} {S : Mem} {kc ks : Nat}  : mm_E call pX5_firstRow 1 0 [some (.inr 21)] [] S kc ks = mm_bd (call 62 [.inr 21, .inl 0] S) kc ks (fun S1 c1 t1 a1 => mm_bd (call 64 [.inr 21, .inl a1] S1) c1 t1 (fun S2 c2 t2 a2 => some (S2, c2, t2, 0, a2))) := by
  refine mm_E_eq [0] 6 ?_
  generalize mm_E call pX5_firstRow 1 = k
  rfl
set_option maxRecDepth 100000 in
theorem eX5_splitEithers_0 {call : Nat → List MV → Mem → Option Res} {S : Mem} {kc ks : Nat}  : mm_E call pX5_splitEithers 2 0 [some (.inr 21), none, none] [] S kc ks = (if 40 < (S 21 4) then some (S, kc, ks, 0, 0) else (if (S 21 5) ≤ 60 then mm_E call pX5_splitEithers 2 12 [some (.inr 21), some (.inl 0), none] [] S kc ks else some (S, kc, ks, 0, 0))) := by
  refine mm_E_eq [0, 12, 18] 10 ?_
  generalize mm_E call pX5_splitEithers 2 = k
  rfl
set_option maxRecDepth 100000 in
theorem eX5_splitEithers_12 {call : Nat → List MV → Mem → Option Res} {S : Mem} {kc ks : Nat} {x1 : Int32} {o2 : Option MV} : mm_E call pX5_splitEithers 2 12 [some (.inr 21), some (.inl x1), o2] [] S kc ks = (if (S 21 5) ≤ x1 then some (S, kc, ks, 0, 1) else mm_E call pX5_splitEithers 2 18 [some (.inr 21), some (.inl x1), some (.inl 0)] [] S kc ks) := by
  refine mm_E_eq [0, 12, 18] 6 ?_
  generalize mm_E call pX5_splitEithers 2 = k
  rfl
set_option maxRecDepth 100000 in
theorem eX5_splitEithers_18 {call : Nat → List MV → Mem → Option Res} {S : Mem} {kc ks : Nat} {x1 : Int32} {x2 : Int32} : mm_E call pX5_splitEithers 2 18 [some (.inr 21), some (.inl x1), some (.inl x2)] [] S kc ks = (if (S 21 4) ≤ x2 then mm_E call pX5_splitEithers 2 12 [some (.inr 21), some (.inl (x1 + 1)), some (.inl x2)] [] S kc ks else mm_bd (call 56 [.inr 21, .inl x1, .inl x2] S) kc ks (fun S1 c1 t1 a1 => (if a1 = 0 then some (S1, c1, t1, 0, 0) else mm_E call pX5_splitEithers 2 18 [some (.inr 21), some (.inl x1), some (.inl (x2 + 1))] [] S1 c1 t1))) := by
  refine mm_E_eq [0, 12, 18] 11 ?_
  generalize mm_E call pX5_splitEithers 2 = k
  rfl
set_option maxRecDepth 100000 in
theorem eX5_firstTested_0 {call : Nat → List MV → Mem → Option Res} {S : Mem} {kc ks : Nat}  : mm_E call pX5_firstTested 1 0 [some (.inr 21), none] [] S kc ks = mm_E call pX5_firstTested 1 2 [some (.inr 21), some (.inl 0)] [] S kc ks := by
  refine mm_E_eq [0, 2] 2 ?_
  generalize mm_E call pX5_firstTested 1 = k
  rfl
set_option maxRecDepth 100000 in
theorem eX5_firstTested_2 {call : Nat → List MV → Mem → Option Res} {S : Mem} {kc ks : Nat} {x1 : Int32} : mm_E call pX5_firstTested 1 2 [some (.inr 21), some (.inl x1)] [] S kc ks = (if (S 21 4) ≤ x1 then some (S, kc, ks, 0, (-1)) else mm_bd (call 62 [.inr 21, .inl 0] S) kc ks (fun S1 c1 t1 a1 => mm_bd (call 64 [.inr 21, .inl ((a1 + 1) + x1)] S1) c1 t1 (fun S2 c2 t2 a2 => (if a2 = ((-1)) then mm_E call pX5_firstTested 1 2 [some (.inr 21), some (.inl (x1 + 1))] [] S2 c2 t2 else some (S2, c2, t2, 0, x1))))) := by
  refine mm_E_eq [0, 2] 17 ?_
  generalize mm_E call pX5_firstTested 1 = k
  rfl
set_option maxRecDepth 100000 in
theorem eX5_keepFor_0 {call : Nat → List MV → Mem → Option Res} {S : Mem} {kc ks : Nat} {x1 : Int32} {x2 : Int32} : mm_E call pX5_keepFor 0 0 [some (.inr 21), some (.inl x1), some (.inl x2)] [] S kc ks = mm_bd (call 65 [.inr 21, .inl ((S 21 3) + 1), .inl (S 21 4)] S) kc ks (fun S1 c1 t1 a1 => mm_bd (call 65 [.inr 21, .inl ((S1 21 3) + 2), .inl (S1 21 5)] S1) c1 t1 (fun S2 c2 t2 a2 => mm_bd (call 65 [.inr 21, .inl ((S2 21 3) + 3), .inl x1] S2) c2 t2 (fun S3 c3 t3 a3 => mm_bd (call 65 [.inr 21, .inl ((S3 21 3) + 4), .inl x2] S3) c3 t3 (fun S4 c4 t4 a4 => mm_bd (call 65 [.inr 21, .inl ((S4 21 3) + 5), .inl ((-1))] S4) c4 t4 (fun S5 c5 t5 a5 => some (S5, c5, t5, 0, 0)))))) := by
  refine mm_E_eq [0] 38 ?_
  generalize mm_E call pX5_keepFor 0 = k
  rfl
set_option maxRecDepth 100000 in
theorem eX5_nextBranch_0 {call : Nat → List MV → Mem → Option Res} {S : Mem} {kc ks : Nat}  : mm_E call pX5_nextBranch 1 0 [some (.inr 21), none, none] [] S kc ks = mm_bd (call 63 [.inr 21, .inl 4] S) kc ks (fun S1 c1 t1 a1 => mm_bd (call 63 [.inr 21, .inl 5] S1) c1 t1 (fun S2 c2 t2 a2 => mm_E call pX5_nextBranch 1 10 [some (.inr 21), some (.inl a1), some (.inl (a2 + 1))] [] S2 c2 t2)) := by
  refine mm_E_eq [0, 10] 10 ?_
  generalize mm_E call pX5_nextBranch 1 = k
  rfl
set_option maxRecDepth 100000 in
theorem eX5_nextBranch_10 {call : Nat → List MV → Mem → Option Res} {S : Mem} {kc ks : Nat} {x1 : Int32} {x2 : Int32} : mm_E call pX5_nextBranch 1 10 [some (.inr 21), some (.inl x1), some (.inl x2)] [] S kc ks = mm_bd (call 18 [.inr 1] S) kc ks (fun S1 c1 t1 a1 => (if a1 ≤ x2 then some (S1, c1, t1, 0, (-1)) else mm_bd (call 23 [.inr 1, .inl x2] S1) c1 t1 (fun S2 c2 t2 a2 => (if a2 = x1 then mm_bd (call 26 [.inr 1, .inl x2] S2) c2 t2 (fun S3 c3 t3 a3 => (if a3 = 0 then mm_bd (call 65 [.inr 21, .inl ((S3 21 3) + 5), .inl x2] S3) c3 t3 (fun S4 c4 t4 a4 => some (S4, c4, t4, 0, x2)) else mm_E call pX5_nextBranch 1 10 [some (.inr 21), some (.inl x1), some (.inl (x2 + 1))] [] S3 c3 t3)) else mm_E call pX5_nextBranch 1 10 [some (.inr 21), some (.inl x1), some (.inl (x2 + 1))] [] S2 c2 t2)))) := by
  refine mm_E_eq [0, 10] 25 ?_
  generalize mm_E call pX5_nextBranch 1 = k
  rfl
set_option maxRecDepth 100000 in
theorem eX5_openBranch_0 {call : Nat → List MV → Mem → Option Res} {S : Mem} {kc ks : Nat} {x1 : Int32} {x2 : Int32} : mm_E call pX5_openBranch 2 0 [some (.inr 21), some (.inl x1), some (.inl x2), none, none, none, none, none, none, none, none] [] S kc ks = mm_bd (call 24 [.inr 1, .inl x1] S) kc ks (fun S1 c1 t1 a1 => (if (((S1 21 4) - 1) + a1) ≤ 40 then mm_bd (call 62 [.inr 21, .inl 0] S1) c1 t1 (fun S2 c2 t2 a2 => mm_bd (call 62 [.inr 21, .inl (S2 21 5)] S2) c2 t2 (fun S3 c3 t3 a3 => mm_bd (call 54 [.inr 21, .inl a3, .inl (((S3 21 4) - 1) + a1)] S3) c3 t3 (fun S4 c4 t4 a4 => mm_bd (call 59 [.inr 21, .inl ((S1 21 3) + 6), .inl ((S4 21 3) + 6), .inl x2, .inl (S1 21 4), .inl a1] S4) c4 t4 (fun S5 c5 t5 a5 => mm_E call pX5_openBranch 2 54 [some (.inr 21), some (.inl x1), some (.inl x2), some (.inl a1), some (.inl ((S1 21 3) + 6)), some (.inl (S1 21 4)), some (.inl (S1 21 5)), some (.inl a2), some (.inl 0), none, none] [] S5 c5 t5)))) else some (S1, c1, t1, 0, 0))) := by
  refine mm_E_eq [0, 54, 76] 52 ?_
  generalize mm_E call pX5_openBranch 2 = k
  rfl
set_option maxRecDepth 100000 in
theorem eX5_openBranch_54 {call : Nat → List MV → Mem → Option Res} {S : Mem} {kc ks : Nat} {x1 : Int32} {x2 : Int32} {x3 : Int32} {o4 : Option MV} {x5 : Int32} {x6 : Int32} {x7 : Int32} {x8 : Int32} {o9 : Option MV} {o10 : Option MV} : mm_E call pX5_openBranch 2 54 [some (.inr 21), some (.inl x1), some (.inl x2), some (.inl x3), o4, some (.inl x5), some (.inl x6), some (.inl x7), some (.inl x8), o9, o10] [] S kc ks = (if x3 ≤ x8 then mm_E call pX5_openBranch 2 76 [some (.inr 21), some (.inl x1), some (.inl x2), some (.inl x3), o4, some (.inl x5), some (.inl x6), some (.inl x7), some (.inl 0), o9, o10] [] S kc ks else mm_bd (call 25 [.inr 1, .inl x1, .inl x8] S) kc ks (fun S1 c1 t1 a1 => mm_bd (call 65 [.inr 21, .inl ((((S 21 3) + 6) + x2) + x8), .inl a1] S1) c1 t1 (fun S2 c2 t2 a2 => mm_E call pX5_openBranch 2 54 [some (.inr 21), some (.inl x1), some (.inl x2), some (.inl x3), o4, some (.inl x5), some (.inl x6), some (.inl x7), some (.inl (x8 + 1)), o9, o10] [] S2 c2 t2))) := by
  refine mm_E_eq [0, 54, 76] 20 ?_
  generalize mm_E call pX5_openBranch 2 = k
  rfl
set_option maxRecDepth 100000 in
theorem eX5_openBranch_76 {call : Nat → List MV → Mem → Option Res} {S : Mem} {kc ks : Nat} {x1 : Int32} {x2 : Int32} {x3 : Int32} {o4 : Option MV} {x5 : Int32} {x6 : Int32} {x7 : Int32} {x8 : Int32} {o9 : Option MV} {o10 : Option MV} : mm_E call pX5_openBranch 2 76 [some (.inr 21), some (.inl x1), some (.inl x2), some (.inl x3), o4, some (.inl x5), some (.inl x6), some (.inl x7), some (.inl x8), o9, o10] [] S kc ks = (if x6 ≤ x8 then some (S, kc, ks, 0, 1) else mm_bd (call 64 [.inr 21, .inl ((x7 + 1) + x2)] S) kc ks (fun S1 c1 t1 a1 => (if a1 = ((-1)) then mm_bd (call 64 [.inr 21, .inl x7] S1) c1 t1 (fun S2 c2 t2 a2 => mm_bd (call 55 [.inr 21, .inl a2] S2) c2 t2 (fun S3 c3 t3 a3 => mm_bd (call 59 [.inr 21, .inl (x7 + 1), .inl (a3 + 1), .inl x2, .inl x5, .inl x3] S3) c3 t3 (fun S4 c4 t4 a4 => mm_bd (call 60 [.inr 21, .inl ((a3 + 1) + x2), .inl a1, .inl x3] S4) c4 t4 (fun S5 c5 t5 a5 => mm_E call pX5_openBranch 2 76 [some (.inr 21), some (.inl x1), some (.inl x2), some (.inl x3), o4, some (.inl x5), some (.inl x6), some (.inl (x7 + (x5 + 1))), some (.inl (x8 + 1)), some (.inl a1), some (.inl a3)] [] S5 c5 t5)))) else mm_bd (call 34 [.inr 8, .inl a1] S1) c1 t1 (fun S6 c6 t6 a6 => (if a6 = x1 then mm_bd (call 64 [.inr 21, .inl x7] S6) c6 t6 (fun S7 c7 t7 a7 => mm_bd (call 55 [.inr 21, .inl a7] S7) c7 t7 (fun S8 c8 t8 a8 => mm_bd (call 59 [.inr 21, .inl (x7 + 1), .inl (a8 + 1), .inl x2, .inl x5, .inl x3] S8) c8 t8 (fun S9 c9 t9 a9 => mm_bd (call 60 [.inr 21, .inl ((a8 + 1) + x2), .inl a1, .inl x3] S9) c9 t9 (fun S10 c10 t10 a10 => mm_E call pX5_openBranch 2 76 [some (.inr 21), some (.inl x1), some (.inl x2), some (.inl x3), o4, some (.inl x5), some (.inl x6), some (.inl (x7 + (x5 + 1))), some (.inl (x8 + 1)), some (.inl a1), some (.inl a8)] [] S10 c10 t10)))) else mm_E call pX5_openBranch 2 76 [some (.inr 21), some (.inl x1), some (.inl x2), some (.inl x3), o4, some (.inl x5), some (.inl x6), some (.inl (x7 + (x5 + 1))), some (.inl (x8 + 1)), some (.inl a1), o10] [] S6 c6 t6))))) := by
  refine mm_E_eq [0, 54, 76] 54 ?_
  generalize mm_E call pX5_openBranch 2 = k
  rfl
set_option maxRecDepth 100000 in
theorem eX5_pile_0 {call : Nat → List MV → Mem → Option Res} {S : Mem} {kc ks : Nat} {x1 : Int32} {x2 : Int32} : mm_E call pX5_pile 0 0 [some (.inr 21), some (.inl x1), some (.inl x2)] [] S kc ks = mm_bd (call 67 [.inr 21, .inl ((x1 + 6) + x2)] S) kc ks (fun S1 c1 t1 a1 => mm_bd (call 65 [.inr 21, .inl (x1 + 0), .inl (S1 21 3)] S1) c1 t1 (fun S2 c2 t2 a2 => some (mm_put (mm_put (mm_put S2 21 3 x1) 21 4 x2) 21 5 0, c2, t2, 0, 0))) := by
  refine mm_E_eq [0] 24 ?_
  generalize mm_E call pX5_pile 0 = k
  rfl
set_option maxRecDepth 100000 in
theorem eX5_addLine_0 {call : Nat → List MV → Mem → Option Res} {S : Mem} {kc ks : Nat} {x1 : Int32} : mm_E call pX5_addLine 1 0 [some (.inr 21), some (.inl x1), none] [] S kc ks = mm_bd (call 62 [.inr 21, .inl (S 21 5)] S) kc ks (fun S1 c1 t1 a1 => mm_bd (call 62 [.inr 21, .inl ((mm_put S1 21 5 ((S1 21 5) + 1)) 21 5)] (mm_put S1 21 5 ((S1 21 5) + 1))) c1 t1 (fun S2 c2 t2 a2 => mm_bd (call 67 [.inr 21, .inl a2] S2) c2 t2 (fun S3 c3 t3 a3 => mm_bd (call 65 [.inr 21, .inl a1, .inl x1] S3) c3 t3 (fun S4 c4 t4 a4 => some (S4, c4, t4, 0, a1))))) := by
  refine mm_E_eq [0] 23 ?_
  generalize mm_E call pX5_addLine 1 = k
  rfl
set_option maxRecDepth 100000 in
theorem eX5_splitAt_0 {call : Nat → List MV → Mem → Option Res} {S : Mem} {kc ks : Nat} {x1 : Int32} {x2 : Int32} : mm_E call pX5_splitAt 2 0 [some (.inr 21), some (.inl x1), some (.inl x2), none, none, none, none] [] S kc ks = mm_bd (call 62 [.inr 21, .inl x1] S) kc ks (fun S1 c1 t1 a1 => mm_bd (call 64 [.inr 21, .inl ((a1 + 1) + x2)] S1) c1 t1 (fun S2 c2 t2 a2 => mm_E call pX5_splitAt 2 14 [some (.inr 21), some (.inl x1), some (.inl x2), some (.inl ((a1 + 1) + x2)), some (.inl a2), some (.inl 0), none] [] S2 c2 t2)) := by
  refine mm_E_eq [0, 14] 14 ?_
  generalize mm_E call pX5_splitAt 2 = k
  rfl
set_option maxRecDepth 100000 in
theorem eX5_splitAt_14 {call : Nat → List MV → Mem → Option Res} {S : Mem} {kc ks : Nat} {x1 : Int32} {o2 : Option MV} {x3 : Int32} {x4 : Int32} {x5 : Int32} {o6 : Option MV} : mm_E call pX5_splitAt 2 14 [some (.inr 21), some (.inl x1), o2, some (.inl x3), some (.inl x4), some (.inl x5), o6] [] S kc ks = (if 60 ≤ x5 then some (S, kc, ks, 0, 1) else mm_bd (call 57 [.inr 21, .inl x4] S) kc ks (fun S1 c1 t1 a1 => (if a1 = 0 then some (S1, c1, t1, 0, 1) else (if (S1 21 5) < 60 then mm_bd (call 58 [.inr 21, .inl x1] S1) c1 t1 (fun S2 c2 t2 a2 => mm_bd (call 61 [.inr 21, .inl (x4 + 1)] S2) c2 t2 (fun S3 c3 t3 a3 => mm_bd (call 65 [.inr 21, .inl x3, .inl a3] S3) c3 t3 (fun S4 c4 t4 a4 => mm_bd (call 35 [.inr 8, .inl (x4 + 1)] S4) c4 t4 (fun S5 c5 t5 a5 => mm_bd (call 61 [.inr 21, .inl a5] S5) c5 t5 (fun S6 c6 t6 a6 => mm_bd (call 65 [.inr 21, .inl ((x3 + (S4 21 4)) + 1), .inl a6] S6) c6 t6 (fun S7 c7 t7 a7 => mm_bd (call 64 [.inr 21, .inl x3] S7) c7 t7 (fun S8 c8 t8 a8 => mm_E call pX5_splitAt 2 14 [some (.inr 21), some (.inl x1), o2, some (.inl x3), some (.inl a8), some (.inl (x5 + 1)), some (.inl (x4 + 1))] [] S8 c8 t8))))))) else some (S1, c1, t1, 0, 0))))) := by
  refine mm_E_eq [0, 14] 44 ?_
  generalize mm_E call pX5_splitAt 2 = k
  rfl
set_option maxRecDepth 100000 in
theorem eX5_isEither_0 {call : Nat → List MV → Mem → Option Res} {S : Mem} {kc ks : Nat} {x1 : Int32} : mm_E call pX5_isEither 2 0 [some (.inr 21), some (.inl x1)] [] S kc ks = (if x1 = ((-1)) then some (S, kc, ks, 0, 0) else mm_bd (call 34 [.inr 8, .inl x1] S) kc ks (fun S1 c1 t1 a1 => (if a1 = ((-2)) then some (S1, c1, t1, 0, 1) else some (S1, c1, t1, 0, 0)))) := by
  refine mm_E_eq [0] 12 ?_
  generalize mm_E call pX5_isEither 2 = k
  rfl
set_option maxRecDepth 100000 in
theorem eX5_doubleLine_0 {call : Nat → List MV → Mem → Option Res} {S : Mem} {kc ks : Nat} {x1 : Int32} : mm_E call pX5_doubleLine 0 0 [some (.inr 21), some (.inl x1), none, none] [] S kc ks = mm_bd (call 62 [.inr 21, .inl x1] S) kc ks (fun S1 c1 t1 a1 => mm_bd (call 62 [.inr 21, .inl (S1 21 5)] S1) c1 t1 (fun S2 c2 t2 a2 => mm_bd (call 62 [.inr 21, .inl ((mm_put S2 21 5 ((S2 21 5) + 1)) 21 5)] (mm_put S2 21 5 ((S2 21 5) + 1))) c2 t2 (fun S3 c3 t3 a3 => mm_bd (call 67 [.inr 21, .inl a3] S3) c3 t3 (fun S4 c4 t4 a4 => mm_bd (call 62 [.inr 21, .inl (x1 + 1)] S4) c4 t4 (fun S5 c5 t5 a5 => mm_bd (call 66 [.inr 21, .inl a1, .inl a5, .inl (a2 - a1)] S5) c5 t5 (fun S6 c6 t6 a6 => some (S6, c6, t6, 0, 0))))))) := by
  refine mm_E_eq [0] 33 ?_
  generalize mm_E call pX5_doubleLine 0 = k
  rfl
set_option maxRecDepth 100000 in
theorem eX5_copyAround_0 {call : Nat → List MV → Mem → Option Res} {S : Mem} {kc ks : Nat} {x1 : Int32} {x2 : Int32} {x3 : Int32} {x4 : Int32} {x5 : Int32} : mm_E call pX5_copyAround 0 0 [some (.inr 21), some (.inl x1), some (.inl x2), some (.inl x3), some (.inl x4), some (.inl x5)] [] S kc ks = mm_bd (call 66 [.inr 21, .inl x1, .inl x2, .inl x3] S) kc ks (fun S1 c1 t1 a1 => mm_bd (call 66 [.inr 21, .inl ((x1 + x3) + 1), .inl ((x2 + x3) + x5), .inl ((x4 - x3) - 1)] S1) c1 t1 (fun S2 c2 t2 a2 => some (S2, c2, t2, 0, 0))) := by
  refine mm_E_eq [0] 23 ?_
  generalize mm_E call pX5_copyAround 0 = k
  rfl
set_option maxRecDepth 100000 in
theorem eX5_putFields_0 {call : Nat → List MV → Mem → Option Res} {S : Mem} {kc ks : Nat} {x1 : Int32} {x2 : Int32} {x3 : Int32} : mm_E call pX5_putFields 0 0 [some (.inr 21), some (.inl x1), some (.inl x2), some (.inl x3), none, none] [] S kc ks = mm_E call pX5_putFields 0 6 [some (.inr 21), some (.inl x1), some (.inl x2), some (.inl x3), some (.inl (x2 + 1)), some (.inl 0)] [] S kc ks := by
  refine mm_E_eq [0, 6] 6 ?_
  generalize mm_E call pX5_putFields 0 = k
  rfl
set_option maxRecDepth 100000 in
theorem eX5_putFields_6 {call : Nat → List MV → Mem → Option Res} {S : Mem} {kc ks : Nat} {x1 : Int32} {x2 : Int32} {x3 : Int32} {x4 : Int32} {x5 : Int32} : mm_E call pX5_putFields 0 6 [some (.inr 21), some (.inl x1), some (.inl x2), some (.inl x3), some (.inl x4), some (.inl x5)] [] S kc ks = (if x3 ≤ x5 then some (S, kc, ks, 0, 0) else (if x2 = ((-1)) then mm_bd (call 65 [.inr 21, .inl (x1 + x5), .inl ((-1))] S) kc ks (fun S1 c1 t1 a1 => mm_E call pX5_putFields 0 6 [some (.inr 21), some (.inl x1), some (.inl x2), some (.inl x3), some (.inl x4), some (.inl (x5 + 1))] [] S1 c1 t1) else mm_bd (call 61 [.inr 21, .inl x4] S) kc ks (fun S2 c2 t2 a2 => mm_bd (call 65 [.inr 21, .inl (x1 + x5), .inl a2] S2) c2 t2 (fun S3 c3 t3 a3 => mm_bd (call 35 [.inr 8, .inl x4] S3) c3 t3 (fun S4 c4 t4 a4 => mm_E call pX5_putFields 0 6 [some (.inr 21), some (.inl x1), some (.inl x2), some (.inl x3), some (.inl a4), some (.inl (x5 + 1))] [] S4 c4 t4))))) := by
  refine mm_E_eq [0, 6] 21 ?_
  generalize mm_E call pX5_putFields 0 = k
  rfl
set_option maxRecDepth 100000 in
theorem eX5_cellOf_0 {call : Nat → List MV → Mem → Option Res} {S : Mem} {kc ks : Nat} {x1 : Int32} : mm_E call pX5_cellOf 1 0 [some (.inr 21), some (.inl x1)] [] S kc ks = mm_bd (call 34 [.inr 8, .inl x1] S) kc ks (fun S1 c1 t1 a1 => (if a1 = ((-1)) then some (S1, c1, t1, 0, (-1)) else some (S1, c1, t1, 0, x1))) := by
  refine mm_E_eq [0] 9 ?_
  generalize mm_E call pX5_cellOf 1 = k
  rfl
set_option maxRecDepth 100000 in
theorem eX5_lineAt_0 {call : Nat → List MV → Mem → Option Res} {S : Mem} {kc ks : Nat} {x1 : Int32} : mm_E call pX5_lineAt 1 0 [some (.inr 21), some (.inl x1)] [] S kc ks = some (S, kc, ks, 0, (((S 21 3) + 6) + (S 21 4)) + (x1 * ((S 21 4) + 1))) := by
  refine mm_E_eq [0] 15 ?_
  generalize mm_E call pX5_lineAt 1 = k
  rfl
set_option maxRecDepth 100000 in
theorem eX5_head_0 {call : Nat → List MV → Mem → Option Res} {S : Mem} {kc ks : Nat} {x1 : Int32} : mm_E call pX5_head 1 0 [some (.inr 21), some (.inl x1)] [] S kc ks = (if (S 21 3) < 0 then some (S, kc, ks, 0, (-1)) else mm_bd (call 64 [.inr 21, .inl ((S 21 3) + x1)] S) kc ks (fun S1 c1 t1 a1 => some (S1, c1, t1, 0, a1))) := by
  refine mm_E_eq [0] 11 ?_
  generalize mm_E call pX5_head 1 = k
  rfl
set_option maxRecDepth 100000 in
theorem eX5_get_0 {call : Nat → List MV → Mem → Option Res} {S : Mem} {kc ks : Nat} {x1 : Int32} : mm_E call pX5_get 1 0 [some (.inr 21), some (.inl x1)] [] S kc ks = (if x1 < 0 then some (S, kc, ks, 0, (-1)) else (if (Int32.ofNat (S 55 0).toNatClampNeg) ≤ x1 then some (S, kc, ks, 0, (-1)) else mm_arr S 1 22 x1 (fun q1 => some (S, kc, ks, 0, S 22 q1)))) := by
  refine mm_E_eq [0] 13 ?_
  generalize mm_E call pX5_get 1 = k
  rfl
set_option maxRecDepth 100000 in
theorem eX5_set_0 {call : Nat → List MV → Mem → Option Res} {S : Mem} {kc ks : Nat} {x1 : Int32} {x2 : Int32} : mm_E call pX5_set 0 0 [some (.inr 21), some (.inl x1), some (.inl x2)] [] S kc ks = (if x1 < 0 then some (S, kc, ks, 0, 0) else (if (Int32.ofNat (S 55 0).toNatClampNeg) ≤ x1 then some (S, kc, ks, 0, 0) else mm_arr S 1 22 x1 (fun q1 => some (mm_put S 22 q1 x2, kc, ks, 0, 0)))) := by
  refine mm_E_eq [0] 13 ?_
  generalize mm_E call pX5_set 0 = k
  rfl
set_option maxRecDepth 100000 in
theorem eX5_copy_0 {call : Nat → List MV → Mem → Option Res} {S : Mem} {kc ks : Nat} {x1 : Int32} {x2 : Int32} {x3 : Int32} : mm_E call pX5_copy 0 0 [some (.inr 21), some (.inl x1), some (.inl x2), some (.inl x3), none] [] S kc ks = (if x3 ≤ 0 then some (S, kc, ks, 0, 0) else (if x1 < 0 then some (S, kc, ks, 0, 0) else (if ((Int32.ofNat (S 55 0).toNatClampNeg) - x3) < x1 then some (S, kc, ks, 0, 0) else (if x2 < 0 then some (S, kc, ks, 0, 0) else (if ((Int32.ofNat (S 55 0).toNatClampNeg) - x3) < x2 then some (S, kc, ks, 0, 0) else (if 0 ≤ 8 ∧ (¬ x1 < 0) ∧ (¬ x2 < 0) ∧ (¬ x3 < 0) ∧ x1.toNatClampNeg + x3.toNatClampNeg ≤ mm_len S 22 0 ∧ x2.toNatClampNeg + x3.toNatClampNeg ≤ mm_len S 22 0 then some (mm_stc S 22 (va_cpy (S 22) (S 22) x1.toNatClampNeg x2.toNatClampNeg x3.toNatClampNeg), kc, ks, 0, 0) else none)))))) := by
  refine mm_E_eq [0] 27 ?_
  generalize mm_E call pX5_copy 0 = k
  rfl
