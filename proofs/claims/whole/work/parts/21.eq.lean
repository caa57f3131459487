set_option maxRecDepth 100000 in
theorem eX1_begin_11_0 {call : Nat → List MV → Mem → Option Res} {S : Mem} {kc ks : Nat} {x2 : Int32} : mm_E call pX1_begin 0 0 [some (.inr 11), some (.inr 7), some (.inl x2), none] [] S kc ks = mm_E call pX1_begin 0 13 [some (.inr 11), some (.inr 7), some (.inl x2), some (.inl ((if 3 < x2 then 3 else x2) - 1))] [] (mm_put (mm_put S 11 4 0) 11 5 0) kc ks := by
  refine mm_E_eq [0, 13] 13 ?_
  generalize mm_E call pX1_begin 0 = k
  rfl
set_option maxRecDepth 100000 in
theorem eX1_begin_11_13 {call : Nat → List MV → Mem → Option Res} {S : Mem} {kc ks : Nat} {o2 : Option MV} {x3 : Int32} : mm_E call pX1_begin 0 13 [some (.inr 11), some (.inr 7), o2, some (.inl x3)] [] S kc ks = (if x3 < 0 then some (S, kc, ks, 0, 0) else mm_arr S 1 7 x3 (fun q1 => mm_bd (call 16 [.inr 11, .inl (S 7 q1)] S) kc ks (fun S2 c2 t2 a2 => mm_E call pX1_begin 0 13 [some (.inr 11), some (.inr 7), o2, some (.inl (x3 + (-1)))] [] S2 c2 t2))) := by
  refine mm_E_eq [0, 13] 9 ?_
  generalize mm_E call pX1_begin 0 = k
  rfl
set_option maxRecDepth 100000 in
theorem eX1_begin_15_0 {call : Nat → List MV → Mem → Option Res} {S : Mem} {kc ks : Nat} {x2 : Int32} : mm_E call pX1_begin 0 0 [some (.inr 15), some (.inr 7), some (.inl x2), none] [] S kc ks = mm_E call pX1_begin 0 13 [some (.inr 15), some (.inr 7), some (.inl x2), some (.inl ((if 3 < x2 then 3 else x2) - 1))] [] (mm_put (mm_put S 15 4 0) 15 5 0) kc ks := by
  refine mm_E_eq [0, 13] 13 ?_
  generalize mm_E call pX1_begin 0 = k
  rfl
set_option maxRecDepth 100000 in
theorem eX1_begin_15_13 {call : Nat → List MV → Mem → Option Res} {S : Mem} {kc ks : Nat} {o2 : Option MV} {x3 : Int32} : mm_E call pX1_begin 0 13 [some (.inr 15), some (.inr 7), o2, some (.inl x3)] [] S kc ks = (if x3 < 0 then some (S, kc, ks, 0, 0) else mm_arr S 1 7 x3 (fun q1 => mm_bd (call 16 [.inr 15, .inl (S 7 q1)] S) kc ks (fun S2 c2 t2 a2 => mm_E call pX1_begin 0 13 [some (.inr 15), some (.inr 7), o2, some (.inl (x3 + (-1)))] [] S2 c2 t2))) := by
  refine mm_E_eq [0, 13] 9 ?_
  generalize mm_E call pX1_begin 0 = k
  rfl
set_option maxRecDepth 100000 in
theorem eX1_count_11_0 {call : Nat → List MV → Mem → Option Res} {S : Mem} {kc ks : Nat}  : mm_E call pX1_count 1 0 [some (.inr 11)] [] S kc ks = some (S, kc, ks, 0, S 11 4) := by
  refine mm_E_eq [0] 3 ?_
  generalize mm_E call pX1_count 1 = k
  rfl
set_option maxRecDepth 100000 in
theorem eX1_count_15_0 {call : Nat → List MV → Mem → Option Res} {S : Mem} {kc ks : Nat}  : mm_E call pX1_count 1 0 [some (.inr 15)] [] S kc ks = some (S, kc, ks, 0, S 15 4) := by
  refine mm_E_eq [0] 3 ?_
  generalize mm_E call pX1_count 1 = k
  rfl
set_option maxRecDepth 100000 in
theorem eX1_isFull_11_0 {call : Nat → List MV → Mem → Option Res} {S : Mem} {kc ks : Nat}  : mm_E call pX1_isFull 2 0 [some (.inr 11)] [] S kc ks = (if (S 11 4) < 40 then some (S, kc, ks, 0, 0) else some (S, kc, ks, 0, 1)) := by
  refine mm_E_eq [0] 9 ?_
  generalize mm_E call pX1_isFull 2 = k
  rfl
set_option maxRecDepth 100000 in
theorem eX1_isFull_15_0 {call : Nat → List MV → Mem → Option Res} {S : Mem} {kc ks : Nat}  : mm_E call pX1_isFull 2 0 [some (.inr 15)] [] S kc ks = (if (S 15 4) < 60 then some (S, kc, ks, 0, 0) else some (S, kc, ks, 0, 1)) := by
  refine mm_E_eq [0] 9 ?_
  generalize mm_E call pX1_isFull 2 = k
  rfl
set_option maxRecDepth 100000 in
theorem eX1_asks_11_0 {call : Nat → List MV → Mem → Option Res} {S : Mem} {kc ks : Nat}  : mm_E call pX1_asks 2 0 [some (.inr 11)] [] S kc ks = (if (S 11 5) ≤ 0 then some (S, kc, ks, 0, 0) else some (S, kc, ks, 0, 1)) := by
  refine mm_E_eq [0] 6 ?_
  generalize mm_E call pX1_asks 2 = k
  rfl
set_option maxRecDepth 100000 in
theorem eX1_asks_15_0 {call : Nat → List MV → Mem → Option Res} {S : Mem} {kc ks : Nat}  : mm_E call pX1_asks 2 0 [some (.inr 15)] [] S kc ks = (if (S 15 5) ≤ 0 then some (S, kc, ks, 0, 0) else some (S, kc, ks, 0, 1)) := by
  refine mm_E_eq [0] 6 ?_
  generalize mm_E call pX1_asks 2 = k
  rfl
set_option maxRecDepth 100000 in
theorem eX1_takesMaker_11_0 {call : Nat → List MV → Mem → Option Res} {S : Mem} {kc ks : Nat} {x1 : Int32} : mm_E call pX1_takesMaker 2 0 [some (.inr 11), some (.inl x1)] [] S kc ks = mm_bd (call 9 [.inr 11] S) kc ks (fun S1 c1 t1 a1 => (if a1 = 0 then some (S1, c1, t1, 0, 0) else mm_bd (call 20 [.inr 1, .inl x1] S1) c1 t1 (fun S2 c2 t2 a2 => (if a2 = 0 then some (S2, c2, t2, 0, 0) else mm_bd (call 23 [.inr 1, .inl x1] S2) c2 t2 (fun S3 c3 t3 a3 => mm_bd (call 15 [.inr 11] S3) c3 t3 (fun S4 c4 t4 a4 => (if a3 = a4 then some (S4, c4, t4, 0, 1) else some (S4, c4, t4, 0, 0)))))))) := by
  refine mm_E_eq [0] 18 ?_
  generalize mm_E call pX1_takesMaker 2 = k
  rfl
set_option maxRecDepth 100000 in
theorem eX1_takesMaker_15_0 {call : Nat → List MV → Mem → Option Res} {S : Mem} {kc ks : Nat} {x1 : Int32} : mm_E call pX1_takesMaker 2 0 [some (.inr 15), some (.inl x1)] [] S kc ks = mm_bd (call 9 [.inr 15] S) kc ks (fun S1 c1 t1 a1 => (if a1 = 0 then some (S1, c1, t1, 0, 0) else mm_bd (call 20 [.inr 1, .inl x1] S1) c1 t1 (fun S2 c2 t2 a2 => (if a2 = 0 then some (S2, c2, t2, 0, 0) else mm_bd (call 23 [.inr 1, .inl x1] S2) c2 t2 (fun S3 c3 t3 a3 => mm_bd (call 15 [.inr 15] S3) c3 t3 (fun S4 c4 t4 a4 => (if a3 = a4 then some (S4, c4, t4, 0, 1) else some (S4, c4, t4, 0, 0)))))))) := by
  refine mm_E_eq [0] 18 ?_
  generalize mm_E call pX1_takesMaker 2 = k
  rfl
set_option maxRecDepth 100000 in
theorem eX1_put_11_0 {call : Nat → List MV → Mem → Option Res} {S : Mem} {kc ks : Nat} {x1 : Int32} : mm_E call pX1_put 1 0 [some (.inr 11), some (.inl x1), none, none] [] S kc ks = mm_bd (call 8 [.inr 11] S) kc ks (fun S1 c1 t1 a1 => (if a1 = 0 then mm_bd (call 9 [.inr 11] S1) c1 t1 (fun S2 c2 t2 a2 => (if a2 = 0 then some (S2, c2, t2, 0, S2 11 4) else mm_bd (call 15 [.inr 11] S2) c2 t2 (fun S3 c3 t3 a3 => mm_arr (mm_put S3 11 5 ((S3 11 5) - 1)) 1 12 ((mm_put S3 11 5 ((S3 11 5) - 1)) 11 4) (fun q4 => (if x1 = ((-2)) then mm_bd (call 16 [.inr 11, .inl a3] (mm_put (mm_put (mm_put S3 11 5 ((S3 11 5) - 1)) 12 q4 x1) 11 4 (((mm_put (mm_put S3 11 5 ((S3 11 5) - 1)) 12 q4 x1) 11 4) + 1))) c3 t3 (fun S5 c5 t5 a5 => mm_bd (call 16 [.inr 11, .inl a3] S5) c5 t5 (fun S6 c6 t6 a6 => mm_bd (call 24 [.inr 1, .inl x1] S6) c6 t6 (fun S7 c7 t7 a7 => mm_E call pX1_put 1 46 [some (.inr 11), some (.inl x1), some (.inl a3), some (.inl (a7 - 1))] [] S7 c7 t7))) else mm_bd (call 24 [.inr 1, .inl x1] (mm_put (mm_put (mm_put S3 11 5 ((S3 11 5) - 1)) 12 q4 x1) 11 4 (((mm_put (mm_put S3 11 5 ((S3 11 5) - 1)) 12 q4 x1) 11 4) + 1))) c3 t3 (fun S8 c8 t8 a8 => mm_E call pX1_put 1 46 [some (.inr 11), some (.inl x1), some (.inl a3), some (.inl (a8 - 1))] [] S8 c8 t8)))))) else some (S1, c1, t1, 0, S1 11 4))) := by
  refine mm_E_eq [0, 46] 43 ?_
  generalize mm_E call pX1_put 1 = k
  rfl
set_option maxRecDepth 100000 in
theorem eX1_put_11_46 {call : Nat → List MV → Mem → Option Res} {S : Mem} {kc ks : Nat} {x1 : Int32} {o2 : Option MV} {x3 : Int32} : mm_E call pX1_put 1 46 [some (.inr 11), some (.inl x1), o2, some (.inl x3)] [] S kc ks = (if x3 < 0 then some (S, kc, ks, 0, S 11 4) else mm_bd (call 25 [.inr 1, .inl x1, .inl x3] S) kc ks (fun S1 c1 t1 a1 => mm_bd (call 16 [.inr 11, .inl a1] S1) c1 t1 (fun S2 c2 t2 a2 => mm_E call pX1_put 1 46 [some (.inr 11), some (.inl x1), o2, some (.inl (x3 + (-1)))] [] S2 c2 t2))) := by
  refine mm_E_eq [0, 46] 11 ?_
  generalize mm_E call pX1_put 1 = k
  rfl
set_option maxRecDepth 100000 in
theorem eX1_put_15_0 {call : Nat → List MV → Mem → Option Res} {S : Mem} {kc ks : Nat} {x1 : Int32} : mm_E call pX1_put 1 0 [some (.inr 15), some (.inl x1), none, none] [] S kc ks = mm_bd (call 8 [.inr 15] S) kc ks (fun S1 c1 t1 a1 => (if a1 = 0 then mm_bd (call 9 [.inr 15] S1) c1 t1 (fun S2 c2 t2 a2 => (if a2 = 0 then some (S2, c2, t2, 0, S2 15 4) else mm_bd (call 15 [.inr 15] S2) c2 t2 (fun S3 c3 t3 a3 => mm_arr (mm_put S3 15 5 ((S3 15 5) - 1)) 1 16 ((mm_put S3 15 5 ((S3 15 5) - 1)) 15 4) (fun q4 => (if x1 = ((-2)) then mm_bd (call 16 [.inr 15, .inl a3] (mm_put (mm_put (mm_put S3 15 5 ((S3 15 5) - 1)) 16 q4 x1) 15 4 (((mm_put (mm_put S3 15 5 ((S3 15 5) - 1)) 16 q4 x1) 15 4) + 1))) c3 t3 (fun S5 c5 t5 a5 => mm_bd (call 16 [.inr 15, .inl a3] S5) c5 t5 (fun S6 c6 t6 a6 => mm_bd (call 24 [.inr 1, .inl x1] S6) c6 t6 (fun S7 c7 t7 a7 => mm_E call pX1_put 1 46 [some (.inr 15), some (.inl x1), some (.inl a3), some (.inl (a7 - 1))] [] S7 c7 t7))) else mm_bd (call 24 [.inr 1, .inl x1] (mm_put (mm_put (mm_put S3 15 5 ((S3 15 5) - 1)) 16 q4 x1) 15 4 (((mm_put (mm_put S3 15 5 ((S3 15 5) - 1)) 16 q4 x1) 15 4) + 1))) c3 t3 (fun S8 c8 t8 a8 => mm_E call pX1_put 1 46 [some (.inr 15), some (.inl x1), some (.inl a3), some (.inl (a8 - 1))] [] S8 c8 t8)))))) else some (S1, c1, t1, 0, S1 15 4))) := by
  refine mm_E_eq [0, 46] 43 ?_
  generalize mm_E call pX1_put 1 = k
  rfl
set_option maxRecDepth 100000 in
theorem eX1_put_15_46 {call : Nat → List MV → Mem → Option Res} {S : Mem} {kc ks : Nat} {x1 : Int32} {o2 : Option MV} {x3 : Int32} : mm_E call pX1_put 1 46 [some (.inr 15), some (.inl x1), o2, some (.inl x3)] [] S kc ks = (if x3 < 0 then some (S, kc, ks, 0, S 15 4) else mm_bd (call 25 [.inr 1, .inl x1, .inl x3] S) kc ks (fun S1 c1 t1 a1 => mm_bd (call 16 [.inr 15, .inl a1] S1) c1 t1 (fun S2 c2 t2 a2 => mm_E call pX1_put 1 46 [some (.inr 15), some (.inl x1), o2, some (.inl (x3 + (-1)))] [] S2 c2 t2))) := by
  refine mm_E_eq [0, 46] 11 ?_
  generalize mm_E call pX1_put 1 = k
  rfl
set_option maxRecDepth 100000 in
theorem eX1_signAt_11_0 {call : Nat → List MV → Mem → Option Res} {S : Mem} {kc ks : Nat} {x1 : Int32} : mm_E call pX1_signAt 1 0 [some (.inr 11), some (.inl x1)] [] S kc ks = (if x1 < 0 then some (S, kc, ks, 0, (-3)) else (if (S 11 4) ≤ x1 then some (S, kc, ks, 0, (-3)) else (if 40 ≤ x1 then some (S, kc, ks, 0, (-3)) else mm_arr S 1 12 x1 (fun q1 => some (S, kc, ks, 0, S 12 q1))))) := by
  refine mm_E_eq [0] 17 ?_
  generalize mm_E call pX1_signAt 1 = k
  rfl
set_option maxRecDepth 100000 in
theorem eX1_signAt_15_0 {call : Nat → List MV → Mem → Option Res} {S : Mem} {kc ks : Nat} {x1 : Int32} : mm_E call pX1_signAt 1 0 [some (.inr 15), some (.inl x1)] [] S kc ks = (if x1 < 0 then some (S, kc, ks, 0, (-3)) else (if (S 15 4) ≤ x1 then some (S, kc, ks, 0, (-3)) else (if 60 ≤ x1 then some (S, kc, ks, 0, (-3)) else mm_arr S 1 16 x1 (fun q1 => some (S, kc, ks, 0, S 16 q1))))) := by
  refine mm_E_eq [0] 17 ?_
  generalize mm_E call pX1_signAt 1 = k
  rfl
set_option maxRecDepth 100000 in
theorem eX1_endAt_11_0 {call : Nat → List MV → Mem → Option Res} {S : Mem} {kc ks : Nat} {x1 : Int32} : mm_E call pX1_endAt 1 0 [some (.inr 11), some (.inl x1)] [] S kc ks = (if x1 < 0 then some (S, kc, ks, 0, S 11 4) else (if (S 11 4) ≤ x1 then some (S, kc, ks, 0, S 11 4) else (if 40 ≤ x1 then some (S, kc, ks, 0, S 11 4) else mm_arr S 1 13 x1 (fun q1 => some (S, kc, ks, 0, S 13 q1))))) := by
  refine mm_E_eq [0] 17 ?_
  generalize mm_E call pX1_endAt 1 = k
  rfl
set_option maxRecDepth 100000 in
theorem eX1_endAt_15_0 {call : Nat → List MV → Mem → Option Res} {S : Mem} {kc ks : Nat} {x1 : Int32} : mm_E call pX1_endAt 1 0 [some (.inr 15), some (.inl x1)] [] S kc ks = (if x1 < 0 then some (S, kc, ks, 0, S 15 4) else (if (S 15 4) ≤ x1 then some (S, kc, ks, 0, S 15 4) else (if 60 ≤ x1 then some (S, kc, ks, 0, S 15 4) else mm_arr S 1 17 x1 (fun q1 => some (S, kc, ks, 0, S 17 q1))))) := by
  refine mm_E_eq [0] 17 ?_
  generalize mm_E call pX1_endAt 1 = k
  rfl
set_option maxRecDepth 100000 in
theorem eX1_findEnds_11_0 {call : Nat → List MV → Mem → Option Res} {S : Mem} {kc ks : Nat}  : mm_E call pX1_findEnds 0 0 [some (.inr 11), none, none, none, none, none] [] S kc ks = mm_E call pX1_findEnds 0 9 [some (.inr 11), some (.inl ((if 40 < (S 11 4) then 40 else (S 11 4)) - 1)), none, none, none, none] [] S kc ks := by
  refine mm_E_eq [0, 9, 31] 9 ?_
  generalize mm_E call pX1_findEnds 0 = k
  rfl
set_option maxRecDepth 100000 in
theorem eX1_findEnds_11_9 {call : Nat → List MV → Mem → Option Res} {S : Mem} {kc ks : Nat} {x1 : Int32} {o2 : Option MV} {o3 : Option MV} {o4 : Option MV} {o5 : Option MV} : mm_E call pX1_findEnds 0 9 [some (.inr 11), some (.inl x1), o2, o3, o4, o5] [] S kc ks = (if x1 < 0 then some (S, kc, ks, 0, 0) else mm_bd (call 12 [.inr 11, .inl x1] S) kc ks (fun S1 c1 t1 a1 => (if a1 = ((-2)) then mm_E call pX1_findEnds 0 31 [some (.inr 11), some (.inl x1), some (.inl a1), some (.inl 2), some (.inl (x1 + 1)), some (.inl 0)] [] S1 c1 t1 else mm_bd (call 24 [.inr 1, .inl a1] S1) c1 t1 (fun S2 c2 t2 a2 => mm_E call pX1_findEnds 0 31 [some (.inr 11), some (.inl x1), some (.inl a1), some (.inl a2), some (.inl (x1 + 1)), some (.inl 0)] [] S2 c2 t2)))) := by
  refine mm_E_eq [0, 9, 31] 20 ?_
  generalize mm_E call pX1_findEnds 0 = k
  rfl
set_option maxRecDepth 100000 in
theorem eX1_findEnds_11_31 {call : Nat → List MV → Mem → Option Res} {S : Mem} {kc ks : Nat} {x1 : Int32} {o2 : Option MV} {x3 : Int32} {x4 : Int32} {x5 : Int32} : mm_E call pX1_findEnds 0 31 [some (.inr 11), some (.inl x1), o2, some (.inl x3), some (.inl x4), some (.inl x5)] [] S kc ks = (if x3 ≤ x5 then mm_arr S 1 13 x1 (fun q1 => mm_E call pX1_findEnds 0 9 [some (.inr 11), some (.inl (x1 + (-1))), o2, some (.inl x3), some (.inl x4), some (.inl x5)] [] (mm_put S 13 q1 x4) kc ks) else mm_bd (call 13 [.inr 11, .inl x4] S) kc ks (fun S2 c2 t2 a2 => mm_E call pX1_findEnds 0 31 [some (.inr 11), some (.inl x1), o2, some (.inl x3), some (.inl a2), some (.inl (x5 + 1))] [] S2 c2 t2)) := by
  refine mm_E_eq [0, 9, 31] 10 ?_
  generalize mm_E call pX1_findEnds 0 = k
  rfl
set_option maxRecDepth 100000 in
theorem eX1_findEnds_15_0 {call : Nat → List MV → Mem → Option Res} {S : Mem} {kc ks : Nat}  : mm_E call pX1_findEnds 0 0 [some (.inr 15), none, none, none, none, none] [] S kc ks = mm_E call pX1_findEnds 0 9 [some (.inr 15), some (.inl ((if 60 < (S 15 4) then 60 else (S 15 4)) - 1)), none, none, none, none] [] S kc ks := by
  refine mm_E_eq [0, 9, 31] 9 ?_
  generalize mm_E call pX1_findEnds 0 = k
  rfl
set_option maxRecDepth 100000 in
theorem eX1_findEnds_15_9 {call : Nat → List MV → Mem → Option Res} {S : Mem} {kc ks : Nat} {x1 : Int32} {o2 : Option MV} {o3 : Option MV} {o4 : Option MV} {o5 : Option MV} : mm_E call pX1_findEnds 0 9 [some (.inr 15), some (.inl x1), o2, o3, o4, o5] [] S kc ks = (if x1 < 0 then some (S, kc, ks, 0, 0) else mm_bd (call 12 [.inr 15, .inl x1] S) kc ks (fun S1 c1 t1 a1 => (if a1 = ((-2)) then mm_E call pX1_findEnds 0 31 [some (.inr 15), some (.inl x1), some (.inl a1), some (.inl 2), some (.inl (x1 + 1)), some (.inl 0)] [] S1 c1 t1 else mm_bd (call 24 [.inr 1, .inl a1] S1) c1 t1 (fun S2 c2 t2 a2 => mm_E call pX1_findEnds 0 31 [some (.inr 15), some (.inl x1), some (.inl a1), some (.inl a2), some (.inl (x1 + 1)), some (.inl 0)] [] S2 c2 t2)))) := by
  refine mm_E_eq [0, 9, 31] 20 ?_
  generalize mm_E call pX1_findEnds 0 = k
  rfl
set_option maxRecDepth 100000 in
theorem eX1_findEnds_15_31 {call : Nat → List MV → Mem → Option Res} {S : Mem} {kc ks : Nat} {x1 : Int32} {o2 : Option MV} {x3 : Int32} {x4 : Int32} {x5 : Int32} : mm_E call pX1_findEnds 0 31 [some (.inr 15), some (.inl x1), o2, some (.inl x3), some (.inl x4), some (.inl x5)] [] S kc ks = (if x3 ≤ x5 then mm_arr S 1 17 x1 (fun q1 => mm_E call pX1_findEnds 0 9 [some (.inr 15), some (.inl (x1 + (-1))), o2, some (.inl x3), some (.inl x4), some (.inl x5)] [] (mm_put S 17 q1 x4) kc ks) else mm_bd (call 13 [.inr 15, .inl x4] S) kc ks (fun S2 c2 t2 a2 => mm_E call pX1_findEnds 0 31 [some (.inr 15), some (.inl x1), o2, some (.inl x3), some (.inl a2), some (.inl (x5 + 1))] [] S2 c2 t2)) := by
  refine mm_E_eq [0, 9, 31] 10 ?_
  generalize mm_E call pX1_findEnds 0 = k
  rfl
set_option maxRecDepth 100000 in
theorem eX1_nextAsked_11_0 {call : Nat → List MV → Mem → Option Res} {S : Mem} {kc ks : Nat}  : mm_E call pX1_nextAsked 1 0 [some (.inr 11)] [] S kc ks = (if (S 11 5) ≤ 0 then some (S, kc, ks, 0, (-1)) else (if 83 < (S 11 5) then some (S, kc, ks, 0, (-1)) else mm_arr S 1 14 ((S 11 5) - 1) (fun q1 => some (S, kc, ks, 0, S 14 q1)))) := by
  refine mm_E_eq [0] 18 ?_
  generalize mm_E call pX1_nextAsked 1 = k
  rfl
set_option maxRecDepth 100000 in
theorem eX1_nextAsked_15_0 {call : Nat → List MV → Mem → Option Res} {S : Mem} {kc ks : Nat}  : mm_E call pX1_nextAsked 1 0 [some (.inr 15)] [] S kc ks = (if (S 15 5) ≤ 0 then some (S, kc, ks, 0, (-1)) else (if 123 < (S 15 5) then some (S, kc, ks, 0, (-1)) else mm_arr S 1 18 ((S 15 5) - 1) (fun q1 => some (S, kc, ks, 0, S 18 q1)))) := by
  refine mm_E_eq [0] 18 ?_
  generalize mm_E call pX1_nextAsked 1 = k
  rfl
set_option maxRecDepth 100000 in
theorem eX1_ask_11_0 {call : Nat → List MV → Mem → Option Res} {S : Mem} {kc ks : Nat} {x1 : Int32} : mm_E call pX1_ask 0 0 [some (.inr 11), some (.inl x1)] [] S kc ks = (if (S 11 5) < 0 then some (S, kc, ks, 0, 0) else (if 83 ≤ (S 11 5) then some (S, kc, ks, 0, 0) else mm_arr S 1 14 (S 11 5) (fun q1 => some (mm_put (mm_put S 14 q1 x1) 11 5 (((mm_put S 14 q1 x1) 11 5) + 1), kc, ks, 0, 0)))) := by
  refine mm_E_eq [0] 22 ?_
  generalize mm_E call pX1_ask 0 = k
  rfl
set_option maxRecDepth 100000 in
theorem eX1_ask_15_0 {call : Nat → List MV → Mem → Option Res} {S : Mem} {kc ks : Nat} {x1 : Int32} : mm_E call pX1_ask 0 0 [some (.inr 15), some (.inl x1)] [] S kc ks = (if (S 15 5) < 0 then some (S, kc, ks, 0, 0) else (if 123 ≤ (S 15 5) then some (S, kc, ks, 0, 0) else mm_arr S 1 18 (S 15 5) (fun q1 => some (mm_put (mm_put S 18 q1 x1) 15 5 (((mm_put S 18 q1 x1) 15 5) + 1), kc, ks, 0, 0)))) := by
  refine mm_E_eq [0] 22 ?_
  generalize mm_E call pX1_ask 0 = k
  rfl
